/-! the law's start: zXt -/
theorem zv_ok : (∀ k : Fin 8, ∀ j : Fin 8, 4 ≤ k.1 → (Int32.ofInt ((zXc k.1).getD j.1 0)).toInt = (zXc k.1).getD j.1 0) ∧ (∀ i : Fin 30, (zSTR i.1).all (fun v => decide ((Int32.ofInt v).toInt = v)) = true) := by decide +kernel
theorem zXk_is : ∀ k, (zXk k = 1 → k = 0 ∨ (4 ≤ k ∧ k ≤ 7)) ∧ (zXk k = 2 → 120 ≤ k ∧ k < 150) ∧ (zXk k = 3 → 1 ≤ k ∧ k ≤ 3) := by
  intro k
  unfold zXk
  have e : zSN = 30 := rfl
  rw [e]
  split
  · exact ⟨fun _ => by omega, fun z => absurd z (by decide), fun z => absurd z (by decide)⟩
  · split
    · exact ⟨fun _ => by omega, fun z => absurd z (by decide), fun z => absurd z (by decide)⟩
    · split
      · exact ⟨fun z => absurd z (by decide), fun z => absurd z (by decide), fun _ => by omega⟩
      · split
        · exact ⟨fun z => absurd z (by decide), fun _ => by omega, fun z => absurd z (by decide)⟩
        · exact ⟨fun z => absurd z (by decide), fun z => absurd z (by decide), fun z => absurd z (by decide)⟩
def EvF (b : Nat) (ad : Nat → Nat × Nat) (tA : Nat → Nat) (w8 : Value) (k : Nat) : Value := if k = 0 then .ref b else if k ≤ 7 then .ref (tA k) else if k = 8 then w8 else if 20 ≤ k ∧ k < 50 then .ref (ad (k - 20)).1 else if 120 ≤ k ∧ k < 150 then .ref (ad (k - 120)).2 else .null
theorem zsr_of {p : Nat × Nat} {o : String} {k : Nat} (h : zsrB p o k = true) : ∃ tx, Jvm.Cond.stringRef o k tx ∈ lw_tbl := by
  unfold zsrB at h
  split at h
  · rename_i o' k' tx e
    obtain ⟨h1, h2⟩ := of_decide_eq_true h
    subst h1 h2
    exact ⟨tx, ztb_in (List.mem_of_getElem? e)⟩
  · cases h
theorem zsd_in : ∀ q ∈ zSD, ∃ r ∈ zdL, r.1 = q.2.2.1 ∧ r.2.1 = q.2.2.2.1 ∧ r.2.2.1 = q.2.2.2.2.1 := by decide +kernel
section ZSU
variable {s : State} {b L : Nat} {xs : Nat → Int32}
theorem st_Z (hts : ∀ w ∈ lw_tbl, w.before #[Value.ref b] s = true) {C n dd : String} (h : ∃ r ∈ zdL, r.1 = C ∧ r.2.1 = n ∧ r.2.2.1 = dd) : (Jvm.Cond.laysStatic C n dd).before #[Value.ref b] s = true ∧ (Jvm.Cond.initialized C).before #[Value.ref b] s = true := by
  obtain ⟨r, hr, e1, e2, e3⟩ := h
  obtain ⟨q1, q2⟩ := of_decide_eq_true (List.all_eq_true.mp zdL_all r hr)
  rw [e1] at q2
  rw [e1, e2, e3] at q1
  exact ⟨hts _ (ztb_in (List.mem_of_getElem? q1)), hts _ (ztb_in (List.mem_of_getElem? q2))⟩
theorem start_zXt (hL : L ≤ 3072) (hnw : ∀ c ∈ nwL, c.before #[Value.ref b] s = true) (hts : ∀ w ∈ lw_tbl, w.before #[Value.ref b] s = true) (hX : va_X b L xs s s.heap) (hbl : b < s.heap.size) : ∃ Ev : Nat → Value, Ev 0 = .ref b ∧ (∀ k, (∃ a, Ev k = .ref a) ∨ Ev k = .null) ∧ zXt Ev (fun j => (xs j).toInt) L (fun q => s.heap.size ≤ q) s s.heap := by
  have hA : ∀ a : Nat, a < s.heap.size → ¬ (fun q : Nat => s.heap.size ≤ q) a := fun a h => Nat.not_le.mpr h
  obtain ⟨ad, had⟩ := st_S hnw
  obtain ⟨tA, htA⟩ := st_T hnw (fun i hi => (had i hi).1)
  obtain ⟨n4, n5, n6, n7⟩ := nw_one
  obtain ⟨w8, h8, h8'⟩ := isref_or (hnw _ (List.mem_of_getElem? n7))
  have E0 : EvF b ad tA w8 0 = .ref b := if_pos rfl
  have Ea : ∀ k, 1 ≤ k → k ≤ 7 → EvF b ad tA w8 k = .ref (tA k) := fun k k1 k2 => (if_neg (by omega)).trans (if_pos k2)
  have E8 : EvF b ad tA w8 8 = w8 := rfl
  have Es : ∀ k, 20 ≤ k → k < 50 → EvF b ad tA w8 k = .ref (ad (k - 20)).1 := fun k k1 k2 => (if_neg (by omega)).trans ((if_neg (by omega)).trans ((if_neg (by omega)).trans (if_pos ⟨k1, k2⟩)))
  have Eb : ∀ k, 120 ≤ k → k < 150 → EvF b ad tA w8 k = .ref (ad (k - 120)).2 := fun k k1 k2 => (if_neg (by omega)).trans ((if_neg (by omega)).trans ((if_neg (by omega)).trans ((if_neg (by omega)).trans (if_pos ⟨k1, k2⟩))))
  refine ⟨EvF b ad tA w8, E0, fun k => ?_, ?_, ?_, ?_, ?_, ?_, ?_, ⟨?_, ?_, ?_⟩, ⟨?_, ?_⟩, ?_, ?_⟩
  · unfold EvF
    split
    · exact Or.inl ⟨_, rfl⟩
    · split
      · exact Or.inl ⟨_, rfl⟩
      · split
        · exact h8'.symm.imp id id
        · split
          · exact Or.inl ⟨_, rfl⟩
          · split
            · exact Or.inl ⟨_, rfl⟩
            · exact Or.inr rfl
  · intro k hk
    rcases (zXk_is k).1 hk with z | ⟨z1, z2⟩
    · subst z
      obtain ⟨scr, g1, g2, g3, g4, g5⟩ := hX
      refine ⟨b, xs, E0, ⟨scr, g1, g2, g3, ?_, ?_, fun j hj => g5 j hj, hA b hbl⟩, fun j hj => rfl⟩
      · show L ≤ scr.slots.size; omega
      · rw [g4]; rfl
    · obtain ⟨t1, -, t3⟩ := htA k ⟨by omega, z2⟩
      have e3 : ¬ k ≤ 3 := by omega
      have eN : zXN L k = zaL k := (if_neg (by omega)).trans ((if_neg e3).trans (if_neg e3).symm)
      refine ⟨tA k, fun j => Int32.ofInt ((zXc k).getD j 0), Ea k (by omega) z2, ?_, fun j hj => ?_⟩
      · rw [eN]; exact t3 e3
      · rw [eN] at hj
        have h8 : zaL k ≤ 8 := xq_in.2 ⟨k, by omega⟩
        exact (zv_ok.1 ⟨k, by omega⟩ ⟨j, by omega⟩ z1).trans (if_neg (by omega) : zXI (fun j => (xs j).toInt) k j = _).symm
  · intro k hk
    obtain ⟨z1, z2⟩ := (zXk_is k).2.1 hk
    obtain ⟨-, -, -, -, t5⟩ := had (k - 120) (by omega)
    have ec : zXc k = zSTR (k - 120) := by
      have := (str_chr ⟨k - 120, by omega⟩).1
      have e : 120 + (k - 120) = k := by omega
      have t : zXc (120 + (k - 120)) = zSTR (k - 120) := this
      rwa [e] at t
    have eN : zXN L k = (zSTR (k - 120)).length := by
      unfold zXN
      rw [if_neg (by omega), if_neg (by omega), ec]
    refine ⟨(ad (k - 120)).2, fun j => Int32.ofInt ((zSTR (k - 120)).getD j 0), Eb k z1 z2, by rw [eN]; exact t5, fun j hj => ?_⟩
    rw [eN] at hj
    have e2 : zXI (fun j => (xs j).toInt) k j = (zSTR (k - 120)).getD j 0 := by
      unfold zXI
      rw [if_neg (by omega), ec]
    rw [e2]
    have h3 := List.all_eq_true.mp (zv_ok.2 ⟨k - 120, by omega⟩) _ (List.getElem_mem (l := zSTR (k - 120)) hj)
    show (Int32.ofInt ((zSTR (k - 120)).getD j 0)).toInt = (zSTR (k - 120)).getD j 0
    rw [List.getD_eq_getElem?_getD, List.getElem?_eq_getElem hj, Option.getD_some]
    exact of_decide_eq_true h3
  · intro k hk
    obtain ⟨z1, z2⟩ := (zXk_is k).2.2 hk
    obtain ⟨-, t2, -⟩ := htA k ⟨z1, by omega⟩
    have eN : zXN L k = zaL k := (if_neg (by omega)).trans ((if_pos z2).trans (if_pos z2).symm)
    refine ⟨tA k, Ea k z1 (by omega), ?_⟩
    rw [eN]
    obtain ⟨cell, g1, g2, g3, g4, g5, g6, g7⟩ := t2 z2
    refine ⟨cell, g1, g2, g3, g4, g5, fun j hj => (g6 j hj).trans ?_, g7⟩
    have h8 : zaL k ≤ 8 := xq_in.2 ⟨k, by omega⟩
    have hx := xq_in.1 ⟨k - 1, by omega⟩ ⟨j, by omega⟩ (by show j < zaL (k - 1 + 1); rw [show k - 1 + 1 = k by omega]; exact hj)
    have hx' : 20 ≤ zXQ (k - 1 + 1) j ∧ zXQ (k - 1 + 1) j < 50 := hx
    rw [show k - 1 + 1 = k by omega] at hx'
    show some (Value.ref (ad (zXQ k j - 20)).1) = some (EvF b ad tA w8 (zXQ k j))
    rw [Es _ hx'.1 hx'.2]
  · intro q hq
    obtain ⟨l1, l2⟩ := st_Z hts (zsd_in q hq)
    have key : ∀ w : Value, (Jvm.Term.static q.2.2.1 q.2.2.2.1 q.2.2.2.2.1).eval #[Value.ref b] s none [] s = some w → zvr (EvF b ad tA w8) [] q.2.2.2.2.2 w → ∃ w : Value, zvr (EvF b ad tA w8) [] q.2.2.2.2.2 w ∧ va_Z q.2.2.1 q.2.2.2.1 q.2.2.2.2.1 w (fun q => s.heap.size ≤ q) s s.heap := fun w e1 e2 => ⟨w, e2, va_Zof l1 l2 e1 hA⟩
    have ref : ∀ k, 1 ≤ k → k ≤ 7 → zvr (EvF b ad tA w8) [] (zE k) (.ref (tA k)) := fun k k1 k2 => by
      show (if k = 999 then ∃ a, Value.ref (tA k) = .ref a else Value.ref (tA k) = EvF b ad tA w8 k)
      rw [if_neg (by omega), Ea k k1 k2]
    unfold zSD at hq
    simp only [List.mem_cons, List.not_mem_nil, or_false] at hq
    rcases hq with rfl | rfl | rfl | rfl | rfl | rfl | rfl | rfl | rfl
    · exact key (.int 1) (va_eqt (hnw _ (List.mem_of_getElem? n6))) ⟨1, rfl, rfl⟩
    · have r8 : zvr (EvF b ad tA w8) [] (zE 8) w8 := by
        show (if (8 : Nat) = 999 then (∃ a, w8 = Value.ref a) else w8 = EvF b ad tA w8 8)
        rw [if_neg (by decide)]
        exact E8.symm
      exact key w8 h8 r8
    · exact key _ (htA 1 (by decide)).1 (ref 1 (by decide) (by decide))
    · exact key _ (htA 2 (by decide)).1 (ref 2 (by decide) (by decide))
    · exact key _ (htA 3 (by decide)).1 (ref 3 (by decide) (by decide))
    · exact key _ (htA 5 (by decide)).1 (ref 5 (by decide) (by decide))
    · exact key _ (htA 6 (by decide)).1 (ref 6 (by decide) (by decide))
    · exact key _ (htA 7 (by decide)).1 (ref 7 (by decide) (by decide))
    · exact key _ (htA 4 (by decide)).1 (ref 4 (by decide) (by decide))
  · intro i hi
    have hi' : i < 30 := hi
    obtain ⟨t1, t2, t3, t4, -⟩ := had i hi'
    obtain ⟨tx, htx⟩ := zsr_of (List.all_eq_true.mp zsR_all i (List.mem_range.mpr hi'))
    refine ⟨(ad i).1, (Es (20 + i) (by omega) (by omega)).trans (by rw [show 20 + i - 20 = i by omega]), ?_, t3, t2, tx, vk_R.of (hts _ htx) t1⟩
    rw [Eb (120 + i) (by omega) (by omega), show 120 + i - 120 = i by omega]
    exact t4
  · intro w hw
    obtain ⟨g1, g2⟩ := List.mem_filter.mp hw
    have h := hts w g1
    cases w <;> first | exact h | (exact absurd g2 (by simp [zng]))
  · intro k hk
    obtain ⟨o1, o2, o3, o4, -⟩ := zaO_all
    have hk' : k = 0 ∨ k = 3 ∨ k = 4 ∨ k = 6 := by
      unfold zaok at hk
      simpa using hk
    rcases hk' with z | z | z | z <;> subst z
    · exact va_AO.of (hts _ (ztb_in (List.mem_of_getElem? o4)))
    · exact va_AO.of (hts _ (ztb_in (List.mem_of_getElem? o1)))
    · exact va_AO.of (hts _ (ztb_in (List.mem_of_getElem? o2)))
    · exact va_AO.of (hts _ (ztb_in (List.mem_of_getElem? o3)))
  · exact hts _ (ztb_in (List.mem_of_getElem? zaO_all.2.2.2.2.1))
  · obtain ⟨cA, kA, comp, f1, f2, f3⟩ := Cond.arrayClass_spec (hts _ (ztb_in (List.mem_of_getElem? zaO_all.2.2.2.2.2)))
    exact ⟨cA, f1, fun n z => ⟨(fun k h => by cases h), kA, f2, comp, f3⟩, f1⟩
  · obtain ⟨l1, l2⟩ := st_Z (b := b) (s := s) hts (C := "java/lang/Throwable") (n := "UNASSIGNED_STACK") (dd := "[Ljava/lang/StackTraceElement;") (by decide +kernel)
    exact vx_Zqof l1 l2 (hnw _ (List.mem_of_getElem? n4)) hA
  · obtain ⟨l1, l2⟩ := st_Z (b := b) (s := s) hts (C := "java/lang/Throwable") (n := "SUPPRESSED_SENTINEL") (dd := "Ljava/util/List;") (by decide +kernel)
    exact vx_Zqof l1 l2 (hnw _ (List.mem_of_getElem? n5)) hA
  · intro q hq
    have h := List.all_eq_true.mp zyA_all q hq
    obtain ⟨r, hr, h2⟩ := List.any_eq_true.mp h
    rw [Bool.and_eq_true] at h2
    obtain ⟨h3, h4⟩ := h2
    obtain ⟨-, h6⟩ := of_decide_eq_true h3
    obtain ⟨tx, htx⟩ := zsr_of h4
    obtain ⟨a, c, cA, kA, q1, -⟩ := Cond.exactly_spec (args := #[Value.ref b]) (first := s) (o := none) (s := s) (idx := []) (t := .string (zcn q.1) q.2.2.1) (cls := "java/lang/String") (hnw _ (List.mem_of_getElem? h6))
    exact ⟨tx, a, vk_R.of (hts _ htx) q1⟩
  · intro i j hi hj hne
    obtain ⟨c1, c2, c3, c4, c5, c6⟩ := nw_cast
    have hij : (i = 0 ∧ j = 1) ∨ (i = 0 ∧ j = 2) ∨ (i = 1 ∧ j = 0) ∨ (i = 1 ∧ j = 2) ∨ (i = 2 ∧ j = 0) ∨ (i = 2 ∧ j = 1) := by omega
    rcases hij with ⟨z1, z2⟩ | ⟨z1, z2⟩ | ⟨z1, z2⟩ | ⟨z1, z2⟩ | ⟨z1, z2⟩ | ⟨z1, z2⟩ <;> subst z1 z2
    · exact va_Nc.of (hnw _ (List.mem_of_getElem? c3))
    · exact va_Nc.of (hnw _ (List.mem_of_getElem? c5))
    · exact va_Nc.of (hnw _ (List.mem_of_getElem? c1))
    · exact va_Nc.of (hnw _ (List.mem_of_getElem? c6))
    · exact va_Nc.of (hnw _ (List.mem_of_getElem? c2))
    · exact va_Nc.of (hnw _ (List.mem_of_getElem? c4))
end ZSU
