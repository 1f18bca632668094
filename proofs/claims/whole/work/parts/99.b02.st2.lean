/-! the law's start: what was there before -/
theorem mem_sl {α : Type} {l : List α} {a n : Nat} {k : List α} (h : (l.drop a).take n = k) : ∀ c ∈ k, c ∈ l := fun c hc => List.mem_of_mem_drop (List.mem_of_mem_take (by rw [h]; exact hc))
theorem mem_rg {α : Type} {f : Nat → α} {n j : Nat} (h : j < n) : f j ∈ (List.range n).map f := List.mem_map.mpr ⟨j, List.mem_range.mpr h, rfl⟩
theorem va_eqr {args : Array Value} {s : State} {t u : Jvm.Term} {a : Nat} (h : (Jvm.Cond.eq t u).before args s = true) (hu : u.eval args s none [] s = some (.ref a)) : t.eval args s none [] s = some (.ref a) := by
  cases hv : t.eval args s none [] s with
  | none => simp [Cond.before, Cond.holds, Cond.value, hv] at h
  | some w =>
    simp only [Cond.before, Cond.holds, Cond.value, hv, hu] at h
    cases w <;> simp_all
theorem isref_or {args : Array Value} {s : State} {t : Jvm.Term} (h : (Jvm.Cond.isRef t).before args s = true) : ∃ w : Value, t.eval args s none [] s = some w ∧ (w = .null ∨ ∃ a, w = .ref a) := by
  cases hv : t.eval args s none [] s with
  | none => simp [Cond.before, Cond.holds, Cond.value, hv] at h
  | some w =>
    simp only [Cond.before, Cond.holds, Cond.value, hv] at h
    cases w with
    | null => exact ⟨_, rfl, Or.inl rfl⟩
    | ref a => exact ⟨_, rfl, Or.inr ⟨a, rfl⟩⟩
    | _ => simp at h
section ZST
variable {s : State} {b L : Nat} {xs : Nat → Int32}
theorem st_W (hnw : ∀ c ∈ nwL, c.before #[Value.ref b] s = true) {i : Nat} (hi : i < 30) : ∀ c ∈ zsW i, c.before #[Value.ref b] s = true := fun c hc =>
  hnw c (mem_sl (of_decide_eq_true (List.all_eq_true.mp zsW_all i (List.mem_range.mpr hi))) c hc)
theorem st_A (hnw : ∀ c ∈ nwL, c.before #[Value.ref b] s = true) {k : Nat} (hk : 1 ≤ k ∧ k ≤ 7) : ∀ c ∈ zaW k, c.before #[Value.ref b] s = true := fun c hc => by
  have h := List.all_eq_true.mp zaW_all (k - 1) (List.mem_range.mpr (by omega))
  rw [show k - 1 + 1 = k by omega] at h
  exact hnw c (mem_sl (of_decide_eq_true h) c hc)
theorem str_31 : ∀ i : Fin 30, (zSTR i.1).length < 100 := by decide +kernel
theorem st_S (hnw : ∀ c ∈ nwL, c.before #[Value.ref b] s = true) : ∃ ad : Nat → Nat × Nat, ∀ i, i < 30 → (zsT i).eval #[Value.ref b] s none [] s = some (.ref (ad i).1) ∧ va_O "java/lang/String" (ad i).1 (fun q => s.heap.size ≤ q) s s.heap ∧ va_OF "java/lang/String" "coder" "B" (.int 0) (ad i).1 (fun q => s.heap.size ≤ q) s s.heap ∧ va_OF "java/lang/String" "value" "[B" (.ref (ad i).2) (ad i).1 (fun q => s.heap.size ≤ q) s s.heap ∧ va_T .byte (ad i).2 (zSTR i).length (fun j => .int (Int32.ofInt ((zSTR i).getD j 0))) (fun q => s.heap.size ≤ q) s s.heap := by
  have hA : ∀ a : Nat, a < s.heap.size → ¬ (fun q : Nat => s.heap.size ≤ q) a := fun a h => Nat.not_le.mpr h
  have h0 : ∀ i : Nat, ∃ q : Nat × Nat, i < 30 → (zsT i).eval #[Value.ref b] s none [] s = some (.ref q.1) ∧ va_O "java/lang/String" q.1 (fun q => s.heap.size ≤ q) s s.heap ∧ va_OF "java/lang/String" "coder" "B" (.int 0) q.1 (fun q => s.heap.size ≤ q) s s.heap ∧ va_OF "java/lang/String" "value" "[B" (.ref q.2) q.1 (fun q => s.heap.size ≤ q) s s.heap ∧ va_T .byte q.2 (zSTR i).length (fun j => .int (Int32.ofInt ((zSTR i).getD j 0))) (fun q => s.heap.size ≤ q) s s.heap := by
    intro i
    by_cases hi : i < 30
    · have hw := st_W hnw hi
      have w0 := hw _ (List.mem_append_left _ (List.mem_of_getElem? (i := 0) rfl))
      have w1 := hw _ (List.mem_append_left _ (List.mem_of_getElem? (i := 1) rfl))
      have w2 := hw _ (List.mem_append_left _ (List.mem_of_getElem? (i := 2) rfl))
      have w3 := hw _ (List.mem_append_left _ (List.mem_of_getElem? (i := 3) rfl))
      obtain ⟨a, c, cA, kA, q1, q2, q3, q4, q5, q6, -⟩ := Cond.exactly_spec (args := #[Value.ref b]) (first := s) (o := none) (s := s) (idx := []) (t := zsT i) (cls := "java/lang/String") w0
      obtain ⟨t, ht, hT⟩ := va_Tof (f := fun j => .int (Int32.ofInt ((zSTR i).getD j 0))) (A := fun q => s.heap.size ≤ q) (N := (zSTR i).length) (by have := str_31 ⟨i, hi⟩; have e : (zSTR i).length < 100 := this; omega) w2 (va_eqt w3) (fun j hj => va_eqt (hw _ (List.mem_append_right _ (mem_rg hj)))) hA
      exact ⟨(a, t), fun _ => ⟨q1, ⟨cA, q3, q5, by rw [q6]; exact q2, hA a (Array.getElem?_eq_some_iff.mp q3).1⟩, vk_OFof q1 (va_eqt w1) hA, vk_OFof q1 ht hA, hT⟩⟩
    · exact ⟨(0, 0), fun h => absurd h hi⟩
  exact Classical.axiomOfChoice h0
theorem xq_in : (∀ k : Fin 3, ∀ j : Fin 8, j.1 < zaL (k.1 + 1) → 20 ≤ zXQ (k.1 + 1) j.1 ∧ zXQ (k.1 + 1) j.1 < 50) ∧ (∀ k : Fin 8, zaL k.1 ≤ 8) := by decide +kernel
theorem st_T (hnw : ∀ c ∈ nwL, c.before #[Value.ref b] s = true) {ad : Nat → Nat × Nat} (had : ∀ i, i < 30 → (zsT i).eval #[Value.ref b] s none [] s = some (.ref (ad i).1)) : ∃ tA : Nat → Nat, ∀ k, 1 ≤ k ∧ k ≤ 7 → (zaS k).eval #[Value.ref b] s none [] s = some (.ref (tA k)) ∧ (k ≤ 3 → va_T (.object "java/lang/String") (tA k) (zaL k) (fun j => .ref (ad (zXQ k j - 20)).1) (fun q => s.heap.size ≤ q) s s.heap) ∧ (¬ k ≤ 3 → va_T .int (tA k) (zaL k) (fun j => .int (Int32.ofInt ((zXc k).getD j 0))) (fun q => s.heap.size ≤ q) s s.heap) := by
  have hA : ∀ a : Nat, a < s.heap.size → ¬ (fun q : Nat => s.heap.size ≤ q) a := fun a h => Nat.not_le.mpr h
  have h0 : ∀ k : Nat, ∃ t : Nat, 1 ≤ k ∧ k ≤ 7 → (zaS k).eval #[Value.ref b] s none [] s = some (.ref t) ∧ (k ≤ 3 → va_T (.object "java/lang/String") t (zaL k) (fun j => .ref (ad (zXQ k j - 20)).1) (fun q => s.heap.size ≤ q) s s.heap) ∧ (¬ k ≤ 3 → va_T .int t (zaL k) (fun j => .int (Int32.ofInt ((zXc k).getD j 0))) (fun q => s.heap.size ≤ q) s s.heap) := by
    intro k
    by_cases hk : 1 ≤ k ∧ k ≤ 7
    · have hw := st_A hnw hk
      have w0 := hw _ (List.mem_append_left _ (List.mem_of_getElem? (i := 0) rfl))
      have w1 := hw _ (List.mem_append_left _ (List.mem_of_getElem? (i := 1) rfl))
      have hl8 : zaL k ≤ 8 := xq_in.2 ⟨k, by omega⟩
      by_cases c3 : k ≤ 3
      · rw [if_pos c3] at w0
        obtain ⟨t, ht, hT⟩ := va_Tof (f := fun j => .ref (ad (zXQ k j - 20)).1) (A := fun q => s.heap.size ≤ q) (N := zaL k) (by omega) w0 (va_eqt w1) (fun j hj => by
          have w := hw _ (List.mem_append_right _ (mem_rg hj))
          rw [if_pos c3] at w
          have hx := xq_in.1 ⟨k - 1, by omega⟩ ⟨j, by omega⟩ (by show j < zaL (k - 1 + 1); rw [show k - 1 + 1 = k by omega]; exact hj)
          have hx' : 20 ≤ zXQ (k - 1 + 1) j ∧ zXQ (k - 1 + 1) j < 50 := hx
          rw [show k - 1 + 1 = k by omega] at hx'
          exact va_eqr w (had _ (by omega))) hA
        exact ⟨t, fun _ => ⟨ht, fun _ => hT, fun z => absurd c3 z⟩⟩
      · rw [if_neg c3] at w0
        obtain ⟨t, ht, hT⟩ := va_Tof (f := fun j => .int (Int32.ofInt ((zXc k).getD j 0))) (A := fun q => s.heap.size ≤ q) (N := zaL k) (by omega) w0 (va_eqt w1) (fun j hj => by
          have w := hw _ (List.mem_append_right _ (mem_rg hj))
          rw [if_neg c3] at w
          exact va_eqt w) hA
        exact ⟨t, fun _ => ⟨ht, fun z => absurd z c3, fun _ => hT⟩⟩
    · exact ⟨0, fun z => absurd z hk⟩
  exact Classical.axiomOfChoice h0
end ZST
