/-! what a compiled plan keeps -/
def spc : List Int → Nat
  | [] => 0
  | c :: r => (if c = 32 then 1 else 0) + spc r
theorem amongF_in : ∀ (l : List Int) (L acc v : Int), 0 ≤ v → v + (spc l : Int) < 1000000 → v ≤ (amongF l L acc v).2 ∧ (amongF l L acc v).2 ≤ v + (spc l : Int)
  | [], L, acc, v, _, _ => by
    show v ≤ v ∧ v ≤ v + ((0 : Nat) : Int); omega
  | c :: r, L, acc, v, h0, h1 => by
    have es : spc (c :: r) = (if c = 32 then 1 else 0) + spc r := rfl
    unfold amongF
    by_cases hc : c = 32
    · rw [if_pos hc] at es ⊢
      by_cases ha : acc = L
      · rw [if_pos ha]; show v ≤ v ∧ v ≤ _; omega
      · rw [if_neg ha, wr_id (x := v + 1) (by omega) (by omega)]
        have q := amongF_in r L 0 (v + 1) (by omega) (by omega)
        omega
    · rw [if_neg hc] at es ⊢
      have q := amongF_in r L (pk1 acc c) v h0 (by omega)
      omega
theorem spc_f : spc (zSTR 0) = 8 ∧ spc (zSTR 1) = 4 ∧ spc (zSTR 2) = 3 := by decide +kernel
theorem wordK_v (L : Int) : ((wordK L).1 = 115 → 0 ≤ (wordK L).2 ∧ (wordK L).2 ≤ 8) ∧ ((wordK L).1 = 102 → 0 ≤ (wordK L).2 ∧ (wordK L).2 ≤ 4) ∧ ((wordK L).1 = 119 → 0 ≤ (wordK L).2 ∧ (wordK L).2 ≤ 3) := by
  obtain ⟨s0, s1, s2⟩ := spc_f
  have q0 := amongF_in (zSTR 0) L 0 0 (by decide) (by rw [s0]; decide)
  have q1 := amongF_in (zSTR 1) L 0 0 (by decide) (by rw [s1]; decide)
  have q2 := amongF_in (zSTR 2) L 0 0 (by decide) (by rw [s2]; decide)
  rw [s0] at q0
  rw [s1] at q1
  rw [s2] at q2
  unfold wordK
  have n1 : ¬ (115 : Int) = 102 := by decide
  have n2 : ¬ (115 : Int) = 119 := by decide
  have n3 : ¬ (102 : Int) = 115 := by decide
  have n4 : ¬ (102 : Int) = 119 := by decide
  have n5 : ¬ (119 : Int) = 115 := by decide
  have n6 : ¬ (119 : Int) = 102 := by decide
  have n7 : ¬ (63 : Int) = 115 := by decide
  have n8 : ¬ (63 : Int) = 102 := by decide
  have n9 : ¬ (63 : Int) = 119 := by decide
  split
  · exact ⟨fun _ => ⟨q0.1, by show _ ≤ (8 : Int); have := q0.2; omega⟩, fun z => absurd z n1, fun z => absurd z n2⟩
  · split
    · exact ⟨fun z => absurd z n3, fun _ => ⟨q1.1, by show _ ≤ (4 : Int); have := q1.2; omega⟩, fun z => absurd z n4⟩
    · split
      · exact ⟨fun z => absurd z n5, fun z => absurd z n6, fun _ => ⟨q2.1, by show _ ≤ (3 : Int); have := q2.2; omega⟩⟩
      · exact ⟨fun z => absurd z n7, fun z => absurd z n8, fun z => absurd z n9⟩
theorem tokF_v {t : Nat → Int} {n p : Nat} : ((tokF t n p).1 = 115 → 0 ≤ (tokF t n p).2.1 ∧ (tokF t n p).2.1 ≤ 8) ∧ ((tokF t n p).1 = 102 → 0 ≤ (tokF t n p).2.1 ∧ (tokF t n p).2.1 ≤ 4) ∧ ((tokF t n p).1 = 119 → 0 ≤ (tokF t n p).2.1 ∧ (tokF t n p).2.1 ≤ 3) := by
  have no : ∀ k v : Int, k ≠ 115 ∧ k ≠ 102 ∧ k ≠ 119 → (k = 115 → 0 ≤ v ∧ v ≤ 8) ∧ (k = 102 → 0 ≤ v ∧ v ≤ 4) ∧ (k = 119 → 0 ≤ v ∧ v ≤ 3) := fun k v h => ⟨fun z => absurd z h.1, fun z => absurd z h.2.1, fun z => absurd z h.2.2⟩
  unfold tokF
  split
  · unfold tokW
    generalize blankF t (n - p) p = s
    split
    · show ((wordR t n s).1 = 115 → 0 ≤ (wordR t n s).2 ∧ (wordR t n s).2 ≤ 8) ∧ ((wordR t n s).1 = 102 → 0 ≤ (wordR t n s).2 ∧ (wordR t n s).2 ≤ 4) ∧ ((wordR t n s).1 = 119 → 0 ≤ (wordR t n s).2 ∧ (wordR t n s).2 ≤ 3)
      unfold wordR
      split
      · exact no 63 0 (by decide)
      · exact wordK_v _
    · split
      · refine no _ _ ?_
        split
        · exact (by decide : (110 : Int) ≠ 115 ∧ (110 : Int) ≠ 102 ∧ (110 : Int) ≠ 119)
        · exact (by decide : (63 : Int) ≠ 115 ∧ (63 : Int) ≠ 102 ∧ (63 : Int) ≠ 119)
      · refine no _ _ ?_
        split
        · rename_i c
          show t s ≠ 115 ∧ t s ≠ 102 ∧ t s ≠ 119
          omega
        · exact (by decide : (63 : Int) ≠ 115 ∧ (63 : Int) ≠ 102 ∧ (63 : Int) ≠ 119)
  · exact no 46 0 (by decide)
theorem hpL_app {l : List zAc} {q : zAc} : ∀ i, i ≤ l.length → hpL (l ++ [q]) i = hpL l i
  | 0, _ => rfl
  | i + 1, hi => by
    have e : (l ++ [q])[i]? = l[i]? := List.getElem?_append_left (by omega)
    unfold hpL
    rw [e, hpL_app i (by omega)]
theorem givenL.app {l : List zAc} {q : zAc} {i : Nat} {f : Int} (h : givenL l i f) : givenL (l ++ [q]) i f := by
  obtain ⟨j, p, h1, h2, h3⟩ := h
  refine ⟨j, p, h1, ?_, h3⟩
  rw [List.getElem?_append_left (List.getElem?_eq_some_iff.mp h2).1]; exact h2
def PI (st : zPs) : Prop := (∀ q ∈ st.1, acOk q) ∧ st.1.length ≤ 60 ∧ (0 ≤ st.2.1 ∧ st.2.1 ≤ 31) ∧ st.2.2.1 = hpL st.1 st.1.length ∧ ∀ (i : Nat) (q : zAc), st.1[i]? = some q → (q.1 = 0 → givenL st.1 (i + 1) q.2.1 ∨ bAnd st.2.1 (bShl 1 q.2.1) ≠ 0) ∧ (q.1 = 2 → hpL st.1 i = 0) ∧ (3 ≤ q.1 → hpL st.1 i = 1)
theorem PI.ok {st : zPs} (h : PI st) (h1 : st.2.1 = 0) (h2 : st.2.2.1 = 0) : st.1 = [] ∨ planOk st.1 := by
  obtain ⟨a1, a2, a3, a4, a5⟩ := h
  by_cases c : st.1 = []
  · exact Or.inl c
  · refine Or.inr ⟨a1, ⟨a2, List.length_pos_iff.mpr c⟩, fun i q hq => ⟨fun hw => ?_, (a5 i q hq).2⟩, by rw [← a4]; exact h2⟩
    rcases (a5 i q hq).1 hw with z | z
    · exact z
    · have hac := (a1 q (List.mem_of_getElem? hq)).2.1 (by omega)
      obtain ⟨g, hg⟩ := Int.eq_ofNat_of_zero_le hac.1
      rw [h1, hg] at z
      exact absurd (and0 g (by omega)) z
/-- one more action -/
theorem PI.push {l : List zAc} {tk hp bt : Int} {q : zAc} (h : PI (l, tk, hp, bt)) (hl : l.length < 60) (hq : acOk q) (ho : outF q.1 q.2.1 tk hp bt = 0) : PI (l ++ [q], followF q.1 q.2.1 (tk, hp, bt)) := by
  obtain ⟨a1, a2, a3, a4, a5⟩ := h
  replace a4 : hp = hpL l l.length := a4
  have hin := hpL_in (l := l) l.length
  rw [← a4] at hin
  have eL : (l ++ [q])[l.length]? = some q := by rw [List.getElem?_append_right (Nat.le_refl _), Nat.sub_self]; rfl
  have elen : (l ++ [q]).length = l.length + 1 := by rw [List.length_append]; rfl
  have ehp : hpL (l ++ [q]) (l.length + 1) = if q.1 = 2 then 1 else if q.1 = 7 then 0 else hp := by
    rw [hpL_s eL, hpL_app _ (Nat.le_refl _), ← a4]
  have hw := hq.1
  have hf : q.1 ≤ 1 → ∃ g : Nat, q.2.1 = (g : Int) ∧ g < 5 := fun z => by
    have := hq.2.1 z
    exact ⟨q.2.1.toNat, by omega, by omega⟩
  have hpn : (q.1 = 2 → hp = 0) ∧ (3 ≤ q.1 → hp = 1) := by
    unfold outF at ho
    refine ⟨fun z => ?_, fun z => ?_⟩
    · rw [if_neg (show ¬ q.1 = 0 by omega), if_neg (show ¬ q.1 = 1 by omega), if_pos z] at ho; exact ho
    · rw [if_neg (show ¬ q.1 = 0 by omega), if_neg (show ¬ q.1 = 1 by omega), if_neg (show ¬ q.1 = 2 by omega)] at ho
      have hne : hp ≠ 0 := by
        intro hz
        rw [hz] at ho
        split at ho
        · rw [if_pos (Or.inl rfl)] at ho; exact absurd ho (by decide)
        · split at ho
          · rw [if_pos (Or.inl rfl)] at ho; exact absurd ho (by decide)
          · rw [if_pos rfl] at ho; exact absurd ho (by decide)
      exact hin.resolve_left hne
  refine ⟨fun p hp' => ?_, by show (l ++ [q]).length ≤ 60; omega, ?_, ?_, ?_⟩
  · rcases List.mem_append.mp hp' with z | z
    · exact a1 p z
    · rw [List.mem_singleton.mp z]; exact hq
  · show 0 ≤ (followF q.1 q.2.1 (tk, hp, bt)).1 ∧ (followF q.1 q.2.1 (tk, hp, bt)).1 ≤ 31
    unfold followF
    split
    · obtain ⟨g, hg, hg5⟩ := hf (by omega)
      rw [hg]; exact (bit_3 a3 hg5).1
    · split
      · obtain ⟨g, hg, hg5⟩ := hf (by omega)
        rw [hg]; exact (bit_3 a3 hg5).2
      · split
        · exact a3
        · split
          · exact a3
          · split <;> exact a3
  · show (followF q.1 q.2.1 (tk, hp, bt)).2.1 = hpL (l ++ [q]) (l ++ [q]).length
    rw [elen, ehp]
    by_cases c0 : q.1 = 0
    · simp [followF, c0]
    · by_cases c1 : q.1 = 1
      · simp [followF, c1]
      · by_cases c2 : q.1 = 2
        · simp [followF, c2]
        · by_cases c5 : q.1 = 5
          · simp [followF, c5]
          · by_cases c7 : q.1 = 7
            · simp [followF, c7]
            · simp [followF, c0, c1, c2, c5, c7]
  · intro i p hi
    show (p.1 = 0 → givenL (l ++ [q]) (i + 1) p.2.1 ∨ bAnd (followF q.1 q.2.1 (tk, hp, bt)).1 (bShl 1 p.2.1) ≠ 0) ∧ (p.1 = 2 → hpL (l ++ [q]) i = 0) ∧ (3 ≤ p.1 → hpL (l ++ [q]) i = 1)
    replace hi : (l ++ [q])[i]? = some p := hi
    have hlt := (List.getElem?_eq_some_iff.mp hi).1
    by_cases ci : i = l.length
    · subst ci
      rw [eL] at hi
      have epq : p = q := (Option.some.inj hi).symm
      subst epq
      rw [hpL_app _ (Nat.le_refl _), ← a4]
      refine ⟨fun z => Or.inr ?_, hpn.1, hpn.2⟩
      obtain ⟨g, hg, hg5⟩ := hf (by omega)
      have ef : (followF p.1 p.2.1 (tk, hp, bt)).1 = bOr tk (bShl 1 p.2.1) := by unfold followF; rw [if_pos z]
      rw [ef, hg]
      exact fun w => ((bit_4 a3 hg5 hg5).1.mp w).1 rfl
    · have hil : i < l.length := by omega
      have e : (l ++ [q])[i]? = l[i]? := List.getElem?_append_left hil
      rw [e] at hi
      obtain ⟨b1, b2, b3⟩ := a5 i p hi
      rw [hpL_app _ (by omega)]
      refine ⟨fun z => ?_, b2, b3⟩
      rcases b1 z with w | w
      · exact Or.inl w.app
      · have hac := (a1 p (List.mem_of_getElem? hi)).2.1 (by omega)
        obtain ⟨f, hfe⟩ := Int.eq_ofNat_of_zero_le hac.1
        replace w : bAnd tk (bShl 1 p.2.1) ≠ 0 := w
        rw [hfe] at w ⊢
        unfold followF
        by_cases c0 : q.1 = 0
        · obtain ⟨g, hg, hg5⟩ := hf (by omega)
          rw [if_pos c0, hg]
          exact Or.inr (fun v => w ((bit_4 a3 hg5 (by omega : f < 5)).1.mp v).2)
        · by_cases c1 : q.1 = 1
          · obtain ⟨g, hg, hg5⟩ := hf (by omega)
            by_cases cf : f = g
            · refine Or.inl ⟨l.length, q, by omega, eL, c1, ?_⟩
              rw [hg, cf]
            · rw [if_neg c0, if_pos c1, hg]
              exact Or.inr (fun v => ((bit_4 a3 hg5 (by omega : f < 5)).2.mp v).elim cf w)
          · rw [if_neg c0, if_neg c1]
            refine Or.inr ?_
            split
            · exact w
            · split
              · exact w
              · split <;> exact w
