/-! a word of the reference is a word of the class -/
theorem dup_ix {l : List Int} (h : l.Nodup) {i j : Nat} {v : Int} (hi : l[i]? = some v) (hj : l[j]? = some v) : i = j := by
  exact (List.getElem?_inj (List.getElem?_eq_some_iff.mp hi).1 h).mp (hi.trans hj.symm)
/-- the lists' numbers apart -/
theorem nums_apart {L : Int} : ((∃ i : Nat, (numsF (zSTR 0) 0)[i]? = some L) → (∀ i : Nat, (numsF (zSTR 1) 0)[i]? ≠ some L) ∧ ∀ i : Nat, (numsF (zSTR 2) 0)[i]? ≠ some L) ∧ ((∃ i : Nat, (numsF (zSTR 1) 0)[i]? = some L) → ∀ i : Nat, (numsF (zSTR 2) 0)[i]? ≠ some L) := by
  obtain ⟨-, -, -, -, -, -, hd⟩ := nums_f
  obtain ⟨hd1, -, hd2⟩ := List.nodup_append.mp hd
  obtain ⟨-, -, hd3⟩ := List.nodup_append.mp hd1
  refine ⟨fun ⟨i, hi⟩ => ⟨fun j hj => ?_, fun j hj => ?_⟩, fun ⟨i, hi⟩ j hj => ?_⟩
  · exact hd3 L (List.mem_of_getElem? hi) L (List.mem_of_getElem? hj) rfl
  · exact hd2 L (List.mem_append_left _ (List.mem_of_getElem? hi)) L (List.mem_of_getElem? hj) rfl
  · exact hd2 L (List.mem_append_right _ (List.mem_of_getElem? hi)) L (List.mem_of_getElem? hj) rfl
/-- the kind and value of a word by its number -/
theorem wordK_n (L : Int) : (∀ i : Nat, ((numsF (zSTR 0) 0)[i]? = some L → wordK L = (115, (i : Int))) ∧ ((numsF (zSTR 1) 0)[i]? = some L → wordK L = (102, (i : Int))) ∧ ((numsF (zSTR 2) 0)[i]? = some L → wordK L = (119, (i : Int)))) ∧ ((wordK L).1 = 115 → ∃ i : Nat, (numsF (zSTR 0) 0)[i]? = some L ∧ (wordK L).2 = (i : Int)) ∧ ((wordK L).1 = 102 → ∃ i : Nat, (numsF (zSTR 1) 0)[i]? = some L ∧ (wordK L).2 = (i : Int)) ∧ ((wordK L).1 = 119 → ∃ i : Nat, (numsF (zSTR 2) 0)[i]? = some L ∧ (wordK L).2 = (i : Int)) := by
  obtain ⟨s0, s1, s2⟩ := spc_f
  obtain ⟨-, -, -, -, -, -, hd⟩ := nums_f
  obtain ⟨hd1, n2, -⟩ := List.nodup_append.mp hd
  obtain ⟨n0, n1, -⟩ := List.nodup_append.mp hd1
  have ap := nums_apart (L := L)
  have q0 := amongF_n (zSTR 0) L 0 0 (by decide) (by rw [s0]; decide)
  have q1 := amongF_n (zSTR 1) L 0 0 (by decide) (by rw [s1]; decide)
  have q2 := amongF_n (zSTR 2) L 0 0 (by decide) (by rw [s2]; decide)
  have m1 : ¬ (115 : Int) = 102 := by decide
  have m2 : ¬ (115 : Int) = 119 := by decide
  have m3 : ¬ (102 : Int) = 115 := by decide
  have m4 : ¬ (102 : Int) = 119 := by decide
  have m5 : ¬ (119 : Int) = 115 := by decide
  have m6 : ¬ (119 : Int) = 102 := by decide
  have m7 : ¬ (63 : Int) = 115 := by decide
  have m8 : ¬ (63 : Int) = 102 := by decide
  have m9 : ¬ (63 : Int) = 119 := by decide
  rcases q0 with ⟨i0, g0, e0⟩ | ⟨g0, e0⟩
  · have ek : wordK L = (115, (i0 : Int)) := by
      unfold wordK
      rw [e0, if_pos (show (1 : Int) ≠ 0 by decide)]
      exact congrArg (Prod.mk 115) (by omega)
    rw [ek]
    refine ⟨fun i => ⟨fun z => by rw [dup_ix n0 g0 z], fun z => absurd z ((ap.1 ⟨i0, g0⟩).1 i), fun z => absurd z ((ap.1 ⟨i0, g0⟩).2 i)⟩, fun _ => ⟨i0, g0, rfl⟩, fun z => absurd z m1, fun z => absurd z m2⟩
  · rcases q1 with ⟨i1, g1, e1⟩ | ⟨g1, e1⟩
    · have ek : wordK L = (102, (i1 : Int)) := by
        unfold wordK
        rw [e0, e1, if_neg (show ¬ (0 : Int) ≠ 0 by decide), if_pos (show (1 : Int) ≠ 0 by decide)]
        exact congrArg (Prod.mk 102) (by omega)
      rw [ek]
      exact ⟨fun i => ⟨fun z => absurd z (g0 i), fun z => by rw [dup_ix n1 g1 z], fun z => absurd z (ap.2 ⟨i1, g1⟩ i)⟩, fun z => absurd z m3, fun _ => ⟨i1, g1, rfl⟩, fun z => absurd z m4⟩
    · rcases q2 with ⟨i2, g2, e2⟩ | ⟨g2, e2⟩
      · have ek : wordK L = (119, (i2 : Int)) := by
          unfold wordK
          rw [e0, e1, e2, if_neg (show ¬ (0 : Int) ≠ 0 by decide), if_neg (show ¬ (0 : Int) ≠ 0 by decide), if_pos (show (1 : Int) ≠ 0 by decide)]
          exact congrArg (Prod.mk 119) (by omega)
        rw [ek]
        exact ⟨fun i => ⟨fun z => absurd z (g0 i), fun z => absurd z (g1 i), fun z => by rw [dup_ix n2 g2 z]⟩, fun z => absurd z m5, fun z => absurd z m6, fun _ => ⟨i2, g2, rfl⟩⟩
      · have ek : (wordK L).1 = 63 := by
          unfold wordK
          rw [e0, e1, e2, if_neg (show ¬ (0 : Int) ≠ 0 by decide), if_neg (show ¬ (0 : Int) ≠ 0 by decide), if_neg (show ¬ (0 : Int) ≠ 0 by decide)]
        rw [ek]
        exact ⟨fun i => ⟨fun z => absurd z (g0 i), fun z => absurd z (g1 i), fun z => absurd z (g2 i)⟩, fun z => absurd z m7, fun z => absurd z m8, fun z => absurd z m9⟩
