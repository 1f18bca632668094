/-! the class's tokens and the reference's words -/
theorem kd_1 {t : Nat → Int} {n p : Nat} (h : kdF t n p = 1) : isL (t (tokF t n p).2.2.1) ∧ (tokF t n p).2.2.1 < n ∧ (tokF t n p).1 = (wordK (wordF t (n - (tokF t n p).2.2.1) (tokF t n p).2.2.1 0).2).1 ∧ (tokF t n p).2.1 = (wordK (wordF t (n - (tokF t n p).2.2.1) (tokF t n p).2.2.1 0).2).2 ∧ (tokF t n p).2.2.2 = (wordF t (n - (tokF t n p).2.2.1) (tokF t n p).2.2.1 0).1 ∧ (tokF t n p).2.2.2 ≤ (tokF t n p).2.2.1 + 8 := by
  unfold kdF at h
  unfold tokF
  by_cases c : blankF t (n - p) p < n
  · rw [if_pos c] at h ⊢
    generalize blankF t (n - p) p = s at h c ⊢
    unfold tokW
    by_cases c1 : isL (t s)
    · rw [if_pos c1] at h ⊢
      show isL (t s) ∧ s < n ∧ (wordR t n s).1 = (wordK (wordF t (n - s) s 0).2).1 ∧ (wordR t n s).2 = (wordK (wordF t (n - s) s 0).2).2 ∧ (wordF t (n - s) s 0).1 = (wordF t (n - s) s 0).1 ∧ (wordF t (n - s) s 0).1 ≤ s + 8
      by_cases c2 : 8 < ((wordF t (n - s) s 0).1 : Int) - (s : Int)
      · rw [if_pos c2] at h; exact absurd h (by decide)
      · unfold wordR
        rw [if_neg (by omega)]
        exact ⟨c1, c, rfl, rfl, rfl, by omega⟩
    · rw [if_neg c1] at h
      exfalso
      split at h
      · split at h <;> exact absurd h (by decide)
      · split at h <;> exact absurd h (by decide)
  · rw [if_neg c] at h; exact absurd h (by decide)
theorem kd_3 {t : Nat → Int} {n p : Nat} (h : kdF t n p = 3) : isS (t (tokF t n p).2.2.1) ∧ (tokF t n p).2.2.1 < n ∧ (tokF t n p).1 = t (tokF t n p).2.2.1 ∧ (tokF t n p).2.1 = 0 ∧ (tokF t n p).2.2.2 = (tokF t n p).2.2.1 + 1 := by
  unfold kdF at h
  unfold tokF
  by_cases c : blankF t (n - p) p < n
  · rw [if_pos c] at h ⊢
    generalize blankF t (n - p) p = s at h c ⊢
    unfold tokW
    by_cases c1 : isL (t s)
    · rw [if_pos c1] at h
      exfalso
      split at h <;> exact absurd h (by decide)
    · rw [if_neg c1] at h ⊢
      by_cases c2 : isD (t s)
      · rw [if_pos c2] at h
        exfalso
        split at h <;> exact absurd h (by decide)
      · rw [if_neg c2] at h ⊢
        by_cases c3 : isS (t s)
        · exact ⟨c3, c, if_pos c3, rfl, rfl⟩
        · rw [if_neg c3] at h; exact absurd h (by decide)
  · rw [if_neg c] at h; exact absurd h (by decide)
theorem wordK_in (L : Int) : (wordK L).1 = 115 ∨ (wordK L).1 = 102 ∨ (wordK L).1 = 119 ∨ (wordK L).1 = 63 := by
  unfold wordK
  split
  · exact Or.inl rfl
  · split
    · exact Or.inr (Or.inl rfl)
    · split
      · exact Or.inr (Or.inr (Or.inl rfl))
      · exact Or.inr (Or.inr (Or.inr rfl))
/-- the kinds of a token, both ways -/
theorem kd_of {t : Nat → Int} {n p : Nat} : ((tokF t n p).1 = 115 ∨ (tokF t n p).1 = 102 ∨ (tokF t n p).1 = 119 → kdF t n p = 1) ∧ (isS (tokF t n p).1 → kdF t n p = 3) ∧ (kdF t n p = 2 ↔ (tokF t n p).1 = 110) := by
  unfold kdF tokF
  by_cases c : blankF t (n - p) p < n
  · rw [if_pos c, if_pos c]
    generalize blankF t (n - p) p = s at c ⊢
    unfold tokW
    by_cases c1 : isL (t s)
    · rw [if_pos c1, if_pos c1]
      show ((wordR t n s).1 = 115 ∨ (wordR t n s).1 = 102 ∨ (wordR t n s).1 = 119 → _) ∧ (isS (wordR t n s).1 → _) ∧ (_ ↔ (wordR t n s).1 = 110)
      unfold wordR
      by_cases c2 : 8 < ((wordF t (n - s) s 0).1 : Int) - (s : Int)
      · rw [if_pos c2, if_pos (show s + 8 < (wordF t (n - s) s 0).1 by omega)]
        exact ⟨fun z => by exfalso; revert z; decide, fun z => by exfalso; revert z; decide, by decide⟩
      · rw [if_neg c2, if_neg (show ¬ s + 8 < (wordF t (n - s) s 0).1 by omega)]
        have hw := wordK_in (wordF t (n - s) s 0).2
        generalize (wordK (wordF t (n - s) s 0).2).1 = w at hw ⊢
        exact ⟨fun _ => rfl, fun z => by exfalso; omega, ⟨fun z => absurd z (by decide), fun z => by exfalso; omega⟩⟩
    · rw [if_neg c1, if_neg c1]
      by_cases c2 : isD (t s)
      · rw [if_pos c2, if_pos c2]
        show ((if (numF t s (n - s) s 0).1 ≤ s + 3 then (110 : Int) else 63) = 115 ∨ (if (numF t s (n - s) s 0).1 ≤ s + 3 then (110 : Int) else 63) = 102 ∨ (if (numF t s (n - s) s 0).1 ≤ s + 3 then (110 : Int) else 63) = 119 → _) ∧ (isS (if (numF t s (n - s) s 0).1 ≤ s + 3 then (110 : Int) else 63) → _) ∧ (_ ↔ (if (numF t s (n - s) s 0).1 ≤ s + 3 then (110 : Int) else 63) = 110)
        by_cases c3 : (numF t s (n - s) s 0).1 ≤ s + 3
        · rw [if_pos c3, if_neg (show ¬ (3 < ((numF t s (n - s) s 0).1 : Int) - (s : Int)) by omega)]
          exact ⟨fun z => by exfalso; revert z; decide, fun z => by exfalso; revert z; decide, by decide⟩
        · rw [if_neg c3, if_pos (show (3 < ((numF t s (n - s) s 0).1 : Int) - (s : Int)) by omega)]
          exact ⟨fun z => by exfalso; revert z; decide, fun z => by exfalso; revert z; decide, by decide⟩
      · rw [if_neg c2, if_neg c2]
        show ((if isS (t s) then t s else (63 : Int)) = 115 ∨ (if isS (t s) then t s else (63 : Int)) = 102 ∨ (if isS (t s) then t s else (63 : Int)) = 119 → _) ∧ (isS (if isS (t s) then t s else (63 : Int)) → _) ∧ (_ ↔ (if isS (t s) then t s else (63 : Int)) = 110)
        by_cases c3 : isS (t s)
        · rw [if_pos c3, if_pos c3]
          exact ⟨fun z => by exfalso; omega, fun _ => rfl, ⟨fun z => absurd z (by decide), fun z => by exfalso; omega⟩⟩
        · rw [if_neg c3, if_neg c3]
          exact ⟨fun z => by exfalso; revert z; decide, fun z => by exfalso; revert z; decide, by decide⟩
  · rw [if_neg c, if_neg c]
    show ((46 : Int) = 115 ∨ (46 : Int) = 102 ∨ (46 : Int) = 119 → (0 : Int) = 1) ∧ (isS 46 → (0 : Int) = 3) ∧ ((0 : Int) = 2 ↔ (46 : Int) = 110)
    decide
theorem getD_ext {l k : List Int} (h : l.length = k.length) (e : ∀ j, j < k.length → l.getD j 0 = k.getD j 0) : l = k := by
  apply List.ext_getElem h
  intro i h1 h2
  have q := e i h2
  rw [List.getD_eq_getElem?_getD, List.getElem?_eq_getElem h1, List.getD_eq_getElem?_getD, List.getElem?_eq_getElem h2] at q
  exact q
theorem isF_word {t : Nat → Int} {n p : Nat} {w : List Int} (hw : ∀ c ∈ w, isL c) (h0 : 0 < w.length) (h8 : w.length ≤ 8) : isF t (kdF t n p) (tokF t n p).2.2.1 (tokF t n p).2.2.2 w ↔ kdF t n p = 1 ∧ (wordF t (n - (tokF t n p).2.2.1) (tokF t n p).2.2.1 0).2 = w.foldl pk1 0 := by
  have l0 : isL (w.getD 0 0) := by
    apply hw
    rw [List.getD_eq_getElem?_getD, List.getElem?_eq_getElem h0]
    exact List.getElem_mem h0
  refine ⟨fun ⟨g1, g2, g3⟩ => ?_, fun ⟨g1, g2⟩ => ?_⟩
  · rcases g1 with k1 | k3
    · refine ⟨k1, ?_⟩
      obtain ⟨q1, q2, -, -, q5, q6⟩ := kd_1 k1
      rw [q5] at g2 q6
      generalize (tokF t n p).2.2.1 = s at g2 g3 q1 q2 q6 ⊢
      obtain ⟨l, r1, r2, r3, r4⟩ := wordF_fold (t := t) (n - s) s 0
      rw [r2] at g2
      rw [r3]
      rw [getD_ext (l := l) (k := w) (by omega) (fun j hj => (r4 j (by omega)).trans (g3 j hj))]
    · exfalso
      obtain ⟨q1, -, -, -, -⟩ := kd_3 k3
      have := g3 0 h0
      rw [Nat.add_zero] at this
      rw [this] at q1
      omega
  · obtain ⟨q1, q2, -, -, q5, q6⟩ := kd_1 g1
    rw [q5] at q6 ⊢
    generalize (tokF t n p).2.2.1 = s at g2 q1 q2 q6 ⊢
    obtain ⟨l, r1, r2, r3, r4⟩ := wordF_fold (t := t) (n - s) s 0
    rw [r2] at q6 ⊢
    rw [r3] at g2
    have e := word_inj r1 hw (by omega) h8 g2
    subst e
    exact ⟨Or.inl g1, by omega, fun j hj => (r4 j hj).symm⟩
/-- a word of the lists -/
theorem isF_list {t : Nat → Int} {n p i a : Nat} {w : List Int} (hw : ∀ c ∈ w, isL c) (h0 : 0 < w.length) (h8 : w.length ≤ 8) (ha : a = 0 ∨ a = 1 ∨ a = 2) (hi : (numsF (zSTR a) 0)[i]? = some (w.foldl pk1 0)) : isF t (kdF t n p) (tokF t n p).2.2.1 (tokF t n p).2.2.2 w ↔ (tokF t n p).1 = (if a = 0 then 115 else if a = 1 then 102 else 119) ∧ (tokF t n p).2.1 = (i : Int) := by
  rw [isF_word hw h0 h8]
  obtain ⟨-, -, -, -, -, -, hd⟩ := nums_f
  obtain ⟨hd1, n2, -⟩ := List.nodup_append.mp hd
  obtain ⟨n0, n1, -⟩ := List.nodup_append.mp hd1
  refine ⟨fun ⟨g1, g2⟩ => ?_, fun ⟨g1, g2⟩ => ?_⟩
  · obtain ⟨-, -, q3, q4, -, -⟩ := kd_1 g1
    rw [q3, q4, g2]
    obtain ⟨k1, -⟩ := wordK_n (w.foldl pk1 0)
    obtain ⟨k1, k2, k3⟩ := k1 i
    rcases ha with z | z | z <;> subst z
    · rw [k1 hi]; exact ⟨rfl, rfl⟩
    · rw [k2 hi]; exact ⟨rfl, rfl⟩
    · rw [k3 hi]; exact ⟨rfl, rfl⟩
  · have k1 : kdF t n p = 1 := by
      refine kd_of.1 ?_
      rcases ha with z | z | z <;> subst z
      · exact Or.inl g1
      · exact Or.inr (Or.inl g1)
      · exact Or.inr (Or.inr g1)
    refine ⟨k1, ?_⟩
    obtain ⟨-, -, q3, q4, -, -⟩ := kd_1 k1
    rw [q3] at g1
    rw [q4] at g2
    generalize (wordF t (n - (tokF t n p).2.2.1) (tokF t n p).2.2.1 0).2 = L at g1 g2 ⊢
    obtain ⟨-, k2, k3, k4⟩ := wordK_n L
    rcases ha with z | z | z <;> subst z
    · obtain ⟨j, j1, j2⟩ := k2 g1
      have e : j = i := by omega
      rw [e] at j1
      exact Option.some.inj (j1.symm.trans hi)
    · obtain ⟨j, j1, j2⟩ := k3 g1
      have e : j = i := by omega
      rw [e] at j1
      exact Option.some.inj (j1.symm.trans hi)
    · obtain ⟨j, j1, j2⟩ := k4 g1
      have e : j = i := by omega
      rw [e] at j1
      exact Option.some.inj (j1.symm.trans hi)
theorem lists_f : (∀ i : Fin 8, (zSTR (zXQ 1 i.1 - 20)).all (fun c => decide (isL c)) = true ∧ 0 < (zSTR (zXQ 1 i.1 - 20)).length ∧ (zSTR (zXQ 1 i.1 - 20)).length ≤ 8) ∧ (∀ i : Fin 5, (zSTR (zXQ 2 i.1 - 20)).all (fun c => decide (isL c)) = true ∧ 0 < (zSTR (zXQ 2 i.1 - 20)).length ∧ (zSTR (zXQ 2 i.1 - 20)).length ≤ 8) ∧ (∀ i : Fin 4, (zSTR (zXQ 3 i.1 - 20)).all (fun c => decide (isL c)) = true ∧ 0 < (zSTR (zXQ 3 i.1 - 20)).length ∧ (zSTR (zXQ 3 i.1 - 20)).length ≤ 8) ∧ ((zSTR 11).all (fun c => decide (isL c)) = true ∧ 0 < (zSTR 11).length ∧ (zSTR 11).length ≤ 8 ∧ (numsF (zSTR 0) 0)[8]? = some ((zSTR 11).foldl pk1 0)) ∧ zSTR 9 = [125] ∧ zSTR 10 = [123] ∧ zSTR 12 = [59] := by decide +kernel
theorem all_L {w : List Int} (h : w.all (fun c => decide (isL c)) = true) : ∀ c ∈ w, isL c := fun c hc => of_decide_eq_true (List.all_eq_true.mp h c hc)
theorem is_times {t : Nat → Int} {n p : Nat} : isF t (kdF t n p) (tokF t n p).2.2.1 (tokF t n p).2.2.2 (zSTR 11) ↔ (tokF t n p).1 = 115 ∧ (tokF t n p).2.1 = 8 := by
  obtain ⟨-, -, -, ⟨g1, g2, g3, g4⟩, -⟩ := lists_f
  exact isF_list (a := 0) (i := 8) (all_L g1) g2 g3 (Or.inl rfl) g4
theorem is_sym {t : Nat → Int} {n p : Nat} {c : Int} (hc : isS c) : isF t (kdF t n p) (tokF t n p).2.2.1 (tokF t n p).2.2.2 [c] ↔ (tokF t n p).1 = c := by
  refine ⟨fun ⟨g1, g2, g3⟩ => ?_, fun g => ?_⟩
  · have e := g3 0 (Nat.zero_lt_succ _)
    rw [Nat.add_zero] at e
    replace e : t (tokF t n p).2.2.1 = c := e
    rcases g1 with k | k
    · exfalso
      obtain ⟨q1, -⟩ := kd_1 k
      rw [e] at q1
      omega
    · obtain ⟨-, -, q3, -, -⟩ := kd_3 k
      exact q3.trans e
  · have k : kdF t n p = 3 := kd_of.2.1 (by rw [g]; exact hc)
    obtain ⟨-, -, q3, -, q5⟩ := kd_3 k
    refine ⟨Or.inr k, by rw [q5]; show ((_ + 1 : Nat) : Int) - _ = ((1 : Nat) : Int); omega, fun j hj => ?_⟩
    have hj' : j < 1 := hj
    have e : j = 0 := by omega
    subst e
    exact q3.symm.trans g
/-- which word of a list -/
theorem wh_tok {t : Nat → Int} {n p a c : Nat} {W : Int} (ha : a = 1 ∧ c = 8 ∨ a = 2 ∧ c = 5 ∨ a = 3 ∧ c = 4) (h : whR (fun i => isF t (kdF t n p) (tokF t n p).2.2.1 (tokF t n p).2.2.2 (zSTR (zXQ a i - 20))) c W) : (W = -1 ∧ ¬ ((tokF t n p).1 = (if a = 1 then 115 else if a = 2 then 102 else 119) ∧ 0 ≤ (tokF t n p).2.1 ∧ (tokF t n p).2.1 < c)) ∨ ((tokF t n p).1 = (if a = 1 then 115 else if a = 2 then 102 else 119) ∧ 0 ≤ W ∧ W < c ∧ (tokF t n p).2.1 = W) := by
  have key : ∀ i, i < c → (isF t (kdF t n p) (tokF t n p).2.2.1 (tokF t n p).2.2.2 (zSTR (zXQ a i - 20)) ↔ (tokF t n p).1 = (if a = 1 then 115 else if a = 2 then 102 else 119) ∧ (tokF t n p).2.1 = (i : Int)) := by
    intro i hi
    obtain ⟨l1, l2, l3, -⟩ := lists_f
    obtain ⟨m1, m2, m3, -⟩ := nums_f
    rcases ha with ⟨z1, z2⟩ | ⟨z1, z2⟩ | ⟨z1, z2⟩ <;> subst z1 z2
    · obtain ⟨q1, q2, q3⟩ := l1 ⟨i, hi⟩
      exact isF_list (a := 0) (all_L q1) q2 q3 (Or.inl rfl) (m1 ⟨i, hi⟩)
    · obtain ⟨q1, q2, q3⟩ := l2 ⟨i, hi⟩
      exact isF_list (a := 1) (all_L q1) q2 q3 (Or.inr (Or.inl rfl)) (m2 ⟨i, hi⟩)
    · obtain ⟨q1, q2, q3⟩ := l3 ⟨i, hi⟩
      exact isF_list (a := 2) (all_L q1) q2 q3 (Or.inr (Or.inr rfl)) (m3 ⟨i, hi⟩)
  rcases h with ⟨h1, h2⟩ | ⟨w, h1, h2, h3, -⟩
  · refine Or.inl ⟨h1, fun ⟨z1, z2, z3⟩ => ?_⟩
    exact h2 (tokF t n p).2.1.toNat (by omega) ((key _ (by omega)).mpr ⟨z1, by omega⟩)
  · obtain ⟨q1, q2⟩ := (key w h2).mp h3
    exact Or.inr ⟨q1, by omega, by omega, by omega⟩
/-- values of kinds -/
theorem tok_v {t : Nat → Int} {n p : Nat} : ((tokF t n p).1 = 115 → 0 ≤ (tokF t n p).2.1 ∧ (tokF t n p).2.1 ≤ 8) ∧ ((tokF t n p).1 = 102 → 0 ≤ (tokF t n p).2.1 ∧ (tokF t n p).2.1 < 5) ∧ ((tokF t n p).1 = 119 → 0 ≤ (tokF t n p).2.1 ∧ (tokF t n p).2.1 < 4) ∧ (isS (tokF t n p).1 → (tokF t n p).2.1 = 0) := by
  obtain ⟨-, -, -, s0, s1, s2, -⟩ := nums_f
  refine ⟨fun z => ?_, fun z => ?_, fun z => ?_, fun z => (kd_3 (kd_of.2.1 z)).2.2.2.1⟩
  · obtain ⟨-, -, q3, q4, -, -⟩ := kd_1 (kd_of.1 (Or.inl z))
    rw [q3] at z
    rw [q4]
    obtain ⟨j, j1, j2⟩ := (wordK_n _).2.1 z
    have := (List.getElem?_eq_some_iff.mp j1).1
    omega
  · obtain ⟨-, -, q3, q4, -, -⟩ := kd_1 (kd_of.1 (Or.inr (Or.inl z)))
    rw [q3] at z
    rw [q4]
    obtain ⟨j, j1, j2⟩ := (wordK_n _).2.2.1 z
    have := (List.getElem?_eq_some_iff.mp j1).1
    omega
  · obtain ⟨-, -, q3, q4, -, -⟩ := kd_1 (kd_of.1 (Or.inr (Or.inr z)))
    rw [q3] at z
    rw [q4]
    obtain ⟨j, j1, j2⟩ := (wordK_n _).2.2.2 z
    have := (List.getElem?_eq_some_iff.mp j1).1
    omega
