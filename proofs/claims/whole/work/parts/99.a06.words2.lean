/-! a word among words -/
def numsF : List Int → Int → List Int
  | [], acc => [acc]
  | c :: r, acc => if c = 32 then acc :: numsF r 0 else numsF r (pk1 acc c)
theorem amongF_n : ∀ (l : List Int) (L acc v : Int), 0 ≤ v → v + (spc l : Int) < 1000000 → (∃ i : Nat, (numsF l acc)[i]? = some L ∧ amongF l L acc v = (1, v + (i : Int))) ∨ ((∀ i : Nat, (numsF l acc)[i]? ≠ some L) ∧ (amongF l L acc v).1 = 0)
  | [], L, acc, v, _, _ => by
    by_cases c : acc = L
    · refine Or.inl ⟨0, by rw [c]; rfl, ?_⟩
      show (if acc = L then (1 : Int) else 0, v) = (1, v + ((0 : Nat) : Int))
      rw [if_pos c]
      exact congrArg (Prod.mk 1) (by omega)
    · refine Or.inr ⟨fun i z => ?_, if_neg c⟩
      have z' : [acc][i]? = some L := z
      cases i with
      | zero => exact c (Option.some.inj z')
      | succ i => exact absurd z' (by simp)
  | c :: r, L, acc, v, h0, h1 => by
    have es : spc (c :: r) = (if c = 32 then 1 else 0) + spc r := rfl
    by_cases hc : c = 32
    · rw [if_pos hc] at es
      have en : numsF (c :: r) acc = acc :: numsF r 0 := if_pos hc
      have ea : amongF (c :: r) L acc v = if acc = L then (1, v) else amongF r L 0 (wr (v + 1)) := if_pos hc
      rw [en, ea]
      by_cases ha : acc = L
      · rw [if_pos ha]
        exact Or.inl ⟨0, by rw [ha]; rfl, congrArg (Prod.mk 1) (by omega)⟩
      · rw [if_neg ha, wr_id (x := v + 1) (by omega) (by omega)]
        rcases amongF_n r L 0 (v + 1) (by omega) (by omega) with ⟨i, g1, g2⟩ | ⟨g1, g2⟩
        · exact Or.inl ⟨i + 1, g1, g2.trans (congrArg (Prod.mk 1) (by omega))⟩
        · refine Or.inr ⟨fun i z => ?_, g2⟩
          cases i with
          | zero => exact ha (Option.some.inj z)
          | succ i => exact g1 i z
    · rw [if_neg hc] at es
      have en : numsF (c :: r) acc = numsF r (pk1 acc c) := if_neg hc
      have ea : amongF (c :: r) L acc v = amongF r L (pk1 acc c) v := if_neg hc
      rw [en, ea]
      exact amongF_n r L (pk1 acc c) v h0 (by omega)
theorem nums_f : (∀ i : Fin 8, (numsF (zSTR 0) 0)[i.1]? = some ((zSTR (zXQ 1 i.1 - 20)).foldl pk1 0)) ∧ (∀ i : Fin 5, (numsF (zSTR 1) 0)[i.1]? = some ((zSTR (zXQ 2 i.1 - 20)).foldl pk1 0)) ∧ (∀ i : Fin 4, (numsF (zSTR 2) 0)[i.1]? = some ((zSTR (zXQ 3 i.1 - 20)).foldl pk1 0)) ∧ (numsF (zSTR 0) 0).length = 9 ∧ (numsF (zSTR 1) 0).length = 5 ∧ (numsF (zSTR 2) 0).length = 4 ∧ (numsF (zSTR 0) 0 ++ numsF (zSTR 1) 0 ++ numsF (zSTR 2) 0).Nodup := by decide +kernel
theorem wordF_fold {t : Nat → Int} : ∀ (k p : Nat) (a : Int), ∃ l : List Int, (∀ c ∈ l, isL c) ∧ (wordF t k p a).1 = p + l.length ∧ (wordF t k p a).2 = l.foldl pk1 a ∧ ∀ j, j < l.length → l.getD j 0 = t (p + j)
  | 0, p, a => ⟨[], fun c hc => absurd hc List.not_mem_nil, rfl, rfl, fun j hj => absurd hj (Nat.not_lt_zero _)⟩
  | k + 1, p, a => by
    unfold wordF
    by_cases c : isL (t p)
    · rw [if_pos c]
      obtain ⟨l, g1, g2, g3, g4⟩ := wordF_fold k (p + 1) (pk1 a (t p))
      refine ⟨t p :: l, fun q hq => ?_, by rw [g2, List.length_cons]; omega, g3, fun j hj => ?_⟩
      · rcases List.mem_cons.mp hq with z | z
        · rw [z]; exact c
        · exact g1 q z
      · cases j with
        | zero => rfl
        | succ j =>
          have hj' : j < l.length := by rw [List.length_cons] at hj; omega
          have := g4 j hj'
          rw [show p + (j + 1) = p + 1 + j by omega]
          exact this
    · rw [if_neg c]
      exact ⟨[], fun c hc => absurd hc List.not_mem_nil, rfl, rfl, fun j hj => absurd hj (Nat.not_lt_zero _)⟩
