/-! the reference reads a number, compares a word -/
theorem wr_sj {s j : Nat} (h : s + j < 1000000) : wr ((s : Int) + (j : Int)) = ((s + j : Nat) : Int) := by
  rw [wr_id (x := (s : Int) + (j : Int)) (by omega) (by omega)]; omega
section ZSQ
variable {xs : Nat → Int} {xl d : Nat} {m : zM} {Q : zRes → zM → Prop}
theorem tok_110 {t : Nat → Int} {n p : Nat} (h : (tokF t n p).1 = 110) : (tokF t n p).2.2.1 < n ∧ (tokF t n p).2.1 = (numF t (tokF t n p).2.2.1 (n - (tokF t n p).2.2.1) (tokF t n p).2.2.1 0).2 ∧ (tokF t n p).2.2.2 = (numF t (tokF t n p).2.2.1 (n - (tokF t n p).2.2.1) (tokF t n p).2.2.1 0).1 ∧ (tokF t n p).2.2.2 ≤ (tokF t n p).2.2.1 + 3 := by
  unfold tokF at h ⊢
  by_cases c : blankF t (n - p) p < n
  · rw [if_pos c] at h ⊢
    generalize blankF t (n - p) p = s at h c ⊢
    unfold tokW at h ⊢
    by_cases c1 : isL (t s)
    · rw [if_pos c1] at h
      exfalso
      replace h : (wordR t n s).1 = 110 := h
      unfold wordR at h
      split at h
      · exact absurd h (show ¬ (63 : Int) = 110 by decide)
      · unfold wordK at h
        split at h
        · exact absurd h (show ¬ (115 : Int) = 110 by decide)
        · split at h
          · exact absurd h (show ¬ (102 : Int) = 110 by decide)
          · split at h
            · exact absurd h (show ¬ (119 : Int) = 110 by decide)
            · exact absurd h (show ¬ (63 : Int) = 110 by decide)
    · rw [if_neg c1] at h ⊢
      by_cases c2 : isD (t s)
      · rw [if_pos c2] at h ⊢
        replace h : (if (numF t s (n - s) s 0).1 ≤ s + 3 then (110 : Int) else 63) = 110 := h
        refine ⟨c, rfl, rfl, ?_⟩
        show (numF t s (n - s) s 0).1 ≤ s + 3
        split at h
        · assumption
        · exact absurd h (by decide)
      · rw [if_neg c2] at h
        exfalso
        replace h : (if isS (t s) then t s else (63 : Int)) = 110 := h
        split at h
        · rename_i c3; omega
        · exact absurd h (by decide)
  · rw [if_neg c] at h
    exact absurd h (show ¬ (46 : Int) = 110 by decide)
theorem M_numberAt {x n E k : Nat} {t : Nat → Int} (h : SR m x n t (E + 1)) (hk : k ≤ E) (hE : E ≤ n) (hkd : (tkF t n k).1 = 110) (hQ : Q (.inl (some (zI (tkF t n k).2.1))) m) : zC xs xl (d + 1) 172 [zR x, zI (k : Int)] m Q := by
  obtain ⟨g1, ⟨g2, g3, g4⟩, g5⟩ := id h
  obtain ⟨-, -, ⟨r0, r1, r2, r3, -⟩, ⟨k0, k1, k2, k3, -⟩, n0, n1, n2, n3, -⟩ := id g1
  obtain ⟨w1, w2, w3⟩ := g5 k (by omega)
  obtain ⟨t1, t2, t3, t4⟩ := tok_110 hkd
  have w3' : mA m (x + 4) k = (((tkF t n k).2.2.2 : Nat) : Int) := w3
  rw [t2] at hQ
  replace hQ : Q (.inl (some (zI (numF t (tkF t n k).2.2.1 (n - (tkF t n k).2.2.1) (tkF t n k).2.2.1 0).2))) m := hQ
  replace t3 : (tkF t n k).2.2.2 = (numF t (tkF t n k).2.2.1 (n - (tkF t n k).2.2.1) (tkF t n k).2.2.1 0).1 := t3
  replace t4 : (tkF t n k).2.2.2 ≤ (tkF t n k).2.2.1 + 3 := t4
  replace t1 : (tkF t n k).2.2.1 < n := t1
  generalize (tkF t n k).2.2.2 = e at w3' t3 t4
  generalize (tkF t n k).2.2.1 = s at w2 t1 t3 t4 hQ
  have lp : ∀ (r q : Nat) (v : Int), r = n - q → s ≤ q → q ≤ n → e = (numF t s (n - q) q v).1 → Q (.inl (some (zI (numF t s (n - q) q v).2))) m → zW xs xl d cX12_numberAt 12 (some .int) false [] 9 [zR x, zI (k : Int), zI v, zI (q : Int)] [] m Q := by
    intro r
    induction r with
    | zero =>
      intro q v er hs hq he hw
      rw [← er] at he hw
      refine bX12_numberAt_9 ⟨g1.1, ?_⟩
      rw [r3, k3, n3, r0, k0, n0, Int.toNat_natCast, w3']
      have he' : e = q := he
      exact ⟨rfl, by omega, fun _ => hw, fun z => absurd (by omega) z⟩
    | succ r ih =>
      intro q v er hs hq he hw
      rw [show n - q = (n - (q + 1)) + 1 by omega] at he hw
      unfold numF at he hw
      refine bX12_numberAt_9 ⟨g1.1, ?_⟩
      rw [r3, k3, n3, r0, k0, n0, Int.toNat_natCast, Int.toNat_natCast, w3', g4 q (by omega), wr_s (i := q) (by omega)]
      by_cases c : isD (t q)
      · rw [if_pos c] at he hw
        have hin := numF_in (t := t) (s := s) (k := n - (q + 1)) (p := q + 1) (a := if q < s + 3 then wr (wr (wr (v * 10) + t q) - 48) else v)
        have hlt : q < s + 3 := by omega
        rw [if_pos hlt] at he hw hin
        refine ⟨rfl, by omega, fun z => absurd z (by omega), fun _ => ⟨rfl, by omega, ?_⟩⟩
        rw [show 10 * v = v * 10 from Int.mul_comm _ _]
        exact ih (q + 1) _ (by omega) (by omega) (by omega) he hw
      · rw [if_neg c] at he hw
        have he' : e = q := he
        exact ⟨rfl, by omega, fun _ => hw, fun z => absurd (by omega) z⟩
  refine bX12_numberAt_0 ⟨g1.1, ?_⟩
  rw [r2, k2, n2, Int.toNat_natCast, w2]
  exact ⟨rfl, by omega, lp (n - s) s 0 rfl (Nat.le_refl _) (by omega) t3 hQ⟩
/-- the letters from s to e are the word w -/
def isF (t : Nat → Int) (kd : Int) (s e : Nat) (w : List Int) : Prop := (kd = 1 ∨ kd = 3) ∧ (e : Int) - (s : Int) = w.length ∧ ∀ j, j < w.length → t (s + j) = w.getD j 0
theorem M_is {x n E k a : Nat} {t : Nat → Int} (h : SR m x n t (E + 1)) (hk : k ≤ E) (hE : E ≤ n) (ha : 20 ≤ a ∧ a < 50) (hT : isF t (kdF t n (plF t n k)) (tkF t n k).2.2.1 (plF t n (k + 1)) (zSTR (a - 20)) → Q (.inl (some (zI 1))) m) (hF : ¬ isF t (kdF t n (plF t n k)) (tkF t n k).2.2.1 (plF t n (k + 1)) (zSTR (a - 20)) → Q (.inl (some (zI 0))) m) : zC xs xl (d + 5) 170 [zR x, zI (k : Int), zE a] m Q := by
  obtain ⟨g1, ⟨g2, g3, g4⟩, g5⟩ := id h
  obtain ⟨-, -, ⟨r0, r1, r2, r3, -⟩, ⟨k0, k1, k2, k3, -⟩, n0, n1, n2, n3, -⟩ := id g1
  obtain ⟨w1, w2, w3⟩ := g5 k (by omega)
  have hs := (tokF_in (t := t) (plF_in t n k)).2.2
  replace hs : (tkF t n k).2.2.1 ≤ n := hs
  have hen := plF_in t n (k + 1)
  generalize kdF t n (plF t n k) = kd at w1 hT hF
  generalize (tkF t n k).2.2.1 = s at w2 hs hT hF
  generalize plF t n (k + 1) = e at w3 hen hT hF
  have lp0 : Q (.inl (some (zI 0))) m → ∀ (j : Nat), j ≤ (zSTR (a - 20)).length → zW xs xl (d + 4) cX12_is 12 (some .boolean) false [] 49 [zR x, zI (k : Int), zE a, zI 0, zI (j : Int)] [] m Q := fun hq j _ => bX12_is_49 ⟨ha, C_strlen ha ⟨_, rfl, fun _ => ⟨Or.inl rfl, hq⟩, fun _ => ⟨fun _ => ⟨Or.inl rfl, hq⟩, fun z => absurd rfl z⟩⟩⟩
  have lp1 : (kd = 1 ∨ kd = 3) → (e : Int) - (s : Int) = (zSTR (a - 20)).length → ∀ (r j : Nat), r + j = (zSTR (a - 20)).length → (∀ i, i < j → t (s + i) = (zSTR (a - 20)).getD i 0) → zW xs xl (d + 4) cX12_is 12 (some .boolean) false [] 49 [zR x, zI (k : Int), zE a, zI 1, zI (j : Int)] [] m Q := by
    intro h1 h2 r
    induction r with
    | zero =>
      intro j ej hj
      have ej' : j = (zSTR (a - 20)).length := by omega
      refine bX12_is_49 ⟨ha, C_strlen ha ⟨_, rfl, fun _ => ⟨Or.inr rfl, hT ⟨h1, h2, fun i hi => hj i (by omega)⟩⟩, fun z => absurd (by omega) z⟩⟩
    | succ r ih =>
      intro j ej hj
      have hsj : s + j < n := by omega
      refine bX12_is_49 ⟨ha, C_strlen ha ⟨_, rfl, fun z => absurd z (by omega), fun _ => ⟨fun z => absurd z (by decide), fun _ => ⟨g1.1, ?_⟩⟩⟩⟩
      rw [r2, k2, n2, r0, k0, n0, Int.toNat_natCast, w2, wr_sj (s := s) (j := j) (by omega), Int.toNat_natCast, g4 (s + j) hsj, wr_s (i := j) (by omega)]
      refine ⟨rfl, by omega, rfl, by omega, C_charAt ha (by omega) ⟨_, rfl, fun z => ?_, fun z => ?_⟩⟩
      · exact lp0 (hF (fun q => z (q.2.2 j (by omega)))) (j + 1) (by omega)
      · refine ih (j + 1) (by omega) (fun i hi => ?_)
        by_cases ci : i = j
        · rw [ci]; exact Decidable.not_not.mp z
        · exact hj i (by omega)
  have p20 : (kd = 1 ∨ kd = 3) → ∀ u v : zV, zW xs xl (d + 4) cX12_is 12 (some .boolean) false [] 20 [zR x, zI (k : Int), zE a, u, v] [] m Q := by
    intro h1 u v
    refine bX12_is_20 ⟨g1.1, ?_⟩
    rw [r3, k3, n3, r2, k2, n2, Int.toNat_natCast, w3, w2, wr_id (x := (e : Int) - (s : Int)) (by omega) (by omega)]
    refine ⟨rfl, by omega, rfl, by omega, ha, C_strlen ha ⟨_, rfl, fun z => ?_, fun z => ?_⟩⟩
    · exact lp0 (hF (fun q => z q.2.1)) 0 (Nat.zero_le _)
    · exact lp1 h1 (Decidable.not_not.mp z) (zSTR (a - 20)).length 0 (by omega) (fun i hi => absurd hi (Nat.not_lt_zero _))
  refine bX12_is_0 ⟨g1.1, ?_⟩
  rw [r1, k1, n1, Int.toNat_natCast, w1]
  refine ⟨rfl, by omega, fun c => p20 (Or.inl c) _ _, fun c => ⟨fun c2 => ?_, fun c2 => p20 (Or.inr (Decidable.not_not.mp c2)) _ _⟩⟩
  exact lp0 (hF (fun q => q.1.elim c c2)) 0 (Nat.zero_le _)
end ZSQ
