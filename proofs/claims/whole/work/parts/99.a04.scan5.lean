/-! which word a token is -/
def whR (P : Nat → Prop) (c : Nat) (W : Int) : Prop := (W = -1 ∧ ∀ i, i < c → ¬ P i) ∨ ∃ w : Nat, W = (w : Int) ∧ w < c ∧ P w ∧ ∀ i, w < i → i < c → ¬ P i
theorem whR.y {P : Nat → Prop} {c : Nat} (h : P c) : whR P (c + 1) (c : Int) := Or.inr ⟨c, rfl, Nat.lt_succ_self _, h, fun i h1 h2 => absurd h1 (by omega)⟩
theorem whR.n {P : Nat → Prop} {c : Nat} {W : Int} (g : whR P c W) (h : ¬ P c) : whR P (c + 1) W := by
  rcases g with ⟨g1, g2⟩ | ⟨w, g1, g2, g3, g4⟩
  · refine Or.inl ⟨g1, fun i hi => ?_⟩
    by_cases ci : i = c
    · rw [ci]; exact h
    · exact g2 i (by omega)
  · refine Or.inr ⟨w, g1, by omega, g3, fun i h1 h2 => ?_⟩
    by_cases ci : i = c
    · rw [ci]; exact h
    · exact g4 i h1 (by omega)
theorem which_f : (∀ i : Fin 8, 20 ≤ zXQ 1 i.1 ∧ zXQ 1 i.1 < 50) ∧ (∀ i : Fin 5, 20 ≤ zXQ 2 i.1 ∧ zXQ 2 i.1 < 50) ∧ (∀ i : Fin 4, 20 ≤ zXQ 3 i.1 ∧ zXQ 3 i.1 < 50) ∧ zXk 1 = 3 ∧ zXk 2 = 3 ∧ zXk 3 = 3 := by decide +kernel
section ZSR
variable {xs : Nat → Int} {xl d : Nat} {m : zM} {Q : zRes → zM → Prop}
theorem M_which {x n E k a c : Nat} {t : Nat → Int} (h : SR m x n t (E + 1)) (hk : k ≤ E) (hE : E ≤ n) (ha : a = 1 ∧ c = 8 ∨ a = 2 ∧ c = 5 ∨ a = 3 ∧ c = 4) (hQ : ∀ W, whR (fun i => isF t (kdF t n (plF t n k)) (tkF t n k).2.2.1 (plF t n (k + 1)) (zSTR (zXQ a i - 20))) c W → Q (.inl (some (zI W))) m) : zC xs xl (d + 6) 171 [zR x, zI (k : Int), zE a] m Q := by
  obtain ⟨f1, f2, f3, e1, e2, e3⟩ := which_f
  have hq : ∀ i, i < c → 20 ≤ zXQ a i ∧ zXQ a i < 50 := by
    intro i hi
    rcases ha with ⟨p1, p2⟩ | ⟨p1, p2⟩ | ⟨p1, p2⟩ <;> subst p1 p2
    · exact f1 ⟨i, hi⟩
    · exact f2 ⟨i, hi⟩
    · exact f3 ⟨i, hi⟩
  have hkd : zXk a = 3 := by rcases ha with ⟨p1, p2⟩ | ⟨p1, p2⟩ | ⟨p1, p2⟩ <;> rw [p1] <;> assumption
  have hN : zXN xl a = c := by
    rcases ha with ⟨p1, p2⟩ | ⟨p1, p2⟩ | ⟨p1, p2⟩ <;> subst p1 p2 <;> rfl
  have hc : c ≤ 8 := by omega
  have lp : ∀ (r i : Nat) (W : Int), r + i = c → whR (fun i => isF t (kdF t n (plF t n k)) (tkF t n k).2.2.1 (plF t n (k + 1)) (zSTR (zXQ a i - 20))) i W → zW xs xl (d + 5) cX12_which 12 (some .int) false [] 5 [zR x, zI (k : Int), zE a, zI W, zI (i : Int)] [] m Q := by
    intro r
    induction r with
    | zero =>
      intro i W e g
      have ei : i = c := by omega
      subst ei
      refine bX12_which_5 ⟨by rw [hkd]; decide, ?_⟩
      rw [hN, wr_id (x := ((i : Nat) : Int)) (by omega) (by omega)]
      exact ⟨fun _ => hQ W g, fun z => absurd (Int.le_refl _) z⟩
    | succ r ih =>
      intro i W e g
      refine bX12_which_5 ⟨by rw [hkd]; decide, ?_⟩
      rw [hN, wr_id (x := ((c : Nat) : Int)) (by omega) (by omega), Int.toNat_natCast, wr_s (i := i) (by omega)]
      refine ⟨fun z => absurd z (by omega), fun _ => ⟨⟨hkd, by omega, by omega⟩, h.1.1, M_is h hk hE (hq i (by omega)) (fun q => ⟨1, rfl, fun z => absurd z (by decide), fun _ => ?_⟩) (fun q => ⟨0, rfl, fun _ => ?_, fun z => absurd rfl z⟩)⟩⟩
      · exact ih (i + 1) _ (by omega) (whR.y q)
      · exact ih (i + 1) _ (by omega) (g.n q)
  exact bX12_which_0 (lp c 0 (-1) (by omega) (Or.inl ⟨rfl, fun i hi => absurd hi (Nat.not_lt_zero _)⟩))
end ZSR
