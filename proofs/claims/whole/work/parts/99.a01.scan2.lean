/-! one token of the reference -/
theorem blank_y {t : Nat → Int} {n p : Nat} (hp : p < n) (h : isB (t p)) : blankF t (n - p) p = blankF t (n - (p + 1)) (p + 1) := by
  rw [show n - p = (n - (p + 1)) + 1 by omega]
  exact if_pos h
theorem blank_n {t : Nat → Int} {n p : Nat} (h : p < n → ¬ isB (t p)) : blankF t (n - p) p = p := by
  by_cases hp : p < n
  · rw [show n - p = (n - (p + 1)) + 1 by omega]
    exact if_neg (h hp)
  · rw [show n - p = 0 by omega]; rfl
section ZSO
variable {xs : Nat → Int} {xl d : Nat} {m : zM} {Q : zRes → zM → Prop}
theorem M_scan10 {x n i : Nat} {t : Nat → Int} {a1 a3 : Int} (h : SR m x n t i) : ∀ (r p : Nat) (u v : zV), r = n - p → p ≤ n → (∀ (s e : Nat) (k : Int), s = (tokF t n p).2.2.1 → e = (tokF t n p).2.2.2 → k = kdF t n p → zW xs xl (d + 2) cX12_scan 12 (none) false [] 176 [zR x, zI a1, zI (s : Int), zI a3, zI (e : Int), zI k] [] m Q) → zW xs xl (d + 2) cX12_scan 12 (none) false [] 10 [zR x, zI a1, zI (p : Int), zI a3, u, v] [] m Q := by
  have hn := h.2.1.2.1
  have hN := h.2.1.1
  intro r
  induction r with
  | zero =>
    intro p u v e hp hw
    have ep : p = n := by omega
    subst ep
    have ea : atF t p p = -1 := if_neg (by omega)
    have eb : blankF t (p - p) p = p := blank_n (fun z => absurd z (by omega))
    have et : tokF t p p = (46, 0, p, p) := by
      unfold tokF
      rw [eb, if_neg (by omega)]
    have ek : kdF t p p = 0 := by
      unfold kdF
      rw [eb, if_neg (by omega)]
    have hw' := hw p p 0 (by rw [et]) (by rw [et]) ek.symm
    refine bX12_scan_10 ⟨h.1.1, M_tapeAt h ⟨_, rfl, ?_⟩⟩
    rw [ea]
    refine ⟨fun z => absurd z (by decide), fun _ => ⟨h.1.1, M_tapeAt h ⟨_, rfl, ?_⟩⟩⟩
    rw [ea]
    refine ⟨fun _ => ⟨h.1.1, M_isLetter h (fun c => ?_) (fun c => ⟨0, rfl, fun _ => ⟨h.1.1, M_isDigit h (fun c => ?_) (fun c => ⟨0, rfl, fun _ => ⟨h.1.1, ?_⟩, fun z => absurd rfl z⟩)⟩, fun z => absurd rfl z⟩)⟩, fun z => absurd (by decide) z⟩
    · rw [ea] at c; exact absurd c (by decide)
    · rw [ea] at c; exact absurd c (by decide)
    · rw [hN]
      exact ⟨fun _ => hw', fun z => absurd (Int.le_refl _) z⟩
  | succ r ih =>
    intro p u v e hp hw
    have hlt : p < n := by omega
    have ea : atF t n p = t p := if_pos hlt
    have em : mA m (x + 1) p = t p := h.2.1.2.2 p hlt
    have nx : isB (t p) → zW xs xl (d + 2) cX12_scan 12 (none) false [] 10 [zR x, zI a1, zI ((p + 1 : Nat) : Int), zI a3, u, v] [] m Q := by
      intro c
      refine ih (p + 1) u v (by omega) (by omega) (fun s e k h1 h2 h3 => hw s e k ?_ ?_ ?_)
      · rw [h1]; unfold tokF; rw [blank_y hlt c]
      · rw [h2]; unfold tokF; rw [blank_y hlt c]
      · rw [h3]; unfold kdF; rw [blank_y hlt c]
    refine bX12_scan_10 ⟨h.1.1, M_tapeAt h ⟨_, rfl, ?_⟩⟩
    rw [ea, wr_s (i := p) (by omega)]
    refine ⟨fun c => nx (Or.inl c), fun c32 => ⟨h.1.1, M_tapeAt h ⟨_, rfl, ?_⟩⟩⟩
    rw [ea]
    refine ⟨fun c10 => ⟨h.1.1, ?_⟩, fun c => nx (Or.inr (Decidable.not_not.mp c))⟩
    have nb : ¬ isB (t p) := fun z => z.elim c32 c10
    have eb : blankF t (n - p) p = p := blank_n (fun _ => nb)
    have et : tokF t n p = tokW t n p := by
      unfold tokF
      rw [eb, if_pos hlt]
    have ek : kdF t n p = if isL (t p) then (if 8 < ((wordF t (n - p) p 0).1 : Int) - (p : Int) then 4 else 1) else if isD (t p) then (if 3 < ((numF t p (n - p) p 0).1 : Int) - (p : Int) then 4 else 2) else if isS (t p) then 3 else 4 := by
      unfold kdF
      rw [eb, if_pos hlt]
    rw [et, ek] at hw
    unfold tokW at hw
    refine M_isLetter h (fun c => ⟨1, rfl, fun z => absurd z (by decide), fun _ => ?_⟩) (fun c => ⟨0, rfl, fun _ => ⟨h.1.1, M_isDigit h (fun c2 => ⟨1, rfl, fun z => absurd z (by decide), fun _ => ?_⟩) (fun c2 => ⟨0, rfl, fun _ => ⟨h.1.1, ?_⟩, fun z => absurd rfl z⟩)⟩, fun z => absurd rfl z⟩)
    · rw [ea] at c
      rw [if_pos c, if_pos c] at hw
      exact M_scanW h (n - p) p 0 rfl (Nat.le_refl _) hp (hw p _ _ rfl rfl rfl)
    · rw [ea] at c c2
      rw [if_neg c, if_neg c, if_pos c2, if_pos c2] at hw
      exact M_scanN h (n - p) p 0 rfl (Nat.le_refl _) hp (hw p _ _ rfl rfl rfl)
    · rw [ea] at c c2
      rw [if_neg c, if_neg c, if_neg c2, if_neg c2] at hw
      have hw' : ∀ k : Int, k = (if isS (t p) then 3 else 4) → zW xs xl (d + 2) cX12_scan 12 (none) false [] 176 [zR x, zI a1, zI (p : Int), zI a3, zI ((p + 1 : Nat) : Int), zI k] [] m Q := fun k hk => hw p (p + 1) k rfl rfl hk
      rw [hN, h.1.2.2.1.1, h.1.2.2.2.1.1, h.1.2.2.2.2.1, Int.toNat_natCast, em]
      refine ⟨fun z => absurd z (by omega), fun _ => ⟨rfl, by omega, fun z => hw' 3 (if_pos (Or.inl z)).symm, fun z => ⟨fun z2 => hw' 3 (if_pos (Or.inr (Or.inl z2))).symm, fun z2 => ⟨fun z3 => hw' 4 (if_neg (fun w => w.elim z (fun w => w.elim z2 z3))).symm, fun z3 => hw' 3 (if_pos (Or.inr (Or.inr (Decidable.not_not.mp z3)))).symm⟩⟩⟩⟩
end ZSO
