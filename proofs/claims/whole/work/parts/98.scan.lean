/-! the reference cuts the tape into tokens -/
def kdF (t : Nat → Int) (n p : Nat) : Int :=
  if blankF t (n - p) p < n then
    (if isL (t (blankF t (n - p) p)) then (if 8 < ((wordF t (n - blankF t (n - p) p) (blankF t (n - p) p) 0).1 : Int) - (blankF t (n - p) p : Int) then 4 else 1)
     else if isD (t (blankF t (n - p) p)) then (if 3 < ((numF t (blankF t (n - p) p) (n - blankF t (n - p) p) (blankF t (n - p) p) 0).1 : Int) - (blankF t (n - p) p : Int) then 4 else 2)
     else if isS (t (blankF t (n - p) p)) then 3 else 4)
  else 0
def SR (m : zM) (x n : Nat) (t : Nat → Int) (i : Nat) : Prop := MdF m x ∧ (mI m 770 x = n ∧ n ≤ 1000 ∧ ∀ j, j < n → mA m (x + 1) j = t j) ∧ ∀ k, k < i → mA m (x + 2) k = kdF t n (plF t n k) ∧ mA m (x + 3) k = (((tkF t n k).2.2.1 : Nat) : Int) ∧ mA m (x + 4) k = ((plF t n (k + 1) : Nat) : Int)
section ZSN
variable {xs : Nat → Int} {xl d : Nat} {m : zM} {Q : zRes → zM → Prop}
theorem M_tapeAt {x n i p : Nat} {t : Nat → Int} (h : SR m x n t i) (hQ : Q (.inl (some (zI (atF t n p)))) m) : zC xs xl (d + 1) 166 [zR x, zI (p : Int)] m Q := by
  unfold atF at hQ
  obtain ⟨h1, ⟨h2, h3, h4⟩, -⟩ := h
  refine bX12_tapeAt_0 ⟨h1.1, ?_⟩
  rw [h2, h1.2.2.1.1, h1.2.2.2.1.1, h1.2.2.2.2.1, Int.toNat_natCast]
  refine ⟨fun c => ?_, fun c => ⟨rfl, by omega, ?_⟩⟩
  · rwa [if_neg (by omega)] at hQ
  · rw [if_pos (by omega)] at hQ
    rw [h4 p (by omega)]; exact hQ
theorem M_isLetter {x n i p : Nat} {t : Nat → Int} (h : SR m x n t i) (hT : isL (atF t n p) → Q (.inl (some (zI 1))) m) (hF : ¬ isL (atF t n p) → Q (.inl (some (zI 0))) m) : zC xs xl (d + 2) 167 [zR x, zI (p : Int)] m Q :=
  bX12_isLetter_0 ⟨h.1.1, M_tapeAt h ⟨_, rfl, M_in (fun c => ⟨1, rfl, Or.inr rfl, hT c⟩) (fun c => ⟨0, rfl, Or.inl rfl, hF c⟩)⟩⟩
theorem M_isDigit {x n i p : Nat} {t : Nat → Int} (h : SR m x n t i) (hT : isD (atF t n p) → Q (.inl (some (zI 1))) m) (hF : ¬ isD (atF t n p) → Q (.inl (some (zI 0))) m) : zC xs xl (d + 2) 168 [zR x, zI (p : Int)] m Q :=
  bX12_isDigit_0 ⟨h.1.1, M_tapeAt h ⟨_, rfl, M_in (fun c => ⟨1, rfl, Or.inr rfl, hT c⟩) (fun c => ⟨0, rfl, Or.inl rfl, hF c⟩)⟩⟩
theorem M_scanW {x n i s : Nat} {t : Nat → Int} {a1 a3 a5 : Int} (h : SR m x n t i) : ∀ (r q : Nat) (a : Int), r = n - q → s ≤ q → q ≤ n → zW xs xl (d + 2) cX12_scan 12 (none) false [] 176 [zR x, zI a1, zI (s : Int), zI a3, zI (((wordF t (n - q) q a).1 : Nat) : Int), zI (if 8 < (((wordF t (n - q) q a).1 : Nat) : Int) - (s : Int) then 4 else 1)] [] m Q → zW xs xl (d + 2) cX12_scan 12 (none) false [] 50 [zR x, zI a1, zI (s : Int), zI a3, zI (q : Int), zI a5] [] m Q := by
  have hn := h.2.1.2.1
  intro r
  induction r with
  | zero =>
    intro q a e hs hq hw
    have eq : q = n := by omega
    subst eq
    rw [Nat.sub_self] at hw
    replace hw : zW xs xl (d + 2) cX12_scan 12 (none) false [] 176 [zR x, zI a1, zI (s : Int), zI a3, zI (q : Int), zI (if 8 < (q : Int) - (s : Int) then 4 else 1)] [] m Q := hw
    refine bX12_scan_50 ⟨h.1.1, M_isLetter h (fun c => ?_) (fun c => ⟨0, rfl, fun _ => ?_, fun z => absurd rfl z⟩)⟩
    · unfold atF at c
      rw [if_neg (by omega)] at c
      exact absurd c (by decide)
    · rw [wr_id (x := (q : Int) - (s : Int)) (by omega) (by omega)]
      refine ⟨fun c2 => ?_, fun c2 => ?_⟩
      · rwa [if_pos c2] at hw
      · rwa [if_neg c2] at hw
  | succ r ih =>
    intro q a e hs hq hw
    have hlt : q < n := by omega
    have ea : atF t n q = t q := if_pos hlt
    rw [show n - q = (n - (q + 1)) + 1 by omega] at hw
    unfold wordF at hw
    refine bX12_scan_50 ⟨h.1.1, M_isLetter h (fun c => ⟨1, rfl, fun z => absurd z (by decide), fun _ => ?_⟩) (fun c => ⟨0, rfl, fun _ => ?_, fun z => absurd rfl z⟩)⟩
    · rw [ea] at c
      rw [if_pos c] at hw
      rw [wr_s (i := q) (by omega)]
      exact ih (q + 1) _ (by omega) (by omega) (by omega) hw
    · rw [ea] at c
      rw [if_neg c] at hw
      replace hw : zW xs xl (d + 2) cX12_scan 12 (none) false [] 176 [zR x, zI a1, zI (s : Int), zI a3, zI (q : Int), zI (if 8 < (q : Int) - (s : Int) then 4 else 1)] [] m Q := hw
      rw [wr_id (x := (q : Int) - (s : Int)) (by omega) (by omega)]
      refine ⟨fun c2 => ?_, fun c2 => ?_⟩
      · rwa [if_pos c2] at hw
      · rwa [if_neg c2] at hw
theorem M_scanN {x n i s : Nat} {t : Nat → Int} {a1 a3 a5 : Int} (h : SR m x n t i) : ∀ (r q : Nat) (a : Int), r = n - q → s ≤ q → q ≤ n → zW xs xl (d + 2) cX12_scan 12 (none) false [] 176 [zR x, zI a1, zI (s : Int), zI a3, zI (((numF t s (n - q) q a).1 : Nat) : Int), zI (if 3 < (((numF t s (n - q) q a).1 : Nat) : Int) - (s : Int) then 4 else 2)] [] m Q → zW xs xl (d + 2) cX12_scan 12 (none) false [] 92 [zR x, zI a1, zI (s : Int), zI a3, zI (q : Int), zI a5] [] m Q := by
  have hn := h.2.1.2.1
  intro r
  induction r with
  | zero =>
    intro q a e hs hq hw
    have eq : q = n := by omega
    subst eq
    rw [Nat.sub_self] at hw
    replace hw : zW xs xl (d + 2) cX12_scan 12 (none) false [] 176 [zR x, zI a1, zI (s : Int), zI a3, zI (q : Int), zI (if 3 < (q : Int) - (s : Int) then 4 else 2)] [] m Q := hw
    refine bX12_scan_92 ⟨h.1.1, M_isDigit h (fun c => ?_) (fun c => ⟨0, rfl, fun _ => ?_, fun z => absurd rfl z⟩)⟩
    · unfold atF at c
      rw [if_neg (by omega)] at c
      exact absurd c (by decide)
    · rw [wr_id (x := (q : Int) - (s : Int)) (by omega) (by omega)]
      refine ⟨fun c2 => ?_, fun c2 => ?_⟩
      · rwa [if_pos c2] at hw
      · rwa [if_neg c2] at hw
  | succ r ih =>
    intro q a e hs hq hw
    have hlt : q < n := by omega
    have ea : atF t n q = t q := if_pos hlt
    rw [show n - q = (n - (q + 1)) + 1 by omega] at hw
    unfold numF at hw
    refine bX12_scan_92 ⟨h.1.1, M_isDigit h (fun c => ⟨1, rfl, fun z => absurd z (by decide), fun _ => ?_⟩) (fun c => ⟨0, rfl, fun _ => ?_, fun z => absurd rfl z⟩)⟩
    · rw [ea] at c
      rw [if_pos c] at hw
      rw [wr_s (i := q) (by omega)]
      exact ih (q + 1) _ (by omega) (by omega) (by omega) hw
    · rw [ea] at c
      rw [if_neg c] at hw
      replace hw : zW xs xl (d + 2) cX12_scan 12 (none) false [] 176 [zR x, zI a1, zI (s : Int), zI a3, zI (q : Int), zI (if 3 < (q : Int) - (s : Int) then 4 else 2)] [] m Q := hw
      rw [wr_id (x := (q : Int) - (s : Int)) (by omega) (by omega)]
      refine ⟨fun c2 => ?_, fun c2 => ?_⟩
      · rwa [if_pos c2] at hw
      · rwa [if_neg c2] at hw
end ZSN
