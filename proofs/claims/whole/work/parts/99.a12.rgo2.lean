/-! the reference goes through a plan: the numbers of an action, an action -/
abbrev DF (x own : Nat) (m m' : zM) : Prop := MF x (fun f => f = 776) (fun a j => a = x + 7 ∧ own ≤ j) m m'
theorem DF.gf {x own : Nat} {m m' : zM} (f : DF x own m m') : GF x m m' := f.mono (fun _ z => Or.inr (Or.inr (Or.inl z))) (fun _ _ z => z.1)
def offF (w : Nat) : Nat := if w ≤ 2 then 1 else 0
theorem form_len : ∀ w : Fin 8, (formL ((w.1 : Nat) : Int)).length = offF w.1 + nmF w.1 + 1 ∧ (0 < nmF w.1 → offF w.1 + nmF w.1 ≤ 3) ∧ (formA w.1).length = offF w.1 + nmF w.1 := by decide +kernel
theorem wn_start {w : Nat} (hw : w < 8) (V : Nat → Int) : wnF (w : Int) V (formL (w : Int)) 0 = wnF (w : Int) V (List.replicate (nmF w) 110 ++ [59]) (offF w) := by
  have ef := formA_f ⟨w, hw⟩
  replace ef : formL (w : Int) = formA w ++ [59] := ef
  rw [ef]
  unfold formA offF
  by_cases c1 : w ≤ 1
  · rw [if_pos c1, if_pos (show w ≤ 2 by omega)]
    show (if 3 ≤ 0 then (-1 : Int) else if (102 : Int) = 110 ∧ _ then _ else wnF (w : Int) V (List.replicate (nmF w) 110 ++ [59]) (0 + 1)) = _
    rw [if_neg (by decide), if_neg (fun z => absurd z.1 (by decide))]
  · rw [if_neg c1]
    by_cases c2 : w = 2
    · rw [if_pos c2, if_pos (show w ≤ 2 by omega)]
      show (if 3 ≤ 0 then (-1 : Int) else if (119 : Int) = 110 ∧ _ then _ else wnF (w : Int) V (List.replicate (nmF w) 110 ++ [59]) (0 + 1)) = _
      rw [if_neg (by decide), if_neg (fun z => absurd z.1 (by decide))]
    · rw [if_neg c2, if_neg (show ¬ w ≤ 2 by omega), List.nil_append]
theorem wn_end {w : Int} {V : Nat → Int} {j : Nat} : wnF w V (List.replicate 0 110 ++ [59]) j = -1 := by
  show (if 3 ≤ j then (-1 : Int) else if (59 : Int) = 110 ∧ _ then _ else (-1 : Int)) = -1
  split
  · rfl
  · rw [if_neg (fun z => absurd z.1 (by decide))]
theorem wn_step {w : Int} {V : Nat → Int} {r j : Nat} (hj : j < 3) : wnF w V (List.replicate (r + 1) 110 ++ [59]) j = if allowB w (V j) then wnF w V (List.replicate r 110 ++ [59]) (j + 1) else (j : Int) := by
  show (if 3 ≤ j then (-1 : Int) else if (110 : Int) = 110 ∧ ¬ allowB w (V j) then (j : Int) else wnF w V (List.replicate r 110 ++ [59]) (j + 1)) = _
  rw [if_neg (by omega)]
  by_cases c : allowB w (V j)
  · rw [if_neg (fun z => z.2 c), if_pos c]
  · rw [if_pos ⟨rfl, c⟩, if_neg c]
theorem wr_4o {l : Nat} (h : l ≤ 60) : wr (4 * (l : Int)) = ((4 * l : Nat) : Int) := by
  rw [wr_id (x := 4 * (l : Int)) (by omega) (by omega)]; omega
theorem wr_4k {l k : Nat} (h : l ≤ 240) (hk : k < 4) : wr (((l : Nat) : Int) + wr (1 + (k : Int))) = ((l + 1 + k : Nat) : Int) := by
  rw [wr_id (x := 1 + (k : Int)) (by omega) (by omega), wr_id (x := (l : Int) + (1 + (k : Int))) (by omega) (by omega)]; omega
theorem wr_4j {l : Nat} {k : Int} (h : l ≤ 240) (hk : 0 ≤ k ∧ k < 4) : wr (((l : Nat) : Int) + k) = ((l + k.toNat : Nat) : Int) := by
  rw [wr_id (x := (l : Int) + k) (by omega) (by omega)]; omega
/-- what the draft holds -/
def CI (m : zM) (x own w a4 : Nat) (V : Nat → Int) : Prop := mA m (x + 7) own = (w : Int) ∧ (w ≤ 2 ∨ nmF w = 0 → mA m (x + 7) (own + 1) = V 0) ∧ (w = 2 → 1 ≤ a4 → mA m (x + 7) (own + 2) = V 1) ∧ (2 < w → ∀ y, y < a4 → mA m (x + 7) (own + 1 + y) = V y)
theorem nm_3 {w : Nat} (hw : w < 8) : nmF w ≤ 3 ∧ (w = 2 → nmF w = 1) ∧ (w ≤ 1 → nmF w = 0) := by
  refine ⟨?_, fun z => by rw [z]; rfl, fun z => if_pos z⟩
  unfold nmF
  split
  · omega
  · split
    · omega
    · split <;> omega
section ZRI
variable {xs : Nat → Int} {xl d : Nat} {Q : zRes → zM → Prop}
theorem M_act139 {x n E i w l : Nat} {t : Nat → Int} {mB : zM} {s0 : Int} {V : Nat → Int} (hE : E ≤ n) (hw : w < 8) (hl : l < 60)
    (htok : ∀ y, y < nmF w → (tkF t n (i + 1 + offF w + y)).1 = 110 ∧ V (offF w + y) = (tkF t n (i + 1 + offF w + y)).2.1) (hend : i + 1 + offF w + nmF w + 1 ≤ E)
    (hErr : ∀ (m' : zM) (y : Nat), y < nmF w → wnF w V (formL (w : Int)) 0 = ((offF w + y : Nat) : Int) → GF x mB m' → RErr m' x 2 (tkF t n (i + 1 + offF w + y)).2.2.1 → Q (.inl (some (zI 0))) m')
    (hOk : ∀ (m1 : zM) (a4 : Int) (u : zV), wnF w V (formL (w : Int)) 0 = -1 → SR m1 x n t (E + 1) → mI m1 776 x = ((i + 1 + offF w + nmF w : Nat) : Int) → DF x (4 * l) mB m1 → CI m1 x (4 * l) w (nmF w) V → (1 < w → zW xs xl (d + 5) cX12_goAction 12 (some .boolean) false [] 262 [zR x, zI (w : Int), zI s0, zI ((4 * l : Nat) : Int), zI a4, u] [] (sI (sI m1 776 x (wr (mI m1 776 x + 1))) 779 x (wr (mI m1 779 x + 1))) Q) ∧ (¬ 1 < w → zW xs xl (d + 5) cX12_goAction 12 (some .boolean) false [] 262 [zR x, zI (w : Int), zI s0, zI ((4 * l : Nat) : Int), zI a4, u] [] (sI (sI (sI m1 776 x (wr (mI m1 776 x + 1))) 779 x (wr (mI m1 779 x + 1))) 783 x (bXor (mI m1 783 x) (bShl 1 s0))) Q)) :
    ∀ (r a4 : Nat) (m1 : zM) (u : zV), r + a4 = nmF w → SR m1 x n t (E + 1) → mI m1 776 x = ((i + 1 + offF w + a4 : Nat) : Int) → DF x (4 * l) mB m1 → CI m1 x (4 * l) w a4 V → wnF w V (formL (w : Int)) 0 = wnF w V (List.replicate r 110 ++ [59]) (offF w + a4) → zW xs xl (d + 5) cX12_goAction 12 (some .boolean) false [] 139 [zR x, zI (w : Int), zI s0, zI ((4 * l : Nat) : Int), zI (a4 : Int), u] [] m1 Q := by
  have hn3 := nm_3 hw
  intro r
  induction r with
  | zero =>
    intro a4 m1 u e g ht f hc hwn
    have ea : a4 = nmF w := by omega
    subst ea
    rw [wn_end] at hwn
    obtain ⟨q1, q2⟩ := hOk m1 _ u hwn g ht f hc
    refine bX12_goAction_139 ⟨⟨rfl, by omega, show (w : Int) < ((8 : Nat) : Int) by omega⟩, ?_⟩
    rw [Int.toNat_natCast, nm_x hw]
    exact ⟨fun _ => ⟨g.1.1, fun z => q1 (by omega), fun z => q2 (by omega)⟩, fun z => absurd (Int.le_refl _) z⟩
  | succ r ih =>
    intro a4 m1 u e g ht f hc hwn
    have hoff := (form_len ⟨w, hw⟩).2.1 (show 0 < nmF w by omega)
    replace hoff : offF w + nmF w ≤ 3 := hoff
    have hn := g.2.1.2.1
    obtain ⟨hk, hv⟩ := htok a4 (by omega)
    rw [wn_step (show offF w + a4 < 3 by omega)] at hwn
    have hii : ((i + 1 + offF w + a4 : Nat) : Int) + 1 = ((i + 1 + offF w + (a4 + 1) : Nat) : Int) := by omega
    refine bX12_goAction_139 ⟨⟨rfl, by omega, show (w : Int) < ((8 : Nat) : Int) by omega⟩, ?_⟩
    rw [Int.toNat_natCast, nm_x hw]
    refine ⟨fun z => absurd z (by omega), fun _ => ⟨g.1.1, ?_⟩⟩
    rw [ht]
    refine M_numberAt g (show i + 1 + offF w + a4 ≤ E by omega) hE hk ⟨_, rfl, ⟨rfl, by omega, show (w : Int) < ((8 : Nat) : Int) by omega⟩, ⟨rfl, by omega, show (w : Int) < ((8 : Nat) : Int) by omega⟩, ?_⟩
    rw [← hv]
    have lim := lim_x (xs := xs) (w := w) (v := V (offF w + a4)) hw (by omega)
    have d1 := g.1.2.2.1.2.2.2.2.2.2.1
    have d2 := g.1.2.2.2.1.2.2.2.2.2.2
    have d3 := g.1.2.2.2.2.2.2.2.2.2.2
    refine M_in (fun c => ⟨1, rfl, fun _ => ⟨g.1.1, fun c2 => ?_, fun c2 => ?_⟩, fun z => absurd (by decide) z⟩) (fun c => ⟨0, rfl, fun z => absurd rfl z, fun _ => ⟨g.1.1, ?_⟩⟩)
    · rw [if_pos (lim.mp c)] at hwn
      have w2 : 2 < w := by
        have := hn3.2.2
        omega
      have ho : offF w = 0 := if_neg (by omega)
      rw [d1, d2, d3, wr_4k (show 4 * l ≤ 240 by omega) (show a4 < 4 by omega), Int.toNat_natCast, ht, wr_s (i := i + 1 + offF w + a4) (by omega), wr_s (i := a4) (by omega)]
      refine ⟨by omega, rfl, ih (a4 + 1) _ _ (by omega) (g.gf (show GF x m1 _ from (MF.rfl.w (C := fun a _ => a = x + 7) rfl).s (Or.inr (Or.inr (Or.inl rfl))))) zm_Is ((f.w ⟨rfl, by omega⟩).s rfl) ⟨?_, fun z => by omega, fun z => by omega, fun _ y hy => ?_⟩ hwn⟩
      · exact (zm_An (by omega)).trans hc.1
      · by_cases cy : y = a4
        · subst cy
          rw [ho, Nat.zero_add]
          exact zm_As
        · exact (zm_An (by omega)).trans (hc.2.2.2 w2 y (by omega))
    · rw [if_pos (lim.mp c)] at hwn
      have w2 : w = 2 := by omega
      have hnm : nmF w = 1 := by rw [w2]; rfl
      have ho : offF w = 1 := by rw [w2]; rfl
      have e2 : wr (((4 * l : Nat) : Int) + 2) = ((4 * l + 2 : Nat) : Int) := wr_4j (show 4 * l ≤ 240 by omega) (by omega)
      rw [d1, d2, d3, e2, Int.toNat_natCast, ht, wr_s (i := i + 1 + offF w + a4) (by omega), wr_s (i := a4) (by omega)]
      refine ⟨by omega, rfl, ih (a4 + 1) _ _ (by omega) (g.gf (show GF x m1 _ from (MF.rfl.w (C := fun a _ => a = x + 7) rfl).s (Or.inr (Or.inr (Or.inl rfl))))) zm_Is ((f.w ⟨rfl, by omega⟩).s rfl) ⟨?_, fun z => ?_, fun _ _ => ?_, fun z => by omega⟩ hwn⟩
      · exact (zm_An (by omega)).trans hc.1
      · exact (zm_An (by omega)).trans (hc.2.1 z)
      · have e4 : a4 = 0 := by omega
        rw [ho, e4]
        exact zm_As
    · rw [if_neg (fun z => c (lim.mpr z))] at hwn
      rw [ht]
      exact M_wrong g (show i + 1 + offF w + a4 ≤ E by omega) hE (fun m' f' x' => ⟨0, rfl, Or.inl rfl, hErr m' a4 (by omega) hwn (f.gf.tr f') x'⟩)
end ZRI
