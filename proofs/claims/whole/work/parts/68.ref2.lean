def outX (r : Int × (Nat → Int)) : Nat → Int := if r.1 = 2 then loseF r.2 else r.2
def outV (r : Int × (Nat → Int)) (l : Int) : Int := if r.1 = 2 then wr (l + 1) else l
def outB (r : Int × (Nat → Int)) : Int := if r.1 = 1 then 1 else 0
theorem RX.fx {m : zM} {b i : Nat} {x y : Nat → Int} (h : RX m b i x) (e : ∀ k, y k = x k) : RX m b i y := by rw [show y = x from funext e]; exact h
theorem RW.fx {m : zM} {b i : Nat} {x y : Nat → Int} (h : RW m b i x) (e : ∀ k, y k = x k) : RW m b i y := ⟨h.1, h.2.1, h.2.2.fx e⟩
theorem tY_3 {x : Nat → Int} (hx : pcOk x) (k : Nat) : treatY x 3 k = up1 (up1 x 7 (warmV (x 7) (-10))) 6 (moistV (x 6) 8) k := by
  obtain ⟨⟨a1, a2⟩, a3, a4⟩ := hx
  show (if k = 7 then (if 20 < x 7 - 10 then x 7 - 10 else 20) else if k = 6 then (if x 6 + 8 < 100 then x 6 + 8 else 100) else x k) = (if k = 6 then moistV (x 6) 8 else if k = 7 then warmV (x 7) (-10) else x k)
  by_cases c7 : k = 7
  · rw [if_pos c7, if_neg (show ¬ (k = 6) by omega), if_pos c7]; unfold warmV; repeat (split <;> try omega)
  · rw [if_neg c7]
    by_cases c6 : k = 6
    · rw [if_pos c6, if_pos c6]; unfold moistV; repeat (split <;> try omega)
    · rw [if_neg c6, if_neg c6, if_neg c7]
theorem tY_4 {x : Nat → Int} {w : Int} (hw : w ≠ 3) (hw6 : w ≠ 6) (hx : pcOk x) (k : Nat) : treatY x w k = up1 (up1 x 7 (warmV (x 7) 25)) 6 (moistV (x 6) (-3)) k := by
  obtain ⟨⟨a1, a2⟩, a3, a4⟩ := hx
  unfold treatY
  rw [if_neg hw, if_neg hw6]
  show (if k = 6 then (if 0 < x 6 - 3 then x 6 - 3 else 0) else if k = 7 then (if x 7 + 25 < 200 then x 7 + 25 else 200) else x k) = (if k = 6 then moistV (x 6) (-3) else if k = 7 then warmV (x 7) 25 else x k)
  by_cases c6 : k = 6
  · rw [if_pos c6, if_pos c6]; unfold moistV; repeat (split <;> try omega)
  · rw [if_neg c6, if_neg c6]
    by_cases c7 : k = 7
    · rw [if_pos c7, if_pos c7]; unfold warmV; repeat (split <;> try omega)
    · rw [if_neg c7, if_neg c7]
theorem tY_6 {x : Nat → Int} (hx : pcOk x) (k : Nat) : treatY x 6 k = up1 (up1 x 7 (warmV (x 7) (-15))) 6 (moistV (x 6) (-4)) k := by
  obtain ⟨⟨a1, a2⟩, a3, a4⟩ := hx
  show (if k = 7 then (if 20 < x 7 - 15 then x 7 - 15 else 20) else if k = 6 then (if 0 < x 6 - 4 then x 6 - 4 else 0) else x k) = (if k = 6 then moistV (x 6) (-4) else if k = 7 then warmV (x 7) (-15) else x k)
  by_cases c7 : k = 7
  · rw [if_pos c7, if_neg (show ¬ (k = 6) by omega), if_pos c7]; unfold warmV; repeat (split <;> try omega)
  · rw [if_neg c7]
    by_cases c6 : k = 6
    · rw [if_pos c6, if_pos c6]; unfold moistV; repeat (split <;> try omega)
    · rw [if_neg c6, if_neg c6, if_neg c7]
theorem dc_11 {x : Nat → Int} (hx : pcOk x) (k : Nat) : dryF (coolF x 10) 1 k = up1 (up1 x 7 (warmV (x 7) (-10))) 6 (moistV (x 6) (-1)) k := by
  obtain ⟨⟨a1, a2⟩, a3, a4⟩ := hx
  show (if k = 6 then (if 0 < x 6 - 1 then x 6 - 1 else 0) else if k = 7 then (if 20 < x 7 - 10 then x 7 - 10 else 20) else x k) = (if k = 6 then moistV (x 6) (-1) else if k = 7 then warmV (x 7) (-10) else x k)
  by_cases c6 : k = 6
  · rw [if_pos c6, if_pos c6]; unfold moistV; repeat (split <;> try omega)
  · rw [if_neg c6, if_neg c6]
    by_cases c7 : k = 7
    · rw [if_pos c7, if_pos c7]; unfold warmV; repeat (split <;> try omega)
    · rw [if_neg c7, if_neg c7]
def spS (x : Nat → Int) : Nat → Int
  | 0 => 0
  | j + 1 => spS x j + absF (x (23 + j) - springB x (20 + j))
def spX (x : Nat → Int) : Nat → Nat → Int
  | 0 => x
  | j + 1 => up1 (spX x j) (20 + j) (springB x (20 + j))
theorem spX_at {x : Nat → Int} : ∀ {j k : Nat}, ¬ (20 ≤ k ∧ k < 20 + j) → spX x j k = x k
  | 0, k, _ => rfl
  | j + 1, k, h => (if_neg (by omega)).trans (spX_at (by omega))
section ZRB
variable {xs : Nat → Int} {xl d : Nat} {m : zM} {Q : zRes → zM → Prop}
theorem R_treat {b s : Nat} {x : Nat → Int} {w f : Int} (h : RW m b s x) (hx : pcOk x) (hw : w = 3 ∨ w = 4 ∨ w = 6) (hg : 0 ≤ x 16 ∧ x 16 < f ∧ f ≤ 30) (hQ : ∀ m', RW m' b s (outX (treatR x w f)) → SF b s (outV (treatR x w f) (mI m 737 b)) m m' → Q (.inl (some (zI (outB (treatR x w f))))) m') : zC xs xl (d + 3) 152 [zR b, zI (s : Int), zI w, zI f] m Q := by
  have hs := h.2.1
  have h88 : ∀ (m4 : zM), RW m4 b s (treatY x w) → SF b s (mI m 737 b) m m4 → ¬ (w ≠ 3 ∧ w ≠ 6 ∧ 150 < treatY x w 7 ∧ treatY x w 6 < 10) → zW xs xl (d + 2) cX11_treat 11 (some .boolean) false [] 88 [zR b, zI (s : Int), zI w, zI f] [] m4 Q := by
    intro m4 g ff hn
    obtain ⟨r, k, n⟩ := g.1.at (by decide : (720, 14, 20, 6) ∈ rTab)
    have e : mA m4 (b + 14) s = x 16 := (g.2.2.1 16 (by omega)).trans (treatY_out (by omega))
    have ew : wr (x 16 + 1) = x 16 + 1 := wr_id (by omega) (by omega)
    have er : treatR x w f = ((if wr (x 16 + 1) < f then 0 else 1), up1 (treatY x w) 16 (wr (x 16 + 1))) := if_neg hn
    rw [er] at hQ
    have f2 : SF b s (mI m 737 b) m (sA m4 (b + 14) s (wr (x 16 + 1))) := ff.w (slC_k (k := 16) (by omega))
    have x2 : RX (sA m4 (b + 14) s (wr (x 16 + 1))) b s (up1 (treatY x w) 16 (wr (x 16 + 1))) := g.2.2.set (k := 16) (by omega) (fun z => absurd z (by omega))
    refine bX11_treat_88 ⟨g.1.1, ?_⟩
    rw [r, k, n, Int.toNat_natCast, e]
    refine ⟨rfl, by omega, fun c => ?_, fun c => ?_⟩
    · rw [if_pos (by omega)] at hQ
      exact hQ _ (h.sf f2 x2) f2
    · rw [if_neg (by omega)] at hQ
      exact hQ _ (h.sf f2 x2) f2
  have hburn : ∀ (m4 : zM), RW m4 b s (treatY x w) → SF b s (mI m 737 b) m m4 → (w ≠ 4 → zW xs xl (d + 2) cX11_treat 11 (some .boolean) false [] 88 [zR b, zI (s : Int), zI w, zI f] [] m4 Q) ∧ (¬ (w ≠ 4) → (mC m4 b = 12) ∧ (mC m4 (mR m4 732 b) = 20) ∧ (0 ≤ (s : Int) ∧ (s : Int) < mN m4 (mR m4 732 b)) ∧ (((mA m4 (mR m4 732 b) (Int.toNat (s : Int))) ≤ 150 → zW xs xl (d + 2) cX11_treat 11 (some .boolean) false [] 88 [zR b, zI (s : Int), zI w, zI f] [] m4 Q) ∧ (¬ ((mA m4 (mR m4 732 b) (Int.toNat (s : Int))) ≤ 150) → (mC m4 (mR m4 731 b) = 20) ∧ (0 ≤ (s : Int) ∧ (s : Int) < mN m4 (mR m4 731 b)) ∧ ((10 ≤ (mA m4 (mR m4 731 b) (Int.toNat (s : Int))) → zW xs xl (d + 2) cX11_treat 11 (some .boolean) false [] 88 [zR b, zI (s : Int), zI w, zI f] [] m4 Q) ∧ (¬ (10 ≤ (mA m4 (mR m4 731 b) (Int.toNat (s : Int)))) → zC xs xl (d + 2) 156 [zR b, zI (s : Int)] m4 (fun r m12 => ∃ v13 : Int, r = .inl (some (zI v13)) ∧ (v13 = 0 ∨ v13 = 1) ∧ Q (.inl (some (zI v13))) m12)))))) := by
    intro m4 g ff
    obtain ⟨r, k, n⟩ := g.1.at (by decide : (732, 26, 20, 6) ∈ rTab)
    obtain ⟨r2, k2, n2⟩ := g.1.at (by decide : (731, 25, 20, 6) ∈ rTab)
    have e7 : mA m4 (b + 26) s = treatY x w 7 := g.2.2.1 7 (by omega)
    have e6 : mA m4 (b + 25) s = treatY x w 6 := g.2.2.1 6 (by omega)
    refine ⟨fun c => h88 m4 g ff (fun z => by omega), fun c => ?_⟩
    rw [r, k, n, r2, k2, n2, Int.toNat_natCast, e7, e6]
    refine ⟨g.1.1, rfl, by omega, fun c7 => h88 m4 g ff (fun z => by omega), fun c7 => ⟨rfl, by omega, fun c6 => h88 m4 g ff (fun z => by omega), fun c6 => R_lose g (fun m5 g5 f5 => ⟨0, rfl, Or.inl rfl, ?_⟩)⟩⟩
    have er : treatR x w f = (2, treatY x w) := if_pos ⟨by omega, by omega, by omega, by omega⟩
    rw [er] at hQ
    rw [ff.1.1] at f5
    exact hQ m5 g5 (ff.tr f5)
  have h24 : ∀ (q1 q2 : Int), (-100 ≤ q1 ∧ q1 ≤ 100) → (-100 ≤ q2 ∧ q2 ≤ 100) → (∀ k, treatY x w k = up1 (up1 x 7 (warmV (x 7) q1)) 6 (moistV (x 6) q2) k) → (q2 = if w = 3 then 8 else if w = 4 then -3 else -4) → zW xs xl (d + 2) cX11_treat 11 (some .boolean) false [] 24 [zR b, zI (s : Int), zI w, zI f] [zI q1, zI (s : Int), zR b] m Q := by
    intro q1 q2 hq1 hq2 hY hq
    have hm : ∀ m1, RW m1 b s (up1 x 7 (warmV (x 7) q1)) → SF b s (mI m 737 b) m m1 → ∀ (Q' : zRes → zM → Prop), (∀ m4, RW m4 b s (treatY x w) → SF b s (mI m 737 b) m m4 → Q' (.inl none) m4) → zC xs xl (d + 2) 151 [zR b, zI (s : Int), zI q2] m1 Q' := by
      intro m1 g1 f1 Q' hq'
      refine R_moist (x := up1 x 7 (warmV (x 7) q1)) g1 hx.1 hq2 (fun m4 g4 f4 => ?_)
      rw [f1.1.1] at f4
      exact hq' m4 (g4.fx hY) (f1.tr f4)
    refine bX11_treat_24 ⟨h.1.1, R_warm h hx hq1 (fun m1 g1 f1 => ⟨rfl, fun c3 => ⟨fun c4 => ⟨g1.1.1, ?_⟩, fun c4 => ⟨g1.1.1, ?_⟩⟩, fun c3 => ⟨g1.1.1, ?_⟩⟩)⟩
    · rw [if_neg c3, if_neg c4] at hq
      subst hq
      exact hm m1 g1 f1 _ (fun m4 g4 f4 => ⟨rfl, hburn m4 g4 f4⟩)
    · rw [if_neg c3, if_pos (Decidable.not_not.mp c4)] at hq
      subst hq
      exact hm m1 g1 f1 _ (fun m4 g4 f4 => ⟨rfl, hburn m4 g4 f4⟩)
    · rw [if_pos (Decidable.not_not.mp c3)] at hq
      subst hq
      exact hm m1 g1 f1 _ (fun m4 g4 f4 => ⟨rfl, hburn m4 g4 f4⟩)
  refine bX11_treat_0 ⟨fun c3 => ⟨fun c4 => ?_, fun c4 => ?_⟩, fun c3 => ?_⟩
  · have e6 : w = 6 := by omega
    exact h24 (-15) (-4) (by omega) (by omega) (fun k => by rw [e6]; exact tY_6 hx k) (by rw [if_neg c3, if_neg c4])
  · exact h24 25 (-3) (by omega) (by omega) (tY_4 c3 (by omega) hx) (by rw [if_neg c3, if_pos (Decidable.not_not.mp c4)])
  · have e3 := Decidable.not_not.mp c3
    exact h24 (-10) 8 (by omega) (by omega) (fun k => by rw [e3]; exact tY_3 hx k) (by rw [if_pos e3])
theorem R_fit {b s : Nat} {x : Nat → Int} (h : RW m b s x) (hx : pcOk x) (hb : pbOk x) (hQ : ∀ m', RW m' b s (outX (fitR x)) → SF b s (outV (fitR x) (mI m 737 b)) m m' → Q (.inl (some (zI (outB (fitR x))))) m') : zC xs xl (d + 3) 154 [zR b, zI (s : Int)] m Q := by
  have hs := h.2.1
  have e3s : wr (3 * (s : Int)) = ((3 * s : Nat) : Int) := by rw [wr_id (by omega) (by omega)]; omega
  have lp : ∀ (r j : Nat) (m1 : zM), j + r = 3 → RW m1 b s (spX x j) → SF b s (mI m 737 b) m m1 → 0 ≤ spS x j → spS x j ≤ 40 * j → zW xs xl (d + 2) cX11_fit 11 (some .boolean) false [] 6 [zR b, zI (s : Int), zI (spS x j), zI ((3 * s + j : Nat) : Int)] [] m1 Q := by
    intro r
    induction r with
    | zero =>
      intro j m1 e g f h0 h1
      have ej : j = 3 := by omega
      subst ej
      obtain ⟨r1, k1, n1⟩ := g.1.at (by decide : (715, 9, 20, 6) ∈ rTab)
      obtain ⟨r2, k2, n2⟩ := g.1.at (by decide : (721, 15, 20, 6) ∈ rTab)
      obtain ⟨r3, k3, n3⟩ := g.1.at (by decide : (722, 16, 20, 6) ∈ rTab)
      have e15 : mA m1 (b + 9) s = x 15 := (g.2.2.1 15 (by omega)).trans (spX_at (by omega))
      have e3 : mA m1 (b + 15) s = x 3 := (g.2.2.1 3 (by omega)).trans (spX_at (by omega))
      have e4 : mA m1 (b + 16) s = x 4 := (g.2.2.1 4 (by omega)).trans (spX_at (by omega))
      have eS : spS x 3 = springS x := by
        show 0 + absF _ + absF _ + absF _ = absF _ + absF _ + absF _
        rw [Int.zero_add]
      refine bX11_fit_6 ⟨fun _ => ⟨g.1.1, ?_⟩, fun z => absurd (by rw [e3s, wr_id (by omega) (by omega)]; omega) z⟩
      rw [r1, k1, n1, r2, k2, n2, r3, k3, n3, Int.toNat_natCast, e15, e3, (Eqv.nA (show b + 16 ≠ b + 15 by omega)).2.2.1, e4, eS]
      refine ⟨rfl, by omega, fun c => ⟨rfl, by omega, rfl, by omega, ?_⟩, fun c => ?_⟩
      · have er : fitR x = (1, up1 (up1 (vanishF (springF x)) 3 (wr (x 3 + 1))) 4 (wr (x 4 + springS x))) := if_pos c
        rw [er] at hQ
        have f2 : SF b s (mI m 737 b) m (sA (sA m1 (b + 15) s (wr (x 3 + 1))) (b + 16) s (wr (x 4 + springS x))) := (f.w (slC_k (k := 3) (by omega))).w (slC_k (k := 4) (by omega))
        have x2 : RX (sA (sA m1 (b + 15) s (wr (x 3 + 1))) (b + 16) s (wr (x 4 + springS x))) b s (up1 (up1 (spX x 3) 3 (wr (x 3 + 1))) 4 (wr (x 4 + springS x))) := (g.2.2.set (k := 3) (by omega) (fun z => absurd z (by omega))).set (k := 4) (by omega) (fun z => absurd z (by omega))
        refine R_clear (h.sf f2 x2) (fun m3 g3 f3 => ⟨rfl, ?_⟩)
        rw [f2.1.1] at f3
        refine hQ m3 (g3.fx (fun k => ?_)) (f2.tr f3)
        show (if k = 4 then _ else if k = 3 then _ else vanishF (springF x) k) = vanishF (up1 (up1 (spX x 3) 3 (wr (x 3 + 1))) 4 (wr (x 4 + springS x))) k
        unfold vanishF
        by_cases cv : (5 ≤ k ∧ k ≤ 8) ∨ k = 18 ∨ (20 ≤ k ∧ k ≤ 25)
        · rw [if_pos cv, if_pos cv, if_neg (by omega), if_neg (by omega)]
        · rw [if_neg cv, if_neg cv]
          rfl
      · have er : fitR x = (2, springF x) := if_neg c
        rw [er] at hQ
        refine R_lose g (fun m3 g3 f3 => ⟨0, rfl, Or.inl rfl, ?_⟩)
        rw [f.1.1] at f3
        exact hQ m3 g3 (f.tr f3)
    | succ r ih =>
      intro j m1 e g f h0 h1
      obtain ⟨r1, k1, n1⟩ := g.1.at (by decide : (734, 28, 20, 18) ∈ rTab)
      obtain ⟨r2, k2, n2⟩ := g.1.at (by decide : (731, 25, 20, 6) ∈ rTab)
      obtain ⟨r3, k3, n3⟩ := g.1.at (by decide : (735, 29, 20, 18) ∈ rTab)
      have eB : mA m1 (b + 28) (3 * s + j) = x (20 + j) := (g.2.2.2.2 j (by omega)).1.trans (spX_at (by omega))
      have eT : mA m1 (b + 29) (3 * s + j) = x (23 + j) := (g.2.2.2.2 j (by omega)).2.trans (spX_at (by omega))
      have e6 : mA m1 (b + 25) s = x 6 := (g.2.2.1 6 (by omega)).trans (spX_at (by omega))
      have b1 := hb (20 + j) (by omega) (by omega)
      have b2 := hb (23 + j) (by omega) (by omega)
      have hm1 : 0 ≤ x (20 + j) * x 6 := Int.mul_nonneg b1.1 hx.1.1
      have hm2 : x (20 + j) * x 6 ≤ 40 * 100 := Int.mul_le_mul b1.2 hx.1.2 hx.1.1 (by decide)
      have ht := tdiv_in (a := x (20 + j) * x 6) (b := 200) (n := 4000) ⟨hm1, by omega⟩ (by omega)
      have hsp := springB_in hx hb (k := 20 + j) (by omega) (by omega)
      have eS : wr (x (20 + j) - wr (Int.tdiv (wr (x (20 + j) * x 6)) 200)) = springB x (20 + j) := by
        rw [wr_id (x := x (20 + j) * x 6) (by omega) (by omega), wr_id (x := Int.tdiv (x (20 + j) * x 6) 200) (by omega) (by omega), wr_id (by omega) (by omega)]; rfl
      have eD : wr (x (23 + j) - springB x (20 + j)) = x (23 + j) - springB x (20 + j) := wr_id (by omega) (by omega)
      have eN : wr (0 - (x (23 + j) - springB x (20 + j))) = -(x (23 + j) - springB x (20 + j)) := by rw [wr_id (by omega) (by omega)]; omega
      have ha := absF_in (a := x (23 + j) - springB x (20 + j)) (by omega)
      have eA : (if 0 ≤ x (23 + j) - springB x (20 + j) then x (23 + j) - springB x (20 + j) else -(x (23 + j) - springB x (20 + j))) = absF (x (23 + j) - springB x (20 + j)) := rfl
      have f2 : SF b s (mI m 737 b) m (sA m1 (b + 28) (3 * s + j) (springB x (20 + j))) := f.w (Or.inr (by omega))
      have x2 : RX (sA m1 (b + 28) (3 * s + j) (springB x (20 + j))) b s (spX x (j + 1)) := g.2.2.bnd (by omega)
      have hn := ih (j + 1) _ (by omega) (h.sf f2 x2) f2 (by show 0 ≤ spS x j + _; omega) (by show spS x j + _ ≤ _; omega)
      refine bX11_fit_6 ⟨fun z => absurd z (by rw [e3s, wr_id (by omega) (by omega)]; omega), fun _ => ⟨g.1.1, ?_⟩⟩
      rw [r1, k1, n1, r2, k2, n2, r3, k3, n3, Int.toNat_natCast, Int.toNat_natCast, eB, e6, (Eqv.nA (show b + 29 ≠ b + 28 by omega)).2.2.1, eT, eS, eD, eN, eA, wr_s (by omega), wr_id (x := spS x j + absF (x (23 + j) - springB x (20 + j))) (by omega) (by omega)]
      exact ⟨rfl, by omega, rfl, by omega, rfl, by omega, hn⟩
  refine bX11_fit_0 ?_
  rw [e3s]
  exact lp 3 0 m (by omega) h (SF.rfl rfl) (Int.le_refl _) (by show (0 : Int) ≤ _; omega)
end ZRB
