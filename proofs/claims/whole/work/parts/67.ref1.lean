/-! the reference's state: itself at b, its rows from b + 1 to b + 30 -/
def rTab : List (Nat × Nat × Nat × Nat) := [(706, 1, 20, 60), (707, 2, 20, 60), (708, 3, 20, 60), (709, 4, 20, 60), (710, 5, 20, 480), (711, 6, 20, 5), (713, 7, 20, 6), (714, 8, 21, 6), (715, 9, 20, 6), (716, 10, 20, 6), (717, 11, 20, 1440), (718, 12, 20, 6), (719, 13, 20, 6), (720, 14, 20, 6), (721, 15, 20, 6), (722, 16, 20, 6), (723, 17, 20, 6), (724, 18, 20, 6), (725, 19, 20, 6), (726, 20, 20, 6), (727, 21, 20, 6), (728, 22, 21, 6), (729, 23, 21, 6), (730, 24, 20, 6), (731, 25, 20, 6), (732, 26, 20, 6), (733, 27, 20, 6), (734, 28, 20, 18), (735, 29, 20, 18), (739, 30, 20, 240)]
def RF (m : zM) (b : Nat) : Prop := mC m b = 12 ∧ b + 31 ≤ mz m ∧ ∀ e ∈ rTab, mR m e.1 b = b + e.2.1 ∧ mC m (b + e.2.1) = e.2.2.1 ∧ mN m (b + e.2.1) = e.2.2.2
theorem RF.at {m : zM} {b f o k n : Nat} (h : RF m b) (hm : (f, o, k, n) ∈ rTab) : mR m f b = b + o ∧ mC m (b + o) = k ∧ mN m (b + o) = n := h.2.2 _ hm
def rOff (k : Nat) : Nat := [8, 7, 12, 15, 16, 23, 25, 26, 27, 20, 21, 22, 19, 17, 18, 9, 14, 13].getD k 0
theorem rOff_f : ∀ k : Fin 18, 7 ≤ rOff k.1 ∧ rOff k.1 ≤ 27 ∧ rOff k.1 ≠ 10 ∧ rOff k.1 ≠ 11 ∧ rOff k.1 ≠ 24 := by decide
theorem rOff_j : ∀ k j : Fin 18, rOff k.1 = rOff j.1 → k = j := by decide
theorem rOff_in {k : Nat} (h : k ≤ 17) : 7 ≤ rOff k ∧ rOff k ≤ 27 ∧ rOff k ≠ 10 ∧ rOff k ≠ 11 ∧ rOff k ≠ 24 := rOff_f ⟨k, by omega⟩
theorem rOff_inj {k j : Nat} (hk : k ≤ 17) (hj : j ≤ 17) (e : rOff k = rOff j) : k = j := congrArg Fin.val (rOff_j ⟨k, by omega⟩ ⟨j, by omega⟩ e)
def RX (m : zM) (b i : Nat) (x : Nat → Int) : Prop := (∀ k, k ≤ 17 → mA m (b + rOff k) i = x k) ∧ (x 5 ≠ 0 → mA m (b + 24) i = x 18) ∧ ∀ j, j < 3 → mA m (b + 28) (3 * i + j) = x (20 + j) ∧ mA m (b + 29) (3 * i + j) = x (23 + j)
def slC (b s a j : Nat) : Prop := (b + 7 ≤ a ∧ a ≤ b + 27 ∧ a ≠ b + 10 ∧ a ≠ b + 11 ∧ j = s) ∨ ((a = b + 28 ∨ a = b + 29) ∧ 3 * s ≤ j ∧ j < 3 * s + 3)
/-- the cells of one slip alone are changed, and the count of what was lost is v -/
def SF (b s : Nat) (v : Int) (m m' : zM) : Prop := (mI m' 737 b = v ∧ ∀ f a, ¬ (f = 737 ∧ a = b) → mI m' f a = mI m f a) ∧ (mR m' = mR m ∧ mO m' = mO m ∧ mC m' = mC m ∧ mN m' = mN m ∧ mz m' = mz m ∧ mc m' = mc m ∧ mu m' = mu m) ∧ ∀ a j, ¬ slC b s a j → mA m' a j = mA m a j
theorem SF.rfl {b s : Nat} {v : Int} {m : zM} (h : mI m 737 b = v) : SF b s v m m := ⟨⟨h, fun _ _ _ => Eq.refl _⟩, ⟨Eq.refl _, Eq.refl _, Eq.refl _, Eq.refl _, Eq.refl _, Eq.refl _, Eq.refl _⟩, fun _ _ _ => Eq.refl _⟩
theorem SF.tr {b s : Nat} {v w : Int} {m m1 m2 : zM} (h : SF b s v m m1) (g : SF b s w m1 m2) : SF b s w m m2 := ⟨⟨g.1.1, fun f a q => (g.1.2 f a q).trans (h.1.2 f a q)⟩, ⟨g.2.1.1.trans h.2.1.1, g.2.1.2.1.trans h.2.1.2.1, g.2.1.2.2.1.trans h.2.1.2.2.1, g.2.1.2.2.2.1.trans h.2.1.2.2.2.1, g.2.1.2.2.2.2.1.trans h.2.1.2.2.2.2.1, g.2.1.2.2.2.2.2.1.trans h.2.1.2.2.2.2.2.1, g.2.1.2.2.2.2.2.2.trans h.2.1.2.2.2.2.2.2⟩, fun a j q => (g.2.2 a j q).trans (h.2.2 a j q)⟩
theorem SF.w {b s a j : Nat} {v u : Int} {m m1 : zM} (h : SF b s v m m1) (hc : slC b s a j) : SF b s v m (sA m1 a j u) := ⟨h.1, h.2.1, fun c i q => (if_neg (fun z : c = a ∧ i = j => q (by rw [z.1, z.2]; exact hc)) : (if c = a ∧ i = j then u else mA m1 c i) = mA m1 c i).trans (h.2.2 c i q)⟩
theorem SF.l {b s : Nat} {v u : Int} {m m1 : zM} (h : SF b s v m m1) : SF b s u m (sI m1 737 b u) := ⟨⟨if_pos ⟨Eq.refl _, Eq.refl _⟩, fun f a q => (if_neg q : (if f = 737 ∧ a = b then u else mI m1 f a) = mI m1 f a).trans (h.1.2 f a q)⟩, h.2⟩
theorem slC_k {b s k : Nat} (h : k ≤ 17) : slC b s (b + rOff k) s := by
  have := rOff_in h
  exact Or.inl (by omega)
theorem RF.mv {b : Nat} {m m' : zM} (h : RF m b) (hR : mR m' = mR m) (hC : mC m' = mC m) (hN : mN m' = mN m) (hz : mz m' = mz m) : RF m' b := by
  unfold RF
  rw [hR, hC, hN, hz]
  exact h
def RW (m : zM) (b s : Nat) (x : Nat → Int) : Prop := RF m b ∧ s < 6 ∧ RX m b s x
theorem RW.sf {b s : Nat} {v : Int} {m m' : zM} {x x' : Nat → Int} (h : RW m b s x) (f : SF b s v m m') (g : RX m' b s x') : RW m' b s x' := ⟨h.1.mv f.2.1.1 f.2.1.2.2.1 f.2.1.2.2.2.1 f.2.1.2.2.2.2.1, h.2.1, g⟩
theorem RX.set {m : zM} {b i k : Nat} {x : Nat → Int} {v : Int} (h : RX m b i x) (hk : k ≤ 17) (h5 : k = 5 → v = 0) : RX (sA m (b + rOff k) i v) b i (up1 x k v) := by
  have hr := rOff_in hk
  refine ⟨fun j hj => ?_, fun c => ?_, fun j hj => ⟨?_, ?_⟩⟩
  · by_cases c : j = k
    · subst c
      rw [zm_As]; exact (if_pos rfl).symm
    · have hne : b + rOff j ≠ b + rOff k := fun z => c (rOff_inj hj hk (by omega))
      rw [(Eqv.nA hne).2.2.1, h.1 j hj]; exact (if_neg c).symm
  · have e18 : up1 x k v 18 = x 18 := if_neg (by omega)
    rw [(Eqv.nA (by omega)).2.2.1, e18]
    by_cases c5 : k = 5
    · subst c5
      have e5 : up1 x 5 v 5 = v := if_pos rfl
      rw [e5, h5 rfl] at c
      exact absurd rfl c
    · have e5 : up1 x k v 5 = x 5 := if_neg (fun z => c5 z.symm)
      rw [e5] at c
      exact h.2.1 c
  · rw [(Eqv.nA (by omega)).2.2.1, (h.2.2 j hj).1]; exact (if_neg (by omega)).symm
  · rw [(Eqv.nA (by omega)).2.2.1, (h.2.2 j hj).2]; exact (if_neg (by omega)).symm
theorem RX.bnd {m : zM} {b i j : Nat} {x : Nat → Int} {v : Int} (h : RX m b i x) (hj : j < 3) : RX (sA m (b + 28) (3 * i + j) v) b i (up1 x (20 + j) v) := by
  refine ⟨fun k hk => ?_, fun c => ?_, fun q hq => ⟨?_, ?_⟩⟩
  · have hr := rOff_in hk
    rw [(Eqv.nA (by omega)).2.2.1, h.1 k hk]; exact (if_neg (by omega)).symm
  · have e5 : up1 x (20 + j) v 5 = x 5 := if_neg (by omega)
    have e18 : up1 x (20 + j) v 18 = x 18 := if_neg (by omega)
    rw [e5] at c
    rw [(Eqv.nA (by omega)).2.2.1, e18]; exact h.2.1 c
  · by_cases c : q = j
    · subst c
      rw [zm_As]; exact (if_pos rfl).symm
    · rw [zm_An (by omega), (h.2.2 q hq).1]; exact (if_neg (by omega)).symm
  · rw [(Eqv.nA (by omega)).2.2.1, (h.2.2 q hq).2]; exact (if_neg (by omega)).symm
theorem RX.tgt {m : zM} {b i j : Nat} {x : Nat → Int} {v : Int} (h : RX m b i x) (hj : j < 3) : RX (sA m (b + 29) (3 * i + j) v) b i (up1 x (23 + j) v) := by
  refine ⟨fun k hk => ?_, fun c => ?_, fun q hq => ⟨?_, ?_⟩⟩
  · have hr := rOff_in hk
    rw [(Eqv.nA (by omega)).2.2.1, h.1 k hk]; exact (if_neg (by omega)).symm
  · have e5 : up1 x (23 + j) v 5 = x 5 := if_neg (by omega)
    have e18 : up1 x (23 + j) v 18 = x 18 := if_neg (by omega)
    rw [e5] at c
    rw [(Eqv.nA (by omega)).2.2.1, e18]; exact h.2.1 c
  · rw [(Eqv.nA (by omega)).2.2.1, (h.2.2 q hq).1]; exact (if_neg (by omega)).symm
  · by_cases c : q = j
    · subst c
      rw [zm_As]; exact (if_pos rfl).symm
    · rw [zm_An (by omega), (h.2.2 q hq).2]; exact (if_neg (by omega)).symm
/-- the wood of a piece that is not there does not count -/
theorem RX.cg {m : zM} {b i : Nat} {x y : Nat → Int} (h : RX m b i x) (e : ∀ k, k ≤ 25 → k ≠ 18 → k ≠ 19 → y k = x k) (e18 : y 5 ≠ 0 → y 18 = x 18) : RX m b i y := by
  refine ⟨fun k hk => ?_, fun c => ?_, fun q hq => ?_⟩
  · rw [e k (by omega) (by omega) (by omega)]; exact h.1 k hk
  · rw [e18 c]
    rw [e 5 (by omega) (by omega) (by omega)] at c
    exact h.2.1 c
  · rw [e (20 + q) (by omega) (by omega) (by omega), e (23 + q) (by omega) (by omega) (by omega)]
    exact h.2.2 q hq
theorem wr_3s {s j : Nat} (hs : s < 6) (hj : j ≤ 3) : wr (wr (3 * (s : Int)) + (j : Int)) = ((3 * s + j : Nat) : Int) := by
  rw [wr_id (x := 3 * (s : Int)) (by omega) (by omega), wr_id (by omega) (by omega)]; omega
section ZRA
variable {xs : Nat → Int} {xl d : Nat} {m : zM} {Q : zRes → zM → Prop}
def warmV (h by_ : Int) : Int := if 20 < (if h + by_ < 200 then h + by_ else 200) then (if h + by_ < 200 then h + by_ else 200) else 20
def moistV (h by_ : Int) : Int := if 0 < (if h + by_ < 100 then h + by_ else 100) then (if h + by_ < 100 then h + by_ else 100) else 0
theorem R_warm {b s : Nat} {x : Nat → Int} {q : Int} (h : RW m b s x) (hx : pcOk x) (hq : -100 ≤ q ∧ q ≤ 100) (hQ : ∀ m', RW m' b s (up1 x 7 (warmV (x 7) q)) → SF b s (mI m 737 b) m m' → Q (.inl none) m') : zC xs xl (d + 1) 150 [zR b, zI (s : Int), zI q] m Q := by
  obtain ⟨r, k, n⟩ := h.1.at (by decide : (732, 26, 20, 6) ∈ rTab)
  have e : mA m (b + 26) s = x 7 := h.2.2.1 7 (by omega)
  have hs := h.2.1
  refine bX11_warm_0 ?_
  rw [r, k, n, Int.toNat_natCast, e, wr_id (x := x 7 + q) (by have := hx.2; omega) (by have := hx.2; omega)]
  have f : SF b s (mI m 737 b) m (sA m (b + 26) s (warmV (x 7) q)) := (SF.rfl rfl).w (slC_k (k := 7) (by omega))
  exact ⟨h.1.1, rfl, by omega, hQ _ (h.sf f (h.2.2.set (k := 7) (by omega) (fun z => absurd z (by omega)))) f⟩
theorem R_moist {b s : Nat} {x : Nat → Int} {q : Int} (h : RW m b s x) (hx : 0 ≤ x 6 ∧ x 6 ≤ 100) (hq : -100 ≤ q ∧ q ≤ 100) (hQ : ∀ m', RW m' b s (up1 x 6 (moistV (x 6) q)) → SF b s (mI m 737 b) m m' → Q (.inl none) m') : zC xs xl (d + 1) 151 [zR b, zI (s : Int), zI q] m Q := by
  obtain ⟨r, k, n⟩ := h.1.at (by decide : (731, 25, 20, 6) ∈ rTab)
  have e : mA m (b + 25) s = x 6 := h.2.2.1 6 (by omega)
  have hs := h.2.1
  refine bX11_moisten_0 ?_
  rw [r, k, n, Int.toNat_natCast, e, wr_id (x := x 6 + q) (by omega) (by omega)]
  have f : SF b s (mI m 737 b) m (sA m (b + 25) s (moistV (x 6) q)) := (SF.rfl rfl).w (slC_k (k := 6) (by omega))
  exact ⟨h.1.1, rfl, by omega, hQ _ (h.sf f (h.2.2.set (k := 6) (by omega) (fun z => absurd z (by omega)))) f⟩
theorem R_clear {b s : Nat} {x : Nat → Int} (h : RW m b s x) (hQ : ∀ m', RW m' b s (vanishF x) → SF b s (mI m 737 b) m m' → Q (.inl none) m') : zC xs xl (d + 1) 155 [zR b, zI (s : Int)] m Q := by
  obtain ⟨r1, k1, n1⟩ := h.1.at (by decide : (729, 23, 21, 6) ∈ rTab)
  obtain ⟨r2, k2, n2⟩ := h.1.at (by decide : (731, 25, 20, 6) ∈ rTab)
  obtain ⟨r3, k3, n3⟩ := h.1.at (by decide : (732, 26, 20, 6) ∈ rTab)
  obtain ⟨r4, k4, n4⟩ := h.1.at (by decide : (733, 27, 20, 6) ∈ rTab)
  obtain ⟨r5, k5, n5⟩ := h.1.at (by decide : (734, 28, 20, 18) ∈ rTab)
  obtain ⟨r6, k6, n6⟩ := h.1.at (by decide : (735, 29, 20, 18) ∈ rTab)
  have hs := h.2.1
  have lp : ∀ (r j : Nat) (m1 : zM) (y : Nat → Int), j + r = 3 → RW m1 b s y → (∀ k, k ≤ 25 → ¬ (5 ≤ k ∧ k ≤ 8) → ¬ (20 ≤ k) → y k = x k) → (∀ k, 5 ≤ k → k ≤ 8 → y k = 0) → (∀ k, k < j → y (20 + k) = 0 ∧ y (23 + k) = 0) → SF b s (mI m 737 b) m m1 → zW xs xl d cX11_clearPiece 11 (none) false [] 30 [zR b, zI (s : Int), zI (j : Int)] [] m1 Q := by
    intro r
    induction r with
    | zero =>
      intro j m1 y e g g1 g2 g3 f
      refine bX11_clearPiece_30 ⟨fun _ => hQ m1 ⟨g.1, g.2.1, g.2.2.cg (fun k hk h8 h9 => ?_) (fun c => absurd rfl c)⟩ f, fun z => absurd (by omega) z⟩
      unfold vanishF
      by_cases c : (5 ≤ k ∧ k ≤ 8) ∨ k = 18 ∨ (20 ≤ k ∧ k ≤ 25)
      · rw [if_pos c]
        rcases c with c | c | c
        · exact (g2 k c.1 c.2).symm
        · exact absurd c h8
        · by_cases c2 : k < 23
          · have := (g3 (k - 20) (by omega)).1
            rw [show 20 + (k - 20) = k by omega] at this
            exact this.symm
          · have := (g3 (k - 23) (by omega)).2
            rw [show 23 + (k - 23) = k by omega] at this
            exact this.symm
      · rw [if_neg c]; exact (g1 k hk (by omega) (by omega)).symm
    | succ r ih =>
      intro j m1 y e g g1 g2 g3 f
      refine bX11_clearPiece_30 ⟨fun z => absurd z (by omega), fun _ => ?_⟩
      rw [f.2.1.1, f.2.1.2.2.1, f.2.1.2.2.2.1, r5, r6, k5, k6, n5, n6, wr_3s hs (by omega), wr_s (by omega), Int.toNat_natCast]
      have f2 : SF b s (mI m 737 b) m (sA (sA m1 (b + 28) (3 * s + j) 0) (b + 29) (3 * s + j) 0) := (f.w (Or.inr (by omega))).w (Or.inr (by omega))
      have x2 : RX (sA (sA m1 (b + 28) (3 * s + j) 0) (b + 29) (3 * s + j) 0) b s (up1 (up1 y (20 + j) 0) (23 + j) 0) := (g.2.2.bnd (by omega)).tgt (by omega)
      refine ⟨h.1.1, by omega, rfl, by omega, rfl, ih (j + 1) _ _ (by omega) (h.sf f2 x2) (fun k hk c1 c2 => ?_) (fun k c1 c2 => ?_) (fun k hk => ?_) f2⟩
      · show (if k = 23 + j then 0 else if k = 20 + j then 0 else y k) = x k
        rw [if_neg (by omega), if_neg (by omega)]; exact g1 k hk c1 c2
      · show (if k = 23 + j then 0 else if k = 20 + j then 0 else y k) = 0
        rw [if_neg (by omega), if_neg (by omega)]; exact g2 k c1 c2
      · show (if 20 + k = 23 + j then 0 else if 20 + k = 20 + j then 0 else y (20 + k)) = 0 ∧ (if 23 + k = 23 + j then 0 else if 23 + k = 20 + j then 0 else y (23 + k)) = 0
        by_cases ck : k = j
        · rw [ck]
          exact ⟨by rw [if_neg (by omega), if_pos rfl], by rw [if_pos rfl]⟩
        · have := g3 k (by omega)
          refine ⟨?_, ?_⟩
          · split
            · rfl
            · split
              · rfl
              · exact this.1
          · split
            · rfl
            · split
              · rfl
              · exact this.2
  refine bX11_clearPiece_0 ?_
  rw [r1, k1, n1, r2, k2, n2, r3, k3, n3, r4, k4, n4, Int.toNat_natCast]
  have f1 : SF b s (mI m 737 b) m (sA (sA (sA (sA m (b + 23) s 0) (b + 25) s 0) (b + 26) s 0) (b + 27) s 0) := ((((SF.rfl rfl).w (slC_k (k := 5) (by omega))).w (slC_k (k := 6) (by omega))).w (slC_k (k := 7) (by omega))).w (slC_k (k := 8) (by omega))
  have x1 : RX (sA (sA (sA (sA m (b + 23) s 0) (b + 25) s 0) (b + 26) s 0) (b + 27) s 0) b s (up1 (up1 (up1 (up1 x 5 0) 6 0) 7 0) 8 0) := (((h.2.2.set (k := 5) (by omega) (fun _ => rfl)).set (k := 6) (by omega) (fun z => absurd z (by omega))).set (k := 7) (by omega) (fun z => absurd z (by omega))).set (k := 8) (by omega) (fun z => absurd z (by omega))
  refine ⟨h.1.1, by omega, rfl, by omega, rfl, by omega, rfl, by omega, rfl, lp 3 0 _ _ (by omega) (h.sf f1 x1) (fun k hk c1 c2 => ?_) (fun k c1 c2 => ?_) (fun k hk => absurd hk (by omega)) f1⟩
  · show (if k = 8 then 0 else if k = 7 then 0 else if k = 6 then 0 else if k = 5 then 0 else x k) = x k
    rw [if_neg (by omega), if_neg (by omega), if_neg (by omega), if_neg (by omega)]
  · show (if k = 8 then 0 else if k = 7 then 0 else if k = 6 then 0 else if k = 5 then 0 else x k) = 0
    split
    · rfl
    · split
      · rfl
      · split
        · rfl
        · rw [if_pos (by omega)]
theorem R_lose {b s : Nat} {x : Nat → Int} (h : RW m b s x) (hQ : ∀ m', RW m' b s (loseF x) → SF b s (wr (mI m 737 b + 1)) m m' → Q (.inl (some (zI 0))) m') : zC xs xl (d + 2) 156 [zR b, zI (s : Int)] m Q := by
  have hs := h.2.1
  refine bX11_lose_0 ⟨h.1.1, R_clear h (fun m1 g f => ⟨rfl, g.1.1, ?_⟩)⟩
  obtain ⟨r1, k1, n1⟩ := g.1.at (by decide : (723, 17, 20, 6) ∈ rTab)
  obtain ⟨r2, k2, n2⟩ := g.1.at (by decide : (719, 13, 20, 6) ∈ rTab)
  obtain ⟨r3, k3, n3⟩ := g.1.at (by decide : (718, 12, 20, 6) ∈ rTab)
  obtain ⟨r4, k4, n4⟩ := g.1.at (by decide : (720, 14, 20, 6) ∈ rTab)
  have e1 : mA m1 (b + 17) s = x 13 := g.2.2.1 13 (by omega)
  have e2 : mA m1 (b + 13) s = x 17 := g.2.2.1 17 (by omega)
  rw [r1, k1, n1, r2, k2, n2, r3, k3, n3, r4, k4, n4, Int.toNat_natCast, e1, (Eqv.nA (show b + 13 ≠ b + 17 by omega)).2.2.1, e2, f.1.1]
  have f2 : SF b s (wr (mI m 737 b + 1)) m (sA (sA (sI (sA m1 (b + 17) s (wr (x 13 + 1))) 737 b (wr (mI m 737 b + 1))) (b + 12) s (x 17)) (b + 14) s 0) := (((f.w (slC_k (k := 13) (by omega))).l).w (slC_k (k := 2) (by omega))).w (slC_k (k := 16) (by omega))
  have x0 : RX (sI (sA m1 (b + 17) s (wr (x 13 + 1))) 737 b (wr (mI m 737 b + 1))) b s (up1 (vanishF x) 13 (wr (x 13 + 1))) := g.2.2.set (k := 13) (by omega) (fun z => absurd z (by omega))
  have x2 : RX (sA (sA (sI (sA m1 (b + 17) s (wr (x 13 + 1))) 737 b (wr (mI m 737 b + 1))) (b + 12) s (x 17)) (b + 14) s 0) b s (loseF x) := (x0.set (k := 2) (by omega) (fun z => absurd z (by omega))).set (k := 16) (by omega) (fun z => absurd z (by omega))
  exact ⟨rfl, by omega, rfl, by omega, by omega, rfl, by omega, rfl, hQ _ (h.sf f2 x2) f2⟩
end ZRA
