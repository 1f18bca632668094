def sgnF (v : Int) : Int := if v < 0 then -1 else if v = 0 then 0 else 1
theorem sgn_f : ∀ v : Fin 801, bOr (bShr ((v.1 : Int) - 400) 31) (bUsh (wr (-((v.1 : Int) - 400))) 31) = sgnF ((v.1 : Int) - 400) := by decide +kernel
theorem sgn_in {v : Int} (h : -400 ≤ v ∧ v ≤ 400) : bOr (bShr v 31) (bUsh (wr (-v)) 31) = sgnF v := by
  have q := sgn_f ⟨(v + 400).toNat, by omega⟩
  have e : (((v + 400).toNat : Nat) : Int) - 400 = v := by omega
  rwa [show (((⟨(v + 400).toNat, by omega⟩ : Fin 801).1 : Nat) : Int) - 400 = v from e] at q
def tgX (x v : Nat → Int) : Nat → Nat → Int
  | 0 => x
  | j + 1 => up1 (tgX x v j) (23 + j) (v j)
theorem tgX_at {x v : Nat → Int} : ∀ {j k : Nat}, ¬ (23 ≤ k ∧ k < 23 + j) → tgX x v j k = x k
  | 0, k, _ => rfl
  | j + 1, k, h => (if_neg (by omega)).trans (tgX_at (by omega))
def nrX (y : Nat → Int) (g : Int) : Nat → Nat → Int
  | 0 => y
  | j + 1 => up1 (nrX y g j) (20 + j) (nearF (y (20 + j)) (y (23 + j)) g)
theorem nrX_at {y : Nat → Int} {g : Int} : ∀ {j k : Nat}, ¬ (20 ≤ k ∧ k < 20 + j) → nrX y g j k = y k
  | 0, k, _ => rfl
  | j + 1, k, h => (if_neg (by omega)).trans (nrX_at (by omega))
/-- the first j bends are as meant -/
def mtF (y : Nat → Int) : Nat → Prop
  | 0 => True
  | j + 1 => mtF y j ∧ y (20 + j) = y (23 + j)
theorem mt3 {y : Nat → Int} : mtF y 3 ↔ meantF y := ⟨fun h => ⟨h.1.1.2, h.1.2, h.2⟩, fun h => ⟨⟨⟨trivial, h.1⟩, h.2.1⟩, h.2.2⟩⟩
theorem mtF_cg {y z : Nat → Int} : ∀ {j : Nat}, (∀ k, k < j → z (20 + k) = y (20 + k) ∧ z (23 + k) = y (23 + k)) → (mtF z j ↔ mtF y j)
  | 0, _ => Iff.rfl
  | j + 1, e => by
    have h := mtF_cg (y := y) (z := z) (j := j) (fun k hk => e k (by omega))
    show (mtF z j ∧ _) ↔ (mtF y j ∧ _)
    rw [h, (e j (by omega)).1, (e j (by omega)).2]
theorem absF_pm (v : Int) : (0 ≤ v ∧ absF v = v) ∨ (v < 0 ∧ absF v = -v) := by
  unfold absF
  by_cases c : 0 ≤ v
  · exact Or.inl ⟨c, if_pos c⟩
  · exact Or.inr ⟨by omega, if_neg c⟩
theorem sgn_pm (v : Int) : (v < 0 ∧ sgnF v = -1) ∨ (v = 0 ∧ sgnF v = 0) ∨ (0 < v ∧ sgnF v = 1) := by
  unfold sgnF
  by_cases c : v < 0
  · exact Or.inl ⟨c, if_pos c⟩
  · by_cases c2 : v = 0
    · exact Or.inr (Or.inl ⟨c2, by rw [if_neg c, if_pos c2]⟩)
    · exact Or.inr (Or.inr ⟨by omega, by rw [if_neg c, if_neg c2]⟩)
theorem near_sgn {a b g : Int} (hg : 0 ≤ g) : a + sgnF (b - a) * (if absF (b - a) < g then absF (b - a) else g) = nearF a b g := by
  have hA : (if 0 ≤ b - a then b - a else a - b) = absF (b - a) := by unfold absF; split <;> omega
  unfold nearF
  rw [hA]
  have hs := sgn_pm (b - a)
  have ha := absF_pm (b - a)
  by_cases c1 : absF (b - a) ≤ g
  · rw [if_pos c1]
    have e : (if absF (b - a) < g then absF (b - a) else g) = absF (b - a) := by
      by_cases c2 : absF (b - a) < g
      · rw [if_pos c2]
      · rw [if_neg c2]; omega
    rw [e]
    rcases hs with ⟨h1, h2⟩ | ⟨h1, h2⟩ | ⟨h1, h2⟩ <;> rw [h2] <;> omega
  · rw [if_neg c1]
    have e : (if absF (b - a) < g then absF (b - a) else g) = g := if_neg (by omega)
    rw [e]
    rcases hs with ⟨h1, h2⟩ | ⟨h1, h2⟩ | ⟨h1, h2⟩
    · rw [h2, if_neg (by omega)]; omega
    · omega
    · rw [h2, if_pos (by omega)]; omega
theorem near_0 (a c : Int) : nearF a c 0 = a := by
  unfold nearF
  by_cases h : 0 ≤ c - a
  · rw [if_pos h]
    by_cases h2 : c - a ≤ 0
    · rw [if_pos h2]; omega
    · rw [if_neg h2, if_pos (by omega)]; omega
  · rw [if_neg h]
    rw [if_neg (show ¬ (a - c ≤ 0) by omega), if_neg (by omega)]; omega
theorem wr_oj {o j : Nat} (h : o + j < 100000) : wr (wr ((o : Int) + 1) + (j : Int)) = ((o + 1 + j : Nat) : Int) := by rw [wr_s (by omega), wr_id (by omega) (by omega)]; omega
section ZRC
variable {xs : Nat → Int} {xl d : Nat} {m : zM} {Q : zRes → zM → Prop}
theorem R_signum {v : Int} (h : -400 ≤ v ∧ v ≤ 400) (hQ : Q (.inl (some (zI (sgnF v)))) m) : zC xs xl (d + 1) 220 [zI v] m Q := by
  refine bJ6_signum_0f7a4_0 ?_
  rw [sgn_in h]; exact hQ
theorem R_bendEnd {b s : Nat} {y : Nat → Int} {g : Int} {own : Int} {u0 : zV} (h : RW m b s y) (hx : pcOk y) (hb : pbOk y) (hg : 0 ≤ g ∧ g ≤ 24000) (hQ : ∀ m', RW m' b s (dryF (coolF (nearB y g) 10) 1) → SF b s (mI m 737 b) m m' → Q (.inl (some (zI (if meantF (nearB y g) then 1 else 0)))) m') : zW xs xl (d + 1) cX11_bend 11 (some .boolean) false [] 148 [zR b, zI (s : Int), zI own, zI 1, zI g, zI ((3 * s : Nat) : Int), u0] [] m Q := by
  have hs := h.2.1
  have e3s : wr (3 * (s : Int)) = ((3 * s : Nat) : Int) := by rw [wr_id (by omega) (by omega)]; omega
  have hX : nrX y g 3 = nearB y g := rfl
  have lp : ∀ (r j : Nat) (m1 : zM) (a3 : Int) (u : zV), j + r = 3 → RW m1 b s (nrX y g j) → SF b s (mI m 737 b) m m1 → (a3 = 0 ∨ a3 = 1) → (a3 = 1 ↔ mtF (nrX y g j) j) → zW xs xl (d + 1) cX11_bend 11 (some .boolean) false [] 148 [zR b, zI (s : Int), zI own, zI a3, zI g, zI ((3 * s + j : Nat) : Int), u] [] m1 Q := by
    intro r
    induction r with
    | zero =>
      intro j m1 a3 u e w f ha hm
      have ej : j = 3 := by omega
      subst ej
      rw [hX] at w hm
      rw [mt3] at hm
      have hxn : pcOk (nearB y g) := hx
      refine bX11_bend_148 ⟨fun _ => ⟨w.1.1, R_warm w hxn (by omega) (fun m2 g2 f2 => ⟨rfl, g2.1.1, R_moist (x := up1 (nearB y g) 7 (warmV (nearB y g 7) (-10))) g2 hx.1 (by omega) (fun m3 g3 f3 => ⟨rfl, ha, ?_⟩)⟩)⟩, fun z => absurd (by rw [e3s, wr_id (by omega) (by omega)]; omega) z⟩
      rw [f.1.1] at f2
      rw [f2.1.1] at f3
      have hq := hQ m3 (g3.fx (dc_11 hxn)) ((f.tr f2).tr f3)
      have ea : (if meantF (nearB y g) then 1 else 0) = a3 := by
        by_cases c : meantF (nearB y g)
        · rw [if_pos c]; exact (hm.mpr c).symm
        · rw [if_neg c]
          rcases ha with z | z
          · exact z.symm
          · exact absurd (hm.mp z) c
      rwa [ea] at hq
    | succ r ih =>
      intro j m1 a3 u e w f ha hm
      obtain ⟨r1, k1, n1⟩ := w.1.at (by decide : (735, 29, 20, 18) ∈ rTab)
      obtain ⟨r2, k2, n2⟩ := w.1.at (by decide : (734, 28, 20, 18) ∈ rTab)
      have eB : mA m1 (b + 28) (3 * s + j) = y (20 + j) := (w.2.2.2.2 j (by omega)).1.trans (nrX_at (by omega))
      have eT : mA m1 (b + 29) (3 * s + j) = y (23 + j) := (w.2.2.2.2 j (by omega)).2.trans (nrX_at (by omega))
      have b1 := hb (20 + j) (by omega) (by omega)
      have b2 := hb (23 + j) (by omega) (by omega)
      have eD : wr (y (23 + j) - y (20 + j)) = y (23 + j) - y (20 + j) := wr_id (by omega) (by omega)
      have eN : wr (0 - (y (23 + j) - y (20 + j))) = -(y (23 + j) - y (20 + j)) := by rw [wr_id (by omega) (by omega)]; omega
      have eA : (if 0 ≤ y (23 + j) - y (20 + j) then y (23 + j) - y (20 + j) else -(y (23 + j) - y (20 + j))) = absF (y (23 + j) - y (20 + j)) := rfl
      have hns := near_sgn (a := y (20 + j)) (b := y (23 + j)) hg.1
      have hni := nearF_in b1 b2 hg.1
      have eW : wr (y (20 + j) + wr (sgnF (y (23 + j) - y (20 + j)) * (if absF (y (23 + j) - y (20 + j)) < g then absF (y (23 + j) - y (20 + j)) else g))) = nearF (y (20 + j)) (y (23 + j)) g := by
        have e2 : sgnF (y (23 + j) - y (20 + j)) * (if absF (y (23 + j) - y (20 + j)) < g then absF (y (23 + j) - y (20 + j)) else g) = nearF (y (20 + j)) (y (23 + j)) g - y (20 + j) := by omega
        rw [e2, wr_id (x := nearF (y (20 + j)) (y (23 + j)) g - y (20 + j)) (by omega) (by omega), wr_id (by omega) (by omega)]
        omega
      have f2 : SF b s (mI m 737 b) m (sA m1 (b + 28) (3 * s + j) (nearF (y (20 + j)) (y (23 + j)) g)) := f.w (Or.inr (by omega))
      have x2 : RX (sA m1 (b + 28) (3 * s + j) (nearF (y (20 + j)) (y (23 + j)) g)) b s (nrX y g (j + 1)) := w.2.2.bnd (by omega)
      have w2 := h.sf f2 x2
      have hcg : mtF (nrX y g (j + 1)) j ↔ mtF (nrX y g j) j := mtF_cg (fun k hk => ⟨if_neg (by omega), if_neg (by omega)⟩)
      have en : nrX y g (j + 1) (20 + j) = nearF (y (20 + j)) (y (23 + j)) g := if_pos rfl
      have et : nrX y g (j + 1) (23 + j) = y (23 + j) := nrX_at (by omega)
      have hs1 : mtF (nrX y g (j + 1)) (j + 1) ↔ (mtF (nrX y g j) j ∧ nearF (y (20 + j)) (y (23 + j)) g = y (23 + j)) := by
        show (mtF (nrX y g (j + 1)) j ∧ nrX y g (j + 1) (20 + j) = nrX y g (j + 1) (23 + j)) ↔ _
        rw [hcg, en, et]
      refine bX11_bend_148 ⟨fun z => absurd z (by rw [e3s, wr_id (by omega) (by omega)]; omega), fun _ => ⟨w.1.1, ?_⟩⟩
      rw [r1, k1, n1, r2, k2, n2, Int.toNat_natCast, eB, eT, eD, eN, eA, wr_s (by omega)]
      refine ⟨rfl, by omega, rfl, by omega, R_signum (by omega) ⟨_, rfl, ?_⟩⟩
      rw [r1, r2, k1, n1, k2, n2, eW, zm_As, (Eqv.nA (show b + 29 ≠ b + 28 by omega)).2.2.1, eT]
      refine ⟨by omega, rfl, fun c => ?_, fun c => ⟨w.1.1, rfl, by omega, rfl, by omega, fun c2 => ?_, fun c2 => ?_⟩⟩
      · exact ih (j + 1) _ 0 _ (by omega) w2 f2 (Or.inl rfl) ⟨fun z => absurd z (by decide), fun z => by have := hm.mpr (hs1.mp z).1; omega⟩
      · exact ih (j + 1) _ 0 _ (by omega) w2 f2 (Or.inl rfl) ⟨fun z => absurd z (by decide), fun z => absurd (hs1.mp z).2 c2⟩
      · exact ih (j + 1) _ 1 _ (by omega) w2 f2 (Or.inr rfl) ⟨fun _ => hs1.mpr ⟨hm.mp (by omega), Decidable.not_not.mp c2⟩, fun _ => rfl⟩
  exact lp 3 0 m 1 u0 (by omega) h (SF.rfl rfl) (Or.inr rfl) ⟨fun _ => trivial, fun _ => rfl⟩
theorem stiff_tab {x w : Int} {xs : Nat → Int} (h : 0 ≤ w ∧ w ≤ 3) : zXI xs 4 w.toNat = stiffF w := by
  have hc : w = 0 ∨ w = 1 ∨ w = 2 ∨ w = 3 := by omega
  rcases hc with c | c | c | c <;> subst c <;> rfl
theorem R_bend {b s own : Nat} {x v : Nat → Int} (h : RW m b s x) (h5 : x 5 ≠ 0) (hw : 0 ≤ x 18 ∧ x 18 ≤ 3) (hx : pcOk x) (hb : pbOk x) (hc : 0 ≤ x 8 ∧ x 8 ≤ 2) (ho : own + 4 ≤ 1440) (hv : ∀ j, j < 3 → mA m (b + 11) (own + 1 + j) = v j ∧ 0 ≤ v j ∧ v j ≤ 40) (hQ : ∀ m', RW m' b s (outX (bendR x (v 0) (v 1) (v 2))) → SF b s (outV (bendR x (v 0) (v 1) (v 2)) (mI m 737 b)) m m' → Q (.inl (some (zI (outB (bendR x (v 0) (v 1) (v 2)))))) m') : zC xs xl (d + 3) 153 [zR b, zI (s : Int), zI (own : Int)] m Q := by
  have hs := h.2.1
  have e3s : wr (3 * (s : Int)) = ((3 * s : Nat) : Int) := by rw [wr_id (by omega) (by omega)]; omega
  have hT : tgX x v 3 = tgtF x (v 0) (v 1) (v 2) := rfl
  have lp : ∀ (r j : Nat) (m1 : zM) (a3 : Int), j + r = 3 → RW m1 b s (tgX x v j) → SF b s (mI m 737 b) m m1 → (a3 = 0 ∨ a3 = 1) → (a3 = 1 ↔ mtF (tgX x v j) j) → ∀ (u1 u2 : zV), zW xs xl (d + 2) cX11_bend 11 (some .boolean) false [] 5 [zR b, zI (s : Int), zI (own : Int), zI a3, zI (j : Int), u1, u2] [] m1 Q := by
    intro r
    induction r with
    | zero =>
      intro j m1 a3 e w f ha hm u1 u2
      have ej : j = 3 := by omega
      subst ej
      rw [hT] at w hm
      rw [mt3] at hm
      obtain ⟨r1, k1, n1⟩ := w.1.at (by decide : (732, 26, 20, 6) ∈ rTab)
      obtain ⟨r2, k2, n2⟩ := w.1.at (by decide : (731, 25, 20, 6) ∈ rTab)
      obtain ⟨r3, k3, n3⟩ := w.1.at (by decide : (730, 24, 20, 6) ∈ rTab)
      obtain ⟨r4, k4, n4⟩ := w.1.at (by decide : (733, 27, 20, 6) ∈ rTab)
      have e7 : mA m1 (b + 26) s = x 7 := w.2.2.1 7 (by omega)
      have e6 : mA m1 (b + 25) s = x 6 := w.2.2.1 6 (by omega)
      have e8 : mA m1 (b + 27) s = x 8 := w.2.2.1 8 (by omega)
      have e18 : mA m1 (b + 24) s = x 18 := w.2.2.2.1 h5
      have hp := pcmul hx
      have hst := stiffF_in (x 18)
      have hsi := stepF_in hx
      have hx6 := hx.1
      have hx7 := hx.2
      have eG : wr (Int.tdiv (wr (x 7 * wr (x 6 + 20))) (wr (100 * stiffF (x 18)))) = stepF x := by
        rw [wr_id (x := x 6 + 20) (by omega) (by omega), wr_id (x := x 7 * (x 6 + 20)) (by omega) (by omega), wr_id (x := 100 * stiffF (x 18)) (by omega) (by omega)]
        exact wr_id (by unfold stepF at hsi; omega) (by unfold stepF at hsi; omega)
      have hxt : pcOk (tgtF x (v 0) (v 1) (v 2)) := hx
      have hbt : pbOk (tgtF x (v 0) (v 1) (v 2)) := by
        intro k hk1 hk2
        have h0 := (hv 0 (by omega)).2
        have h1 := (hv 1 (by omega)).2
        have h2 := (hv 2 (by omega)).2
        show 0 ≤ (if k = 25 then v 2 else if k = 24 then v 1 else if k = 23 then v 0 else x k) ∧ (if k = 25 then v 2 else if k = 24 then v 1 else if k = 23 then v 0 else x k) ≤ 40
        split
        · exact h2
        · split
          · exact h1
          · split
            · exact h0
            · exact hb k hk1 hk2
      refine bX11_bend_5 ⟨fun _ => ⟨w.1.1, ?_⟩, fun z => absurd (by omega) z⟩
      rw [r1, k1, n1, r2, k2, n2, r3, k3, n3, r4, k4, n4, Int.toNat_natCast, e7, e6, e18, e8, stiff_tab (x := 0) hw, eG, e3s]
      have h148 : (¬ (stepF x = 0 ∧ ¬ meantF (tgtF x (v 0) (v 1) (v 2)))) → ∀ u, zW xs xl (d + 2) cX11_bend 11 (some .boolean) false [] 148 [zR b, zI (s : Int), zI (own : Int), zI 1, zI (stepF x), zI ((3 * s : Nat) : Int), u] [] m1 Q := by
        intro hn u
        have er : bendR x (v 0) (v 1) (v 2) = ((if meantF (nearB (tgtF x (v 0) (v 1) (v 2)) (stepF x)) then 1 else 0), dryF (coolF (nearB (tgtF x (v 0) (v 1) (v 2)) (stepF x)) 10) 1) := if_neg hn
        rw [er] at hQ
        refine R_bendEnd w hxt hbt hsi (fun m2 g2 f2 => ?_)
        rw [f.1.1] at f2
        by_cases cm : meantF (nearB (tgtF x (v 0) (v 1) (v 2)) (stepF x))
        · rw [if_pos cm] at hQ ⊢
          exact hQ m2 g2 (f.tr f2)
        · rw [if_neg cm] at hQ ⊢
          exact hQ m2 g2 (f.tr f2)
      refine ⟨rfl, by omega, rfl, by omega, rfl, by omega, ⟨rfl, hw.1, by show x 18 < 4; omega⟩, by rw [wr_id (by omega) (by omega)]; omega, fun c => h148 (fun z => c z.1) _, fun c => ⟨fun c2 => h148 (fun z => z.2 (hm.mp (by omega))) _, fun c2 => ⟨rfl, by omega, fun c3 => ?_, fun c3 => ?_⟩⟩⟩
      · have c' := Decidable.not_not.mp c
        have nm : ¬ meantF (tgtF x (v 0) (v 1) (v 2)) := fun z => by have := hm.mpr z; omega
        have e8w : wr (x 8 + 1) = x 8 + 1 := wr_id (by omega) (by omega)
        rw [e8w] at c3 ⊢
        have er : bendR x (v 0) (v 1) (v 2) = ((if meantF (tgtF x (v 0) (v 1) (v 2)) then 1 else 0), dryF (coolF (up1 (tgtF x (v 0) (v 1) (v 2)) 8 (x 8 + 1)) 10) 1) := (if_pos ⟨c', nm⟩).trans (if_pos (by omega))
        rw [er, if_neg nm] at hQ
        have f2 : SF b s (mI m 737 b) m (sA m1 (b + 27) s (x 8 + 1)) := f.w (slC_k (k := 8) (by omega))
        have x2 : RX (sA m1 (b + 27) s (x 8 + 1)) b s (up1 (tgtF x (v 0) (v 1) (v 2)) 8 (x 8 + 1)) := w.2.2.set (k := 8) (by omega) (fun z => absurd z (by omega))
        rw [c']
        refine R_bendEnd (y := up1 (tgtF x (v 0) (v 1) (v 2)) 8 (x 8 + 1)) (g := 0) (h.sf f2 x2) hx (fun k k1 k2 => ?_) (by omega) (fun m3 g3 f3 => ?_)
        · show 0 ≤ (if k = 8 then x 8 + 1 else tgtF x (v 0) (v 1) (v 2) k) ∧ (if k = 8 then x 8 + 1 else tgtF x (v 0) (v 1) (v 2) k) ≤ 40
          rw [if_neg (by omega)]; exact hbt k k1 k2
        · rw [f2.1.1] at f3
          have hnb : nearB (up1 (tgtF x (v 0) (v 1) (v 2)) 8 (x 8 + 1)) 0 = up1 (tgtF x (v 0) (v 1) (v 2)) 8 (x 8 + 1) := by
            unfold nearB
            rw [near_0, near_0, near_0]
            funext k
            show (if k = 22 then _ else if k = 21 then _ else if k = 20 then _ else _) = _
            by_cases k22 : k = 22
            · rw [if_pos k22, k22]
            · rw [if_neg k22]
              by_cases k21 : k = 21
              · rw [if_pos k21, k21]
              · rw [if_neg k21]
                by_cases k20 : k = 20
                · rw [if_pos k20, k20]
                · rw [if_neg k20]
          rw [hnb] at g3 ⊢
          have nm2 : ¬ meantF (up1 (tgtF x (v 0) (v 1) (v 2)) 8 (x 8 + 1)) := nm
          rw [if_neg nm2]
          exact hQ m3 g3 (f2.tr f3)
      · have c' := Decidable.not_not.mp c
        have nm : ¬ meantF (tgtF x (v 0) (v 1) (v 2)) := fun z => by have := hm.mpr z; omega
        have e8w : wr (x 8 + 1) = x 8 + 1 := wr_id (by omega) (by omega)
        rw [e8w] at c3 ⊢
        have er : bendR x (v 0) (v 1) (v 2) = (2, up1 (tgtF x (v 0) (v 1) (v 2)) 8 (x 8 + 1)) := (if_pos ⟨c', nm⟩).trans (if_neg (by omega))
        rw [er] at hQ
        have f2 : SF b s (mI m 737 b) m (sA m1 (b + 27) s (x 8 + 1)) := f.w (slC_k (k := 8) (by omega))
        have x2 : RX (sA m1 (b + 27) s (x 8 + 1)) b s (up1 (tgtF x (v 0) (v 1) (v 2)) 8 (x 8 + 1)) := w.2.2.set (k := 8) (by omega) (fun z => absurd z (by omega))
        refine R_lose (h.sf f2 x2) (fun m3 g3 f3 => ⟨0, rfl, Or.inl rfl, ?_⟩)
        rw [f2.1.1] at f3
        exact hQ m3 g3 (f2.tr f3)
    | succ r ih =>
      intro j m1 a3 e w f ha hm u1 u2
      obtain ⟨r1, k1, n1⟩ := w.1.at (by decide : (717, 11, 20, 1440) ∈ rTab)
      obtain ⟨r2, k2, n2⟩ := w.1.at (by decide : (735, 29, 20, 18) ∈ rTab)
      obtain ⟨r3, k3, n3⟩ := w.1.at (by decide : (734, 28, 20, 18) ∈ rTab)
      have eV : mA m1 (b + 11) (own + 1 + j) = v j := by
        rw [f.2.2 (b + 11) (own + 1 + j) (fun z => by rcases z with z | z <;> omega)]
        exact (hv j (by omega)).1
      have eB : mA m1 (b + 28) (3 * s + j) = x (20 + j) := (w.2.2.2.2 j (by omega)).1.trans (tgX_at (by omega))
      have f2 : SF b s (mI m 737 b) m (sA m1 (b + 29) (3 * s + j) (v j)) := f.w (Or.inr (by omega))
      have x2 : RX (sA m1 (b + 29) (3 * s + j) (v j)) b s (tgX x v (j + 1)) := w.2.2.tgt (by omega)
      have w2 := h.sf f2 x2
      have hcg : mtF (tgX x v (j + 1)) j ↔ mtF (tgX x v j) j := mtF_cg (fun k hk => ⟨if_neg (by omega), if_neg (by omega)⟩)
      have en : tgX x v (j + 1) (20 + j) = x (20 + j) := tgX_at (by omega)
      have et : tgX x v (j + 1) (23 + j) = v j := if_pos rfl
      have hs1 : mtF (tgX x v (j + 1)) (j + 1) ↔ (mtF (tgX x v j) j ∧ x (20 + j) = v j) := by
        show (mtF (tgX x v (j + 1)) j ∧ tgX x v (j + 1) (20 + j) = tgX x v (j + 1) (23 + j)) ↔ _
        rw [hcg, en, et]
      refine bX11_bend_5 ⟨fun z => absurd z (by omega), fun _ => ⟨w.1.1, ?_⟩⟩
      rw [r1, k1, n1, r2, k2, n2, r3, k3, n3, wr_oj (by omega), wr_3s hs (by omega), wr_s (by omega), Int.toNat_natCast, Int.toNat_natCast, eV, (Eqv.nA (show b + 28 ≠ b + 29 by omega)).2.2.1, eB]
      refine ⟨rfl, by omega, by omega, rfl, fun c => ?_, fun c => ⟨rfl, by omega, fun c2 => ?_, fun c2 => ?_⟩⟩
      · exact ih (j + 1) _ 0 (by omega) w2 f2 (Or.inl rfl) ⟨fun z => absurd z (by decide), fun z => by have := hm.mpr (hs1.mp z).1; omega⟩ _ _
      · exact ih (j + 1) _ 0 (by omega) w2 f2 (Or.inl rfl) ⟨fun z => absurd z (by decide), fun z => absurd (hs1.mp z).2 c2⟩ _ _
      · exact ih (j + 1) _ 1 (by omega) w2 f2 (Or.inr rfl) ⟨fun _ => hs1.mpr ⟨hm.mp (by omega), Decidable.not_not.mp c2⟩, fun _ => rfl⟩ _ _
  exact bX11_bend_0 (lp 3 0 m 1 (by omega) h (SF.rfl rfl) (Or.inr rfl) ⟨fun _ => trivial, fun _ => rfl⟩ _ _)
end ZRC
