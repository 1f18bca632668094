theorem RSt.sf0 {m m' : zM} {b s : Nat} {Y : zY} {x' : Nat → Int} (h : RSt m b Y) (f : SF b s (mI m 737 b) m m') (hs : s < 6) (g : RX m' b s x') (h0 : x' 0 ≠ 0 → yX Y s 0 ≠ 0) : RSt m' b (yx Y s x') := by
  obtain ⟨q1, q2, q3, q4, q5, q6, q7⟩ := h.sf f hs g h0
  refine ⟨q1, ⟨q2.1, q2.2.1, q2.2.2.1, q2.2.2.2.1, ?_, q2.2.2.2.2.2.1, q2.2.2.2.2.2.2⟩, q3, q4, q5, q6, q7⟩
  rw [f.1.1]
  exact h.2.1.2.2.2.2.1
theorem RSt.pk {m m' : zM} {b n' : Nat} {w' : Int} {Y : zY} {y' : Nat → zPk} (h : RSt m b Y) (f : MF b pJ (pCs b) m m') (hP : ∀ i, i < n' → RP m' b i (y' i)) (hn : mI m' 705 b = n') (hw : mI m' 738 b = w') (h60 : n' ≤ 60) : RSt m' b (yst Y w' n' y') := by
  obtain ⟨h1, h2, h3, h4, h5, h6, h7⟩ := id h
  obtain ⟨g1, g2, g3, g4, g5, g6, g7, g8⟩ := h2
  have e : ∀ a j, ¬ pCs b a j → mA m' a j = mA m a j := f.2.2
  have eI : ∀ k, ¬ pJ k → mI m' k b = mI m k b := fun k hk => f.1 k b (fun z => hk z.2)
  refine h.up (f.rf h1) ⟨(eI 704 (by decide)).trans g1, hn, (eI 712 (by decide)).trans g3, (eI 736 (by decide)).trans g4, (eI 737 (by decide)).trans g5, hw, h60, g8⟩ (Or.inl hP) (fun j hj => ?_) (fun i hi => (h5 i hi).mv (fun a j z => e a j (fun z2 => by unfold slC at z; unfold pCs at z2; omega))) (fun i hi c => (h6 i hi c).mv (fun a j z => e a j (fun z2 => by unfold pCs at z2; omega))) (fun r j hr hj => ?_)
  · rw [e _ _ (fun z => by unfold pCs at z; omega)]; exact h4 j hj
  · rw [e _ _ (fun z => by unfold pCs at z; omega)]; exact h7 r j hr hj
theorem RSt.g {m : zM} {b k f : Nat} {v : Int} {Y : zY} (h : RSt m b Y) (hk : (k = 0 ∧ f = 704) ∨ (k = 1 ∧ f = 736)) : RSt (sI m f b v) b (yg Y k v) := by
  obtain ⟨h1, h2, h3, h4, h5, h6, h7⟩ := id h
  obtain ⟨g1, g2, g3, g4, g5, g6, g7, g8⟩ := h2
  refine ⟨h1, ?_, h3, h4, h5, h6, h7⟩
  rcases hk with ⟨c1, c2⟩ | ⟨c1, c2⟩ <;> subst c1 <;> subst c2
  · exact ⟨zm_Is, (zm_In (by decide)).trans g2, (zm_In (by decide)).trans g3, (zm_In (by decide)).trans g4, (zm_In (by decide)).trans g5, (zm_In (by decide)).trans g6, g7, g8⟩
  · exact ⟨(zm_In (by decide)).trans g1, (zm_In (by decide)).trans g2, (zm_In (by decide)).trans g3, zm_Is, (zm_In (by decide)).trans g5, (zm_In (by decide)).trans g6, g7, g8⟩
theorem RSt.hull {m : zM} {b A r : Nat} {Y : zY} {row : Nat → Int} (h : RSt m b Y) (hr : r < 40) (hv : ∀ j, j < 6 → mA m A j = row j) : RSt (cpA m A 0 (b + 30) (6 * r) 6) b (yh Y r row) := by
  obtain ⟨h1, h2, h3, h4, h5, h6, h7⟩ := id h
  have e : ∀ a j, a ≠ b + 30 → mA (cpA m A 0 (b + 30) (6 * r) 6) a j = mA m a j := fun a j ha => (Eqv.cp ha).2.2.1 j
  refine h.up h1 h2 (Or.inr ⟨rfl, rfl, fun a j z => e a j (by omega)⟩) (fun j hj => ?_) (fun i hi => (h5 i hi).mv (fun a j z => e a j (by unfold slC at z; omega))) (fun i hi c => (h6 i hi c).mv (fun a j z => e a j (by omega))) (fun q j hq hj => ?_)
  · rw [e _ _ (by omega)]; exact h4 j hj
  · show (if b + 30 = b + 30 ∧ 6 * r ≤ 6 * q + j ∧ 6 * q + j < 6 * r + 6 then mA m A (0 + (6 * q + j - 6 * r)) else mA m (b + 30) (6 * q + j)) = (if q = r then row else yH Y q) j
    by_cases c : q = r
    · subst c
      rw [if_pos ⟨rfl, by omega, by omega⟩, if_pos rfl, show 0 + (6 * q + j - 6 * q) = j by omega]
      exact hv j hj
    · rw [if_neg (fun z => c (by omega)), if_neg c]
      exact h7 q j hq hj
theorem RX.wood {m : zM} {b i : Nat} {x : Nat → Int} {v w : Int} (h : RX m b i x) : RX (sA (sA m (b + 23) i v) (b + 24) i w) b i (up1 (up1 x 5 v) 18 w) := by
  refine ⟨fun k hk => ?_, fun c => ?_, fun j hj => ⟨?_, ?_⟩⟩
  · have hr := rOff_in hk
    have e18 : up1 (up1 x 5 v) 18 w k = up1 x 5 v k := if_neg (by omega)
    rw [(Eqv.nA (by omega)).2.2.1, e18]
    by_cases c : k = 5
    · subst c
      rw [show b + rOff 5 = b + 23 from rfl, zm_As]; exact (if_pos rfl).symm
    · have hne : rOff k ≠ rOff 5 := fun z => c (rOff_inj hk (by omega) z)
      have h23 : rOff 5 = 23 := rfl
      rw [(Eqv.nA (by omega)).2.2.1, h.1 k hk]; exact (if_neg c).symm
  · rw [zm_As]; exact (if_pos rfl).symm
  · rw [(Eqv.nA (by omega)).2.2.1, (Eqv.nA (by omega)).2.2.1, (h.2.2 j hj).1]
    exact ((if_neg (by omega)).trans (if_neg (by omega))).symm
  · rw [(Eqv.nA (by omega)).2.2.1, (Eqv.nA (by omega)).2.2.1, (h.2.2 j hj).2]
    exact ((if_neg (by omega)).trans (if_neg (by omega))).symm
def phiF (Y : zY) : Nat := if 40 ≤ yG Y 1 then 40 else (yG Y 1).toNat
section ZRH
variable {xs : Nat → Int} {xl d : Nat} {m : zM} {Q : zRes → zM → Prop}
theorem R_finish {b s : Nat} {Y : zY} (h : RSt m b Y) (hs : s < 6) (hg : 0 ≤ yG Y 1 ∧ yG Y 1 < 2000000000) (hQ : ∀ m', RSt m' b (finF Y s) → Fr (rg b (b + 31)) (phiF (finF Y s) - phiF Y) (6 * (phiF (finF Y s) - phiF Y)) m m' → Q (.inl none) m') : zC xs xl (d + 1) 157 [zR b, zI (s : Int)] m Q := by
  obtain ⟨r0, k0, n0⟩ := h.1.at (by decide : (714, 8, 21, 6) ∈ rTab)
  have hz := h.1.2.1
  have f0 : SF b s (mI m 737 b) m (sA m (b + 8) s 0) := (SF.rfl rfl).w (slC_k (k := 0) (by omega))
  have r1 : RSt (sA m (b + 8) s 0) b (yx Y s (up1 (yX Y s) 0 0)) := h.sf0 f0 hs ((h.2.2.2.2.1 s hs).set (k := 0) (by omega) (fun z => absurd z (by omega))) (fun c => absurd rfl c)
  have eG : mI m 736 b = yG Y 1 := h.2.1.2.2.2.1
  have ew : wr (yG Y 1 + 1) = yG Y 1 + 1 := wr_id (by omega) (by omega)
  refine bX11_finish_0 ?_
  rw [r0, k0, n0, eG, Int.toNat_natCast]
  refine ⟨h.1.1, by omega, rfl, fun c => ?_, fun c m4 e4 => ?_⟩
  · have ef : finF Y s = yg (yx Y s (up1 (yX Y s) 0 0)) 1 (wr (yG Y 1 + 1)) := if_pos c
    rw [ef] at hQ
    have f2 : Fr (rg b (b + 31)) 0 0 m (sI (sA m (b + 8) s 0) 736 b (wr (yG Y 1 + 1))) := f0.fr.sI (by unfold rg; omega)
    exact hQ _ (r1.g (Or.inr ⟨rfl, rfl⟩)) (f2.mono (fun _ _ z => z) (Nat.zero_le _) (Nat.zero_le _))
  · have ef : finF Y s = yg (yh (yx Y s (up1 (yX Y s) 0 0)) (yG Y 1).toNat (rowF s (yX Y s) (yG Y 0))) 1 (wr (yG Y 1 + 1)) := if_neg c
    have f4 : Fr (rg 0 0) 1 6 (sA m (b + 8) s 0) m4 := by rw [e4]; exact (Fr.rfl (k := 0) (u := 0)).nwA
    have r4 : RSt m4 b (yx Y s (up1 (yX Y s) 0 0)) := r1.mv f4 (by omega)
    have z4 : mz m4 = mz m + 1 := by rw [e4]; rfl
    have kA : mC m4 (mz m) = 20 ∧ mN m4 (mz m) = 6 := by rw [e4]; exact ⟨if_pos rfl, if_pos rfl⟩
    obtain ⟨a1, a2, a3⟩ := r4.1.at (by decide : (713, 7, 20, 6) ∈ rTab)
    obtain ⟨b1, b2, b3⟩ := r4.1.at (by decide : (721, 15, 20, 6) ∈ rTab)
    obtain ⟨c1, c2, c3⟩ := r4.1.at (by decide : (722, 16, 20, 6) ∈ rTab)
    obtain ⟨d1, d2, d3⟩ := r4.1.at (by decide : (724, 18, 20, 6) ∈ rTab)
    obtain ⟨h1, h2, h3⟩ := r4.1.at (by decide : (739, 30, 20, 240) ∈ rTab)
    have xX : yX (yx Y s (up1 (yX Y s) 0 0)) s = up1 (yX Y s) 0 0 := if_pos rfl
    have hx := r4.2.2.2.2.1 s hs
    rw [xX] at hx
    have v1 : mA m4 (b + 7) s = yX Y s 1 := hx.1 1 (by omega)
    have v3 : mA m4 (b + 15) s = yX Y s 3 := hx.1 3 (by omega)
    have v4 : mA m4 (b + 16) s = yX Y s 4 := hx.1 4 (by omega)
    have v14 : mA m4 (b + 18) s = yX Y s 14 := hx.1 14 (by omega)
    have vt : mI m4 704 b = yG Y 0 := r4.2.1.1
    have vf : mI m4 736 b = yG Y 1 := r4.2.1.2.2.2.1
    have w6 : wr (6 * yG Y 1) = 6 * yG Y 1 := wr_id (by omega) (by omega)
    have hne : ∀ o, o < 31 → b + o ≠ mz m := fun o ho => by omega
    have eA : ∀ (M : zM) (o j : Nat) (v : Int), o < 31 → mA (sA M (mz m) j v) (b + o) s = mA M (b + o) s := fun M o j v ho => (Eqv.nA (hne o ho)).2.2.1 s
    rw [a1, a2, a3, b1, b2, b3, c1, c2, c3, d1, d2, d3, h1, h2, h3, kA.1, kA.2, vt, vf, w6]
    simp only [eA _ 7 _ _ (by omega), eA _ 15 _ _ (by omega), eA _ 16 _ _ (by omega), eA _ 18 _ _ (by omega), v1, v3, v4, v14]
    refine ⟨by decide, trivial, r4.1.1, trivial, by omega, by decide, trivial, by omega, by decide, trivial, by omega, by decide, trivial, by omega, by decide, by decide, ⟨by omega, by omega, by omega, by decide, by omega, trivial, Or.inl trivial, (hne 30 (by omega)).symm⟩, ?_⟩
    have hrA : rg (mz m) (mz m + 1) (mz m) := by unfold rg; omega
    have f10 : Fr (rg (mz m) (mz m + 1)) 0 0 m4 (sA (sA (sA (sA (sA (sA m4 (mz m) 0 (s : Int)) (mz m) 1 (yX Y s 1)) (mz m) 2 (yX Y s 3)) (mz m) 3 (yX Y s 4)) (mz m) 4 (yX Y s 14)) (mz m) 5 (yG Y 0)) := (((((Fr.rfl.sA hrA).sA hrA).sA hrA).sA hrA).sA hrA).sA hrA
    have r10 := r4.mv f10 (by omega)
    have hv : ∀ j, j < 6 → mA (sA (sA (sA (sA (sA (sA m4 (mz m) 0 (s : Int)) (mz m) 1 (yX Y s 1)) (mz m) 2 (yX Y s 3)) (mz m) 3 (yX Y s 4)) (mz m) 4 (yX Y s 14)) (mz m) 5 (yG Y 0)) (mz m) j = rowF s (yX Y s) (yG Y 0) j := by
      intro j hj
      have hj6 : j = 0 ∨ j = 1 ∨ j = 2 ∨ j = 3 ∨ j = 4 ∨ j = 5 := by omega
      rcases hj6 with c | c | c | c | c | c <;> subst c <;> simp [zget, rowF]
    have z10 : mz (sA (sA (sA (sA (sA (sA m4 (mz m) 0 (s : Int)) (mz m) 1 (yX Y s 1)) (mz m) 2 (yX Y s 3)) (mz m) 3 (yX Y s 4)) (mz m) 4 (yX Y s 14)) (mz m) 5 (yG Y 0)) = mz m + 1 := z4
    generalize sA (sA (sA (sA (sA (sA m4 (mz m) 0 (s : Int)) (mz m) 1 (yX Y s 1)) (mz m) 2 (yX Y s 3)) (mz m) 3 (yX Y s 4)) (mz m) 4 (yX Y s 14)) (mz m) 5 (yG Y 0) = m10 at f10 r10 hv z10 ⊢
    have er : (6 * yG Y 1).toNat = 6 * (yG Y 1).toNat := by omega
    rw [er]
    have r12 := (r10.hull (r := (yG Y 1).toNat) (by omega) hv).g (k := 1) (f := 736) (v := wr (yG Y 1 + 1)) (Or.inr ⟨rfl, rfl⟩)
    have hphi : phiF (finF Y s) - phiF Y = 1 := by
      rw [ef]
      have q1 : yG (yg (yh (yx Y s (up1 (yX Y s) 0 0)) (yG Y 1).toNat (rowF s (yX Y s) (yG Y 0))) 1 (wr (yG Y 1 + 1))) 1 = wr (yG Y 1 + 1) := rfl
      unfold phiF
      rw [q1, ew, if_neg c]
      split <;> omega
    rw [hphi] at hQ
    rw [ef] at hQ
    refine hQ _ r12 ?_
    have f14 : Fr (rg b (b + 31)) 1 6 (sA m (b + 8) s 0) m10 := ⟨fun a ha hs2 => (f4.1 a ha (fun z => by unfold rg at z; omega)).tr (f10.1 a (by have := f4.2.1; omega) (fun z => by unfold rg at z; have : a < mz m := ha; omega)), by have := f4.2.1; have := f10.2.1; omega, by have := f4.2.2.1; have := f10.2.2.1; omega, by have := f4.2.2.2; have := f10.2.2.2; omega⟩
    exact ((f0.fr.tr f14 (Nat.le_refl _) (Nat.le_refl _)).cpA (by unfold rg; omega)).sI (by unfold rg; omega)
theorem R_cut {b i : Nat} {Y : zY} {w l : Int} (h : RSt m b Y) (hi : i < 6) (ho : stOk (yN Y) (yY Y)) (hl : 10 ≤ l ∧ l ≤ 200) (hw : 0 ≤ w ∧ w ≤ 3) (hp : yX Y i 8 = 0 ∧ ∀ k, 20 ≤ k → k ≤ 25 → yX Y i k = 0) (hQ : ∀ m', RSt m' b (cutR Y i w l).2 → Fr (rg b (b + 31)) 0 0 m m' → Q (.inl (some (zI (cutR Y i w l).1))) m') : zC xs xl (d + 4) 149 [zR b, zI (i : Int), zI w, zI l] m Q := by
  have hn60 := h.2.1.2.2.2.2.2.2.1
  have hb := bestF_in (yY Y) w l (yN Y)
  unfold cutR at hQ
  refine bX11_cut_0 ⟨h.1.1, R_find h.1 ⟨h.2.1.2.1, hn60⟩ h.2.2.1 ho (by omega) ⟨_, rfl, fun c => ?_, fun c => ?_⟩⟩
  · rw [if_neg (by omega)] at hQ
    obtain ⟨B, hB⟩ := Int.eq_ofNat_of_zero_le (show 0 ≤ bestF (yY Y) w l (yN Y) by omega)
    have hcl := bestF_clear (y := yY Y) (w := w) (l := l) (i := yN Y) (by omega)
    rw [hB, Int.toNat_natCast] at hQ hcl
    rw [hB] at hb
    have hBn : B < yN Y := by omega
    have hpo := ho B hBn
    have hin := clearL_in (Int.le_refl 0) hpo.2.2.2.1 hcl
    obtain ⟨a1, a2, a3⟩ := h.1.at (by decide : (729, 23, 21, 6) ∈ rTab)
    obtain ⟨b1, b2, b3⟩ := h.1.at (by decide : (730, 24, 20, 6) ∈ rTab)
    obtain ⟨c1, c2, c3⟩ := h.1.at (by decide : (708, 3, 20, 60) ∈ rTab)
    obtain ⟨d1, d2, d3⟩ := h.1.at (by decide : (731, 25, 20, 6) ∈ rTab)
    obtain ⟨e1, e2, e3⟩ := h.1.at (by decide : (732, 26, 20, 6) ∈ rTab)
    obtain ⟨g1, g2, g3⟩ := h.1.at (by decide : (733, 27, 20, 6) ∈ rTab)
    obtain ⟨i1, i2, i3⟩ := h.1.at (by decide : (734, 28, 20, 18) ∈ rTab)
    obtain ⟨j1, j2, j3⟩ := h.1.at (by decide : (735, 29, 20, 18) ∈ rTab)
    obtain ⟨k1, k2, k3⟩ := h.1.at (by decide : (718, 12, 20, 6) ∈ rTab)
    obtain ⟨l1, l2, l3⟩ := h.1.at (by decide : (719, 13, 20, 6) ∈ rTab)
    have hwet := (h.2.2.1 B hBn).1.2.2.1
    have hx := h.2.2.2.2.1 i hi
    rw [a1, a2, a3, b1, b2, b3, c1, c2, c3, d1, d2, d3, e1, e2, e3, g1, g2, g3, hB, Int.toNat_natCast, Int.toNat_natCast, (Eqv.nA (show b + 3 ≠ b + 24 by omega)).2.2.1, (Eqv.nA (show b + 3 ≠ b + 23 by omega)).2.2.1, hwet]
    have f1 : SF b i (mI m 737 b) m (sA (sA (sA (sA (sA m (b + 23) i 1) (b + 24) i w) (b + 25) i (yY Y B).2.2.1) (b + 26) i 20) (b + 27) i 0) := (((((SF.rfl rfl).w (slC_k (k := 5) (by omega))).w (Or.inl (by omega))).w (slC_k (k := 6) (by omega))).w (slC_k (k := 7) (by omega))).w (slC_k (k := 8) (by omega))
    have x1 : RX (sA (sA (sA (sA (sA m (b + 23) i 1) (b + 24) i w) (b + 25) i (yY Y B).2.2.1) (b + 26) i 20) (b + 27) i 0) b i (up1 (up1 (up1 (up1 (up1 (yX Y i) 5 1) 18 w) 6 (yY Y B).2.2.1) 7 20) 8 0) := ((hx.wood.set (k := 6) (by omega) (fun z => absurd z (by omega))).set (k := 7) (by omega) (fun z => absurd z (by omega))).set (k := 8) (by omega) (fun z => absurd z (by omega))
    have x1' : RX (sA (sA (sA (sA (sA m (b + 23) i 1) (b + 24) i w) (b + 25) i (yY Y B).2.2.1) (b + 26) i 20) (b + 27) i 0) b i (appearF (yX Y i) w (yY Y B).2.2.1) := x1.fx (fun k => by
      show (if k = 7 then 20 else if k = 6 then _ else if k = 18 then w else if k = 5 then 1 else yX Y i k) = (if k = 8 then 0 else if k = 7 then 20 else if k = 6 then _ else if k = 18 then w else if k = 5 then 1 else yX Y i k)
      by_cases c8 : k = 8
      · subst c8
        rw [if_pos rfl, if_neg (by decide), if_neg (by decide), if_neg (by decide), if_neg (by decide)]; exact hp.1
      · rw [if_neg c8])
    generalize sA (sA (sA (sA (sA m (b + 23) i 1) (b + 24) i w) (b + 25) i (yY Y B).2.2.1) (b + 26) i 20) (b + 27) i 0 = m1 at f1 x1' ⊢
    clear x1
    have lp : ∀ (r j : Nat) (m2 : zM), j + r = 3 → SF b i (mI m 737 b) m m2 → RX m2 b i (appearF (yX Y i) w (yY Y B).2.2.1) → zW xs xl (d + 3) cX11_cut 11 (some .boolean) false [] 61 [zR b, zI (i : Int), zI w, zI l, zI (B : Int), zI (j : Int)] [] m2 Q := by
      intro r
      induction r with
      | zero =>
        intro j m2 e f x2
        have ea : mA m2 (b + 12) i = yX Y i 2 := x2.1 2 (by omega)
        have f3 : SF b i (mI m 737 b) m (sA m2 (b + 13) i (yX Y i 2)) := f.w (slC_k (k := 17) (by omega))
        have x3 : RX (sA m2 (b + 13) i (yX Y i 2)) b i (getPF (yX Y i) w (yY Y B).2.2.1) := x2.set (k := 17) (by omega) (fun z => absurd z (by omega))
        have r3 := h.sf0 f3 hi x3 (fun c => c)
        refine bX11_cut_61 ⟨fun _ => ?_, fun z => absurd (by omega) z⟩
        rw [f.2.1.1, f.2.1.2.2.1, f.2.1.2.2.2.1, k1, k2, k3, l1, l2, l3, Int.toNat_natCast, ea]
        refine ⟨h.1.1, rfl, by omega, by omega, rfl, R_place r3.1 (r3.2.2.1 B hBn) (by omega) hpo (by omega) ⟨_, rfl, r3.1.1, ?_⟩⟩
        refine R_cutOut r3.1 ⟨r3.2.1.2.1, hn60⟩ r3.2.1.2.2.2.2.2.1 r3.2.2.1 hBn hpo ⟨hcl, by omega, hin⟩ (fun m4 p4 n4 w4 f4 => ⟨rfl, ?_⟩)
        have hc60 : cutN (yN Y) (yY Y B) (clearL (yY Y B).2.1 l 0 (yY Y B).2.2.2) l ≤ 60 := by
          unfold cutN
          split
          · exact hn60
          · rename_i z
            unfold cutB at z
            omega
        exact hQ m4 (r3.pk f4 p4 n4 w4 hc60) (f3.fr.tr0 (f4.fr (fun a j z => by unfold pCs at z; omega)))
      | succ r ih =>
        intro j m2 e f x2
        have f3 : SF b i (mI m 737 b) m (sA (sA m2 (b + 28) (3 * i + j) 0) (b + 29) (3 * i + j) 0) := (f.w (Or.inr (by omega))).w (Or.inr (by omega))
        have x3 := (x2.bnd (j := j) (v := 0) (by omega)).tgt (j := j) (v := 0) (by omega)
        have x3' : RX (sA (sA m2 (b + 28) (3 * i + j) 0) (b + 29) (3 * i + j) 0) b i (appearF (yX Y i) w (yY Y B).2.2.1) := x3.fx (fun k => by
          show appearF (yX Y i) w (yY Y B).2.2.1 k = (if k = 23 + j then 0 else if k = 20 + j then 0 else appearF (yX Y i) w (yY Y B).2.2.1 k)
          have hz : ∀ k, 20 ≤ k → k ≤ 25 → appearF (yX Y i) w (yY Y B).2.2.1 k = 0 := fun k k1 k2 => by
            show (if k = 7 then 20 else if k = 6 then _ else if k = 18 then w else if k = 5 then 1 else yX Y i k) = 0
            rw [if_neg (by omega), if_neg (by omega), if_neg (by omega), if_neg (by omega)]
            exact hp.2 k k1 k2
          by_cases c1 : k = 23 + j
          · rw [if_pos c1]; exact hz k (by omega) (by omega)
          · rw [if_neg c1]
            by_cases c2 : k = 20 + j
            · rw [if_pos c2]; exact hz k (by omega) (by omega)
            · rw [if_neg c2])
        refine bX11_cut_61 ⟨fun z => absurd z (by omega), fun _ => ?_⟩
        rw [f.2.1.1, f.2.1.2.2.1, f.2.1.2.2.2.1, i1, i2, i3, j1, j2, j3, wr_3s hi (by omega), Int.toNat_natCast, wr_s (by omega)]
        exact ⟨h.1.1, by omega, rfl, by omega, rfl, ih (j + 1) _ (by omega) f3 x3'⟩
    exact ⟨h.1.1, by omega, rfl, by omega, rfl, rfl, by omega, by omega, rfl, by omega, rfl, by omega, rfl, lp 3 0 m1 (by omega) f1 x1'⟩
  · rw [if_pos (by omega)] at hQ
    have e : bestF (yY Y) w l (yN Y) = -1 := Decidable.not_not.mp c
    exact hQ m h Fr.rfl
end ZRH
