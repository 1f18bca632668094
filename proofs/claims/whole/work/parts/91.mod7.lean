/-! a slip starts -/
theorem begin_at {x : Nat → Int} {n t c : Int} {k : Nat} (h : k ≠ 0 ∧ k ≠ 1 ∧ k ≠ 2 ∧ k ≠ 3 ∧ k ≠ 4 ∧ k ≠ 13 ∧ k ≠ 14 ∧ k ≠ 15 ∧ k ≠ 16) : beginF x n t c k = x k := by
  obtain ⟨h0, h1, h2, h3, h4, h13, h14, h15, h16⟩ := h
  exact (if_neg h13).trans ((if_neg h4).trans ((if_neg h3).trans ((if_neg h16).trans ((if_neg h2).trans ((if_neg h14).trans ((if_neg h15).trans ((if_neg h1).trans (if_neg h0))))))))
theorem begin_ok {x : Nat → Int} {l l' : List zAc} {n t c : Int} (h : slOk x l') (h0 : x 0 = 0) (hl : planOk l) : slOk (beginF x n t c) l := by
  obtain ⟨a1, a2, a3, a4, a5, a6, a7, a8, a9, a10, -⟩ := h
  obtain ⟨i1, i2, i3, i4⟩ := a10 h0
  have e5 : beginF x n t c 5 = x 5 := begin_at (by decide)
  have e6 : beginF x n t c 6 = x 6 := begin_at (by decide)
  have e7 : beginF x n t c 7 = x 7 := begin_at (by decide)
  have e8 : beginF x n t c 8 = x 8 := begin_at (by decide)
  have e9 : beginF x n t c 9 = x 9 := begin_at (by decide)
  have e11 : beginF x n t c 11 = x 11 := begin_at (by decide)
  have e12 : beginF x n t c 12 = x 12 := begin_at (by decide)
  have e18 : beginF x n t c 18 = x 18 := begin_at (by decide)
  have eb : ∀ k, 20 ≤ k → beginF x n t c k = x k := fun k hk => begin_at (by omega)
  have e0 : beginF x n t c 0 = 1 := rfl
  have e2 : beginF x n t c 2 = 0 := rfl
  have e16 : beginF x n t c 16 = 0 := rfl
  unfold slOk flagOk pcOk pbOk pieceOk idleOk busyOk
  rw [e0, e2, e5, e6, e7, e8, e9, e11, e12, e16, e18, i1, i2, i3, i4]
  have hz := a9.1 i3
  refine ⟨⟨Or.inr rfl, Or.inl rfl, Or.inl rfl⟩, a2, fun k k1 k2 => by rw [eb k k1]; exact a3 k k1 k2, a4, by decide, by decide, by decide, fun z => absurd rfl z, ⟨fun _ => ⟨hz.1, hz.2.1, hz.2.2.1, fun k k1 k2 => by rw [eb k k1]; exact hz.2.2.2 k k1 k2⟩, fun z => absurd rfl z⟩, fun z => absurd z (by decide), fun _ => ⟨hl, ⟨by decide, by have := hl.2.1.2; omega⟩, rfl, ⟨by decide, fun q hq hw => ?_⟩, fun z => absurd rfl z, fun f hf z => ?_, fun z => absurd z (by decide), fun _ z => absurd z (by decide)⟩⟩
  · have := (hl.1 q (List.mem_of_getElem? hq)).2.2.2.2 hw
    omega
  · rcases z with z | z
    · exact absurd (and0 f (by omega)) z
    · exact absurd rfl z.1
theorem start_yOk {Y : zY} {i : Nat} {l : List zAc} {n t c : Int} (h : yOk Y) (hi : i < yS Y) (h0 : yX Y i 0 = 0) (hl : planOk l) : yOk (yl (yx Y i (beginF (yX Y i) n t c)) i l) := by
  have h6 := h.2.1.1
  have g := (h.X i).x (x' := beginF (yX Y i) n t c) hi (begin_at (by decide))
  refine ⟨g.1, ⟨g.2.1.1, fun k hk => ?_, g.2.1.2.2⟩, g.2.2⟩
  by_cases ck : k = i
  · subst ck
    rw [show yX (yl (yx Y k (beginF (yX Y k) n t c)) k l) k = beginF (yX Y k) n t c from if_pos rfl, show yL (yl (yx Y k (beginF (yX Y k) n t c)) k l) k = l from if_pos rfl]
    exact begin_ok (h.2.1.2.1 k hk) h0 hl
  · rw [show yX (yl (yx Y i (beginF (yX Y i) n t c)) i l) k = yX (yx Y i (beginF (yX Y i) n t c)) k from rfl, show yL (yl (yx Y i (beginF (yX Y i) n t c)) i l) k = yL Y k from if_neg ck]
    exact g.2.1.2.1 k hk ck
theorem MF.cp {b a s c t n : Nat} {I : Nat → Prop} {C : Nat → Nat → Prop} {m m1 : zM} (h : MF b I C m m1) (hc : ∀ j, t ≤ j → j < t + n → C c j) : MF b I C m (cpA m1 a s c t n) := ⟨h.1, h.2.1, fun e i q => (if_neg (fun z : e = c ∧ t ≤ i ∧ i < t + n => q (by rw [z.1]; exact hc i z.2.1 z.2.2)) : (if e = c ∧ t ≤ i ∧ i < t + n then mA m1 a (s + (i - t)) else mA m1 e i) = mA m1 e i).trans (h.2.2 e i q)⟩
theorem begin_14 {x : Nat → Int} {n t c : Int} : up1 (up1 (up1 (up1 (up1 (up1 (up1 (up1 (up1 x 0 1) 1 n) 15 t) 2 0) 16 0) 3 0) 4 0) 13 0) 14 c = beginF x n t c := by
  funext k
  by_cases c14 : k = 14
  · subst c14; rfl
  · unfold beginF
    refine (if_neg c14).trans ?_
    by_cases c1 : k = 13
    · exact (if_pos c1).trans (if_pos c1).symm
    refine (if_neg c1).trans (Eq.trans ?_ (if_neg c1).symm)
    by_cases c1 : k = 4
    · exact (if_pos c1).trans (if_pos c1).symm
    refine (if_neg c1).trans (Eq.trans ?_ (if_neg c1).symm)
    by_cases c1 : k = 3
    · exact (if_pos c1).trans (if_pos c1).symm
    refine (if_neg c1).trans (Eq.trans ?_ (if_neg c1).symm)
    by_cases c1 : k = 16
    · exact (if_pos c1).trans (if_pos c1).symm
    refine (if_neg c1).trans (Eq.trans ?_ (if_neg c1).symm)
    by_cases c1 : k = 2
    · exact (if_pos c1).trans (if_pos c1).symm
    refine (if_neg c1).trans (Eq.trans ?_ (if_neg c1).symm)
    exact (if_neg c14).symm
theorem start_mem {m : zM} {b i p u pr : Nat} {Y : zY} {l : List zAc} {n t : Int} (h : RSt m b Y) (hP : PA m u pr p l) (hpr : pr < b) (hi : i < 6) (hp : p < 6) : RSt (sA (sA (sA (sA (sA (sA (cpA (sA (sA (sA (sA m (b + 8) i 1) (b + 7) i n) (b + 9) i t) (b + 10) i (l.length : Int)) pr (240 * p) (b + 11) (240 * i) 240) (b + 12) i 0) (b + 14) i 0) (b + 15) i 0) (b + 16) i 0) (b + 17) i 0) (b + 18) i (yG Y 0)) b (yl (yx Y i (beginF (yX Y i) n t (yG Y 0))) i l) ∧ Fr (rg b (b + 31)) 0 0 m (sA (sA (sA (sA (sA (sA (cpA (sA (sA (sA (sA m (b + 8) i 1) (b + 7) i n) (b + 9) i t) (b + 10) i (l.length : Int)) pr (240 * p) (b + 11) (240 * i) 240) (b + 12) i 0) (b + 14) i 0) (b + 15) i 0) (b + 16) i 0) (b + 17) i 0) (b + 18) i (yG Y 0)) := by
  have f3 : MF b (fun _ => False) (fun a j => slC b i a j) m (sA (sA (sA m (b + 8) i 1) (b + 7) i n) (b + 9) i t) := ((MF.rfl.w (slC_k (k := 0) (by omega))).w (slC_k (k := 1) (by omega))).w (slC_k (k := 15) (by omega))
  have x3 : RX (sA (sA (sA m (b + 8) i 1) (b + 7) i n) (b + 9) i t) b i (up1 (up1 (up1 (yX Y i) 0 1) 1 n) 15 t) := (((h.2.2.2.2.1 i hi).set (k := 0) (by omega) (fun z => absurd z (by omega))).set (k := 1) (by omega) (fun z => absurd z (by omega))).set (k := 15) (by omega) (fun z => absurd z (by omega))
  generalize sA (sA (sA m (b + 8) i 1) (b + 7) i n) (b + 9) i t = m3 at f3 x3 ⊢
  have f5 : MF b (fun _ => False) (fun a j => (a = b + 10 ∧ j = i) ∨ (a = b + 11 ∧ 240 * i ≤ j ∧ j < 240 * i + 240)) m3 (cpA (sA m3 (b + 10) i (l.length : Int)) pr (240 * p) (b + 11) (240 * i) 240) := (MF.rfl.w (Or.inl ⟨rfl, rfl⟩)).cp (fun j h1 h2 => Or.inr ⟨rfl, h1, h2⟩)
  have v10 : mA (cpA (sA m3 (b + 10) i (l.length : Int)) pr (240 * p) (b + 11) (240 * i) 240) (b + 10) i = l.length := (if_neg (fun z => absurd z.1 (by omega))).trans (if_pos ⟨rfl, rfl⟩)
  have v11 : ∀ j, j < 240 → mA (cpA (sA m3 (b + 10) i (l.length : Int)) pr (240 * p) (b + 11) (240 * i) 240) (b + 11) (240 * i + j) = mA m pr (240 * p + j) := by
    intro j hj
    have e1 : mA (cpA (sA m3 (b + 10) i (l.length : Int)) pr (240 * p) (b + 11) (240 * i) 240) (b + 11) (240 * i + j) = mA (sA m3 (b + 10) i (l.length : Int)) pr (240 * p + (240 * i + j - 240 * i)) := if_pos ⟨rfl, by omega, by omega⟩
    rw [e1, show 240 * i + j - 240 * i = j by omega]
    exact (if_neg (fun z => absurd z.1 (by omega))).trans (f3.2.2 pr _ (fun z => by unfold slC at z; omega))
  generalize cpA (sA m3 (b + 10) i (l.length : Int)) pr (240 * p) (b + 11) (240 * i) 240 = m5 at f5 v10 v11 ⊢
  have x5 : RX m5 b i (up1 (up1 (up1 (yX Y i) 0 1) 1 n) 15 t) := x3.mv (fun a j z => f5.2.2 a j (fun z2 => by unfold slC at z; omega))
  have f6 : MF b (fun _ => False) (fun a j => slC b i a j) m5 (sA (sA (sA (sA (sA (sA m5 (b + 12) i 0) (b + 14) i 0) (b + 15) i 0) (b + 16) i 0) (b + 17) i 0) (b + 18) i (yG Y 0)) := (((((MF.rfl.w (slC_k (k := 2) (by omega))).w (slC_k (k := 16) (by omega))).w (slC_k (k := 3) (by omega))).w (slC_k (k := 4) (by omega))).w (slC_k (k := 13) (by omega))).w (slC_k (k := 14) (by omega))
  have x6 : RX (sA (sA (sA (sA (sA (sA m5 (b + 12) i 0) (b + 14) i 0) (b + 15) i 0) (b + 16) i 0) (b + 17) i 0) (b + 18) i (yG Y 0)) b i (beginF (yX Y i) n t (yG Y 0)) := by
    rw [← begin_14]
    exact (((((x5.set (k := 2) (by omega) (fun z => absurd z (by omega))).set (k := 16) (by omega) (fun z => absurd z (by omega))).set (k := 3) (by omega) (fun z => absurd z (by omega))).set (k := 4) (by omega) (fun z => absurd z (by omega))).set (k := 13) (by omega) (fun z => absurd z (by omega))).set (k := 14) (by omega) (fun z => absurd z (by omega))
  generalize sA (sA (sA (sA (sA (sA m5 (b + 12) i 0) (b + 14) i 0) (b + 15) i 0) (b + 16) i 0) (b + 17) i 0) (b + 18) i (yG Y 0) = M at f6 x6 ⊢
  have F : MF b (fun _ => False) (fun a j => slC b i a j ∨ (a = b + 10 ∧ j = i) ∨ (a = b + 11 ∧ 240 * i ≤ j ∧ j < 240 * i + 240)) m M := ((f3.mono (fun _ z => z) (fun _ _ z => Or.inl z)).tr (f5.mono (fun _ z => z) (fun _ _ z => Or.inr z))).tr (f6.mono (fun _ z => z) (fun _ _ z => Or.inl z))
  refine ⟨?_, F.fr (fun a j z => by unfold slC at z; omega)⟩
  have eI : ∀ f a, mI M f a = mI m f a := fun f a => F.1 f a (fun z => z.2)
  have w10 : mA M (b + 10) i = l.length := (f6.2.2 _ _ (fun z => by unfold slC at z; omega)).trans v10
  have w11 : ∀ j, j < 240 → mA M (b + 11) (240 * i + j) = mA m pr (240 * p + j) := fun j hj => (f6.2.2 _ _ (fun z => by unfold slC at z; omega)).trans (v11 j hj)
  refine h.up (F.rf h.1) (by unfold RG; rw [eI, eI, eI, eI, eI, eI]; exact h.2.1) (Or.inr ⟨rfl, rfl, fun a j z => F.2.2 a j (fun q => by unfold slC at q; omega)⟩) (fun j hj => ?_) (fun k hk => ?_) (fun k hk c => ?_) (fun r j hr hj => ?_)
  · rw [F.2.2 _ _ (fun z => by unfold slC at z; omega)]; exact h.2.2.2.1 j hj
  · by_cases ck : k = i
    · subst ck
      rw [show yX (yl (yx Y k (beginF (yX Y k) n t (yG Y 0))) k l) k = beginF (yX Y k) n t (yG Y 0) from if_pos rfl]; exact x6
    · rw [show yX (yl (yx Y i (beginF (yX Y i) n t (yG Y 0))) i l) k = yX Y k from if_neg ck]
      exact (h.2.2.2.2.1 k hk).mv (fun a j z => F.2.2 a j (fun z2 => by unfold slC at z z2; omega))
  · by_cases ck : k = i
    · subst ck
      rw [show yL (yl (yx Y k (beginF (yX Y k) n t (yG Y 0))) k l) k = l from if_pos rfl]
      refine ⟨w10, hP.2.1, fun j q hq => ?_⟩
      have hj := (List.getElem?_eq_some_iff.mp hq).1
      have hl := hP.2.1
      obtain ⟨q1, q2, q3, q4⟩ := hP.2.2 j q hq
      have e0 : mA M (b + 11) (4 * (60 * k + j)) = mA m pr (4 * (60 * p + j)) := by
        have := w11 (4 * j) (by omega)
        rwa [show 240 * k + 4 * j = 4 * (60 * k + j) by omega, show 240 * p + 4 * j = 4 * (60 * p + j) by omega] at this
      have e1 : mA M (b + 11) (4 * (60 * k + j) + 1) = mA m pr (4 * (60 * p + j) + 1) := by
        have := w11 (4 * j + 1) (by omega)
        rwa [show 240 * k + (4 * j + 1) = 4 * (60 * k + j) + 1 by omega, show 240 * p + (4 * j + 1) = 4 * (60 * p + j) + 1 by omega] at this
      have e2 : mA M (b + 11) (4 * (60 * k + j) + 2) = mA m pr (4 * (60 * p + j) + 2) := by
        have := w11 (4 * j + 2) (by omega)
        rwa [show 240 * k + (4 * j + 2) = 4 * (60 * k + j) + 2 by omega, show 240 * p + (4 * j + 2) = 4 * (60 * p + j) + 2 by omega] at this
      have e3 : mA M (b + 11) (4 * (60 * k + j) + 3) = mA m pr (4 * (60 * p + j) + 3) := by
        have := w11 (4 * j + 3) (by omega)
        rwa [show 240 * k + (4 * j + 3) = 4 * (60 * k + j) + 3 by omega, show 240 * p + (4 * j + 3) = 4 * (60 * p + j) + 3 by omega] at this
      exact ⟨e0.trans q1, e1.trans q2, fun z => e2.trans (q3 z), fun z => e3.trans (q4 z)⟩
    · rw [show yX (yl (yx Y i (beginF (yX Y i) n t (yG Y 0))) i l) k = yX Y k from if_neg ck] at c
      rw [show yL (yl (yx Y i (beginF (yX Y i) n t (yG Y 0))) i l) k = yL Y k from if_neg ck]
      obtain ⟨g1, g2, g3⟩ := h.2.2.2.2.2.1 k hk c
      refine ⟨(F.2.2 _ _ (fun z => by unfold slC at z; omega)).trans g1, g2, fun j q hq => ?_⟩
      have hj := (List.getElem?_eq_some_iff.mp hq).1
      obtain ⟨q1, q2, q3, q4⟩ := g3 j q hq
      exact ⟨(F.2.2 _ _ (fun z => by unfold slC at z; omega)).trans q1, (F.2.2 _ _ (fun z => by unfold slC at z; omega)).trans q2, fun w => (F.2.2 _ _ (fun z => by unfold slC at z; omega)).trans (q3 w), fun w => (F.2.2 _ _ (fun z => by unfold slC at z; omega)).trans (q4 w)⟩
  · rw [F.2.2 _ _ (fun z => by unfold slC at z; omega)]; exact h.2.2.2.2.2.2 r j hr hj
section ZMJ
variable {xs : Nat → Int} {xl d : Nat} {m : zM} {Q : zRes → zM → Prop}
theorem wr_240 {i : Nat} (hi : i < 6) : wr (240 * (i : Int)) = ((240 * i : Nat) : Int) := by
  rw [wr_id (by omega) (by omega)]; omega
theorem M_start {x : Nat} {B : zB} {i p t : Int} (h : Md m x B) (hy : yOk (bY B)) (hpl : ∀ k, k < 6 → bP B k = [] ∨ planOk (bP B k)) (hQ : eM m x 1 9 (aStart B i p t).1 (aStart B i p t).2 Q) : zC xs xl (d + 3) 197 [zR x, zI i, zI p, zI t] m Q := by
  have h6 := hy.2.1.1
  have h0 : Md (sI m 768 x 0) x B := h.th
  have hR := h0.2.2.2.2.1
  have no2 : inF i (yS (bY B)) → ¬ (inF p 6 ∧ (0 ≤ t ∧ t ≤ 60)) → zC xs xl (d + 2) 162 [zR x, zI 2] (sI m 768 x 0) (fun r m4 => ∃ v5 : Int, r = .inl (some (zI v5)) ∧ Q (.inl (some (zI v5))) m4) := fun c c2 => by
    rw [show aStart B i p t = ((2, 0), B) from (if_neg (fun z => z c)).trans (if_pos c2)] at hQ
    exact eM.no (n := 2) (by decide) h hQ thF h.th
  refine bX12_start_0 ⟨h.1.1, M_isSlip h.th (fun c => ⟨1, rfl, fun _ => ?_, fun z => absurd (by decide) z⟩) (fun c => ⟨0, rfl, fun z => absurd rfl z, fun _ => ⟨h.1.1, ?_⟩⟩)⟩
  · refine M_in (fun c2 => ⟨1, rfl, fun z => absurd z (by decide), fun _ => ?_⟩) (fun c2 => ⟨0, rfl, fun _ => ⟨h.1.1, no2 c (fun z => c2 ⟨z.1.1, by have := z.1.2; omega⟩)⟩, fun z => absurd rfl z⟩)
    refine M_in (fun c3 => ⟨1, rfl, fun _ => ⟨h.1.1, ?_⟩, fun z => absurd (by decide) z⟩) (fun c3 => ⟨0, rfl, fun z => absurd rfl z, fun _ => ⟨h.1.1, no2 c (fun z => c3 z.2)⟩⟩)
    have e1 : aStart B i p t = if (bP B p.toNat).length = 0 ∨ yX (bY B) i.toNat 0 ≠ 0 then ((3, 0), B) else ((0, cntB (yX (yl (yx (bY B) i.toNat (beginF (yX (bY B) i.toNat) p t (yG (bY B) 0))) i.toNat (bP B p.toNat))) (yS (bY B))), (yl (yx (bY B) i.toNat (beginF (yX (bY B) i.toNat) p t (yG (bY B) 0))) i.toNat (bP B p.toNat), B.2)) := (if_neg (fun z => z c)).trans (if_neg (fun z => z ⟨⟨c2.1, by omega⟩, c3⟩))
    rw [e1] at hQ
    obtain ⟨a, ha⟩ := Int.eq_ofNat_of_zero_le c.1
    obtain ⟨g, hg⟩ := Int.eq_ofNat_of_zero_le c2.1
    subst ha hg
    have a6 : a < 6 := by have := c.2; omega
    have aS : a < yS (bY B) := by have := c.2; omega
    have g6 : g < 6 := by omega
    rw [Int.toNat_natCast, Int.toNat_natCast] at hQ
    obtain ⟨-, -, ⟨-, -, -, -, rp, rq, -, -, -⟩, ⟨-, -, -, -, kp, kq, -⟩, -, -, -, -, np, nq, -⟩ := h0.1
    have hP := h0.2.2.2.1 g g6
    obtain ⟨r1, k1, n1⟩ := hR.1.at (by decide : (714, 8, 21, 6) ∈ rTab)
    obtain ⟨r2, k2, n2⟩ := hR.1.at (by decide : (713, 7, 20, 6) ∈ rTab)
    obtain ⟨r3, k3, n3⟩ := hR.1.at (by decide : (715, 9, 20, 6) ∈ rTab)
    obtain ⟨r4, k4, n4⟩ := hR.1.at (by decide : (716, 10, 20, 6) ∈ rTab)
    obtain ⟨r5, k5, n5⟩ := hR.1.at (by decide : (717, 11, 20, 1440) ∈ rTab)
    obtain ⟨s1, t1, u1⟩ := hR.1.at (by decide : (718, 12, 20, 6) ∈ rTab)
    obtain ⟨s2, t2, u2⟩ := hR.1.at (by decide : (720, 14, 20, 6) ∈ rTab)
    obtain ⟨s3, t3, u3⟩ := hR.1.at (by decide : (721, 15, 20, 6) ∈ rTab)
    obtain ⟨s4, t4, u4⟩ := hR.1.at (by decide : (722, 16, 20, 6) ∈ rTab)
    obtain ⟨s5, t5, u5⟩ := hR.1.at (by decide : (723, 17, 20, 6) ∈ rTab)
    obtain ⟨s6, t6, u6⟩ := hR.1.at (by decide : (724, 18, 20, 6) ∈ rTab)
    have e0 : mA (sI m 768 x 0) (x + 8 + 8) a = yX (bY B) a 0 := (hR.2.2.2.2.1 a a6).1 0 (by omega)
    have eN' : mA (sI m 768 x 0) (x + 5) g = (bP B g).length := hP.1
    have eT : mI (sI m 768 x 0) 704 (x + 8) = yG (bY B) 0 := hR.2.1.1
    have eP : ∀ (v w z : Int), mA (sA (sA (sA (sI m 768 x 0) (x + 8 + 8) a v) (x + 8 + 7) a w) (x + 8 + 9) a z) (x + 5) g = (bP B g).length := fun v w z => by
      rw [(Eqv.nA (by omega)).2.2.1, (Eqv.nA (by omega)).2.2.1, (Eqv.nA (by omega)).2.2.1]; exact eN'
    rw [rp, kp, np, rq, kq, nq, h0.s8, r1, k1, n1, r2, k2, n2, r3, k3, n3, r4, k4, n4, r5, k5, n5, s1, t1, u1, s2, t2, u2, s3, t3, u3, s4, t4, u4, s5, t5, u5, s6, t6, u6, wr_240 a6, wr_240 g6, Int.toNat_natCast, Int.toNat_natCast, Int.toNat_natCast, Int.toNat_natCast, eP, eN', e0, eT]
    refine ⟨rfl, by omega, fun c4 => ?_, fun c4 => ⟨hR.1.1, Or.inl rfl, by omega, fun c5 => ⟨rfl, by omega, rfl, by omega, rfl, by omega, rfl, ⟨by decide, by omega, by omega, by omega, by omega, rfl, Or.inl rfl, by omega⟩, by omega, rfl, by omega, rfl, by omega, rfl, by omega, rfl, by omega, rfl, by omega, rfl, ?_⟩, fun c5 => ?_⟩⟩
    · rw [if_pos (Or.inl (by omega))] at hQ
      exact eM.no (n := 3) (by decide) h hQ thF h.th
    · rw [if_neg (fun z => z.elim (fun z => c4 (by omega)) (fun z => z c5))] at hQ
      have hl : planOk (bP B g) := by
        rcases hpl g g6 with z | z
        · exact absurd (by rw [z]; rfl) c4
        · exact z
      obtain ⟨q1, q2⟩ := start_mem (n := (g : Int)) (t := t) hR hP (by omega) a6 g6
      generalize sA (sA (sA (sA (sA (sA (cpA (sA (sA (sA (sA (sI m 768 x 0) (x + 8 + 8) a 1) (x + 8 + 7) a (g : Int)) (x + 8 + 9) a t) (x + 8 + 10) a ((bP B g).length : Int)) (x + 6) (240 * g) (x + 8 + 11) (240 * a) 240) (x + 8 + 12) a 0) (x + 8 + 14) a 0) (x + 8 + 15) a 0) (x + 8 + 16) a 0) (x + 8 + 17) a 0) (x + 8 + 18) a (yG (bY B) 0) = M at q1 q2 ⊢
      have hY := start_yOk (n := (g : Int)) (t := t) (c := yG (bY B) 0) hy aS c5 hl
      have q2' : Fr (rg (x + 8) (x + 39)) 0 0 (sI m 768 x 0) M := q2
      have hMd := h0.st1 q2' q1
      refine R_counted (k := 3) q1 hY (by decide) (fun m' f => ⟨_, rfl, hQ m' _ (hMd.fr f (Or.inr (Nat.zero_le _))) ?_ (fun _ => rfl) ?_⟩)
      · rw [(f.1 x (by have := hMd.1.2.1; omega) (fun z => by unfold rg at z; omega)).1 768]
        exact h.t1 q2' (by omega)
      · exact fr_to (h.f1 q2') f (Or.inl rfl)
    · rw [if_pos (Or.inr c5)] at hQ
      exact eM.no (n := 3) (by decide) h hQ thF h.th
  · rw [show aStart B i p t = ((1, 0), B) from if_pos c] at hQ
    exact eM.no (n := 1) (by decide) h hQ thF h.th
end ZMJ
