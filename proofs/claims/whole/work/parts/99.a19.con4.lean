/-! constructors: the class -/
def PlZ (m : zM) (b : Nat) : Prop := mC m b = 4 ∧ mI m 193 b = ((([] : List zAc).length : Nat) : Int) ∧ mI m 194 b = cutsL [] ∧ mI m 195 b = lensL [] ∧ mI m 196 b = leastL []
theorem PlZ.mv {m m' : zM} {b : Nat} (h : PlZ m b) (e : Eqv m m' b) : PlZ m' b := ⟨e.2.2.2.2.1.trans h.1, (e.1 193).trans h.2.1, (e.1 194).trans h.2.2.1, (e.1 195).trans h.2.2.2.1, (e.1 196).trans h.2.2.2.2⟩
theorem CS.mv {m m' : zM} {c tp : Nat} (h : CS m c tp) (hz : mz m ≤ mz m') (e : ∀ b, c ≤ b → b < c + 6 → Eqv m m' b) : CS m' c tp := by
  obtain ⟨h1, p, k, v, s, h2⟩ := h
  have e0 := e c (Nat.le_refl _) (Nat.lt_add_of_pos_right (by decide))
  have e5 := e (c + 5) (Nat.le_add_right _ _) (Nat.add_lt_add_left (by decide) c)
  refine ⟨h1.mv hz ⟨e0.2.2.2.2.1, e0.2.1⟩ (fun j j1 j2 => by have q := e (c + j) (Nat.le_add_right _ _) (Nat.add_lt_add_left (by omega) c); exact ⟨q.2.2.2.2.1, q.2.2.2.2.2⟩), p, k, v, s, ?_⟩
  obtain ⟨s1, s2, s3, s4, s5, s6⟩ := h2
  exact ⟨e5.2.2.2.2.1.trans s1, (e5.2.1 320).trans s2, (e5.1 321).trans s3, (e5.1 322).trans s4, (e5.1 323).trans s5, (e5.1 324).trans s6⟩
/-- nothing below changed: a yard stays -/
theorem Yd.mvE {P a : Nat} {m m' : zM} {p : Nat → Nat} {Y : zY} (h : Yd P 6 40 m a p Y) (e : ∀ b, a ≤ b → b < a + 191 → Eqv m m' b) (hz : mz m ≤ mz m') (h0 : ∀ i, i < 6 → yX Y i 0 = 0) : Yd P 6 40 m' a p Y := by
  obtain ⟨h1, h2, h3, h4, h5, h6⟩ := h
  have e0 := e a (Nat.le_refl _) (Nat.lt_add_of_pos_right (by decide))
  refine ⟨h1.mv hz e0.2.2.2.2.1 e0.2.1, h2.mv e0, h3.mv hz (fun b b1 b2 => e b (by omega) (by omega)), h4.mv (e _ (by omega) (by omega)) (e _ (by omega) (by omega)), ?_, h6.mv (fun b b1 b2 => e b (by omega) (by omega))⟩
  obtain ⟨⟨q1, q2⟩, q3⟩ := h5
  have e5 := e (a + 125) (by omega) (by omega)
  refine ⟨⟨e5.2.2.2.2.1.trans q1, e5.2.2.2.2.2.trans q2⟩, fun i hi => ?_⟩
  obtain ⟨r1, p', x', r2, r3⟩ := q3 i hi
  obtain ⟨t1, t2, -⟩ := r3 hi
  exact ⟨(e5.2.2.2.1 i).trans r1, p', x', r2.mv hz (fun b b1 b2 => e b (by omega) (by omega)), fun _ => ⟨t1, t2, fun z => absurd (h0 i hi) z⟩⟩
def BdQ (m : zM) (x : Nat) : Prop := (mC m x = 11 ∧ mR m 640 x = x + 1 ∧ mR m 641 x = x + 3 ∧ mR m 642 x = x + 9 ∧ mR m 643 x = x + 10 ∧ mR m 644 x = x + 201) ∧ Tp m (x + 1) 0 (fun _ => 0) ∧ (CS m (x + 3) (x + 1) ∧ mI m 74 (x + 3) = -1) ∧ ((mC m (x + 9) = 33 ∧ mN m (x + 9) = 6) ∧ ∀ i, i < 6 → mO m (x + 9) i = x + 392 + 2 * i ∧ PlZ m (x + 392 + 2 * i)) ∧ (∀ P, x + 201 ≤ P → Yd P 6 40 m (x + 10) (fun _ => 0) Y0) ∧ (∀ P, x + 392 ≤ P → Yd P 6 40 m (x + 201) (fun _ => 0) Y0)
theorem BdQ.bd {m m' : zM} {x P : Nat} (h : BdQ m x) (hm : mz m = x + 404) (e : ∀ b, b < x + 404 → Eqv m m' b) (hP : x + 404 ≤ P) (hz : P ≤ mz m') : Bd P m' x B0 := by
  obtain ⟨⟨g1, g2, g3, g4, g5, g6⟩, h2, ⟨h3, h3'⟩, ⟨⟨h4, h4'⟩, h4''⟩, h5, h6⟩ := h
  have ex := e x (by omega)
  have hzz : mz m ≤ mz m' := by omega
  have e9 := e (x + 9) (by omega)
  refine ⟨⟨⟨ex.2.2.2.2.1.trans g1, (ex.2.1 640).trans g2, (ex.2.1 641).trans g3, (ex.2.1 642).trans g4, (ex.2.1 643).trans g5, (ex.2.1 644).trans g6⟩, hP, hz⟩, ⟨h2.mv hzz (e _ (by omega)) (e _ (by omega)), fun i hi => absurd hi (Nat.not_lt_zero _)⟩, ⟨h3.mv hzz (fun b b1 b2 => e b (by omega)), ((e (x + 3) (by omega)).1 74).trans h3'⟩, ⟨⟨e9.2.2.2.2.1.trans h4, e9.2.2.2.2.2.trans h4'⟩, fun i hi => ?_⟩, ⟨_, (h5 P (by omega)).mvE (fun b b1 b2 => e b (by omega)) hzz (fun i hi => rfl)⟩, 6, (fun _ => 0), Y0, ?_⟩
  · obtain ⟨q1, q2⟩ := h4'' i hi
    have q3 := q2.mv (e (x + 392 + 2 * i) (by omega))
    rw [e9.2.2.2.1 i, q1]
    exact ⟨q3, Or.inr ⟨rfl, by omega, by omega, by omega⟩⟩
  · obtain ⟨y1, y2, y3, y4, y5, y6⟩ := (h6 P (by omega)).mvE (m' := m') (fun b b1 b2 => e b (by omega)) hzz (fun i hi => rfl)
    exact ⟨y1, y2, y3, y4, y5, ⟨y6.1, fun i hi => ⟨(y6.2 i hi).1, (y6.2 i hi).2.1, (y6.2 i hi).2.2.1, fun z => absurd z (Nat.not_lt_zero _)⟩⟩⟩
section ZCQ
variable {xs : Nat → Int} {xl d : Nat} {m : zM} {Q : zRes → zM → Prop}
theorem C_bdLp {x : Nat} {m0 : zM} (hx : x ≠ 0) (hz0 : mz m0 = x + 392) (hC : mC m0 x = 11) (hR : mR m0 642 x = x + 9) (hK : mC m0 (x + 9) = 33) (hN : mN m0 (x + 9) = 6) (F0 : Fr (up x) 391 3680 m m0)
    (hQ : ∀ m', mz m' = x + 404 → Fr (up x) 403 4070 m m' → (∀ b, b < x + 392 → b ≠ x + 9 → Eqv m0 m' b) → (mC m' (x + 9) = 33 ∧ mN m' (x + 9) = 6) → (∀ i, i < 6 → mO m' (x + 9) i = x + 392 + 2 * i ∧ PlZ m' (x + 392 + 2 * i)) → Q (.inl none) m') :
    zW xs xl (d + 1) cX10_init 10 (none) true [] 63 [zR x, zI 0] [] m0 Q := by
  have lp : ∀ (r i : Nat) (m1 : zM), r + i = 6 → mz m1 = x + 392 + 2 * i → (∀ b, b < x + 392 → b ≠ x + 9 → Eqv m0 m1 b) → mC m1 (x + 9) = 33 → mN m1 (x + 9) = 6 → (∀ j, j < i → mO m1 (x + 9) j = x + 392 + 2 * j ∧ PlZ m1 (x + 392 + 2 * j)) → Fr (up x) (391 + 2 * i) (3680 + 65 * i) m m1 → zW xs xl (d + 1) cX10_init 10 (none) true [] 63 [zR x, zI (i : Int)] [] m1 Q := by
    intro r
    induction r with
    | zero =>
      intro i m1 e z1 v c n g f
      have ei : i = 6 := by omega
      subst ei
      exact bX10_init_63 ⟨fun _ => hQ m1 (by omega) (f.mono (fun _ _ z => z) (by omega) (by omega)) v ⟨c, n⟩ g, fun z => absurd (by omega) z⟩
    | succ r ih =>
      intro i m1 e z1 v c n g f
      have va := v x (by omega) (by omega)
      refine bX10_init_63 ⟨fun z => absurd z (by omega), fun _ => ⟨va.2.2.2.2.1.trans hC, fun m2 e2 => ⟨by omega, ?_⟩⟩⟩
      rw [z1, (va.2.1 642).trans hR]
      have c2 : mC m2 (x + 392 + 2 * i) = 4 := by rw [e2, ← z1]; exact if_pos rfl
      have z2 : mz m2 = x + 392 + 2 * i + 1 := by rw [e2, ← z1]; rfl
      have f2 : Fr (up x) (391 + 2 * i + 1) (3680 + 65 * i + 5) m m2 := by rw [e2]; exact f.nwO
      have v2 : ∀ b, b < x + 392 + 2 * i → Eqv m1 m2 b := fun b hb => by rw [e2]; exact eq_nwO (by omega)
      clear e2
      refine C_newPlan c2 z2 (by omega) (fun m3 hP z3 f3 => ?_)
      have v3 : ∀ b, b < x + 392 + 2 * i → Eqv m1 m3 b := fun b hb => (v2 b hb).tr (f3.1 b (by omega) (fun z => by have : x + 392 + 2 * i ≤ b := z; omega))
      have e5 := v3 (x + 9) (by omega)
      rw [e5.2.2.2.2.1, e5.2.2.2.2.2, c, n, hP.1, Int.toNat_natCast, wr_s (i := i) (by omega)]
      refine ⟨rfl, by omega, by omega, rfl, ?_⟩
      have f4 : Fr (up x) (391 + 2 * (i + 1)) (3680 + 65 * (i + 1)) m (sO m3 (x + 9) i (x + 392 + 2 * i)) := (f2.tr (f3.sub (fun b (q : x + 392 + 2 * i ≤ b) => (show x ≤ b by omega))) (by omega) (by omega)).sO (show x ≤ x + 9 by omega)
      refine ih (i + 1) _ (by omega) (by show mz m3 = _; omega) (fun b b1 b2 => ((v b b1 b2).tr (v3 b (by omega))).tr (eq_sOn b2)) (e5.2.2.2.2.1.trans c) (e5.2.2.2.2.2.trans n) (fun j hj => ?_) f4
      by_cases cj : j = i
      · subst cj
        exact ⟨zm_Os, PlZ.mv hP (eq_sOn (by omega))⟩
      · obtain ⟨q1, q2⟩ := g j (by omega)
        exact ⟨(zm_On cj).trans ((e5.2.2.2.1 j).trans q1), q2.mv ((v3 _ (by omega)).tr (eq_sOn (by omega)))⟩
  exact lp 6 0 m0 rfl hz0 (fun b _ _ => Eqv.rfl) hK hN (fun j hj => absurd hj (Nat.not_lt_zero _)) F0
end ZCQ
