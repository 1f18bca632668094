/-! constructors: yard -/
section ZCP
variable {xs : Nat → Int} {xl d : Nat} {m : zM} {Q : zRes → zM → Prop}
theorem eq_nwB {m : zM} {n k a : Nat} (h : a < mz m) : Eqv m (nwB m n k) a := ⟨fun f => Eq.refl _, fun f => Eq.refl _, fun _ => if_neg (by omega), fun _ => (if_neg (by omega)).trans (if_neg (by omega)), (if_neg (by omega)).trans (if_neg (by omega)), (if_neg (by omega)).trans (if_neg (by omega))⟩
theorem Fr.nwB' {S : Nat → Prop} {k u n q : Nat} {m m1 : zM} (h : Fr S k u m m1) : Fr S (k + 1 + n) (u + n + n * q) m (nwB m1 n q) := ⟨fun b hb hs => (h.1 b hb hs).tr (eq_nwB (Nat.lt_of_lt_of_le hb h.2.1)), Nat.le_trans h.2.1 (by show mz m1 ≤ mz m1 + 1 + n; omega), (by show mc m1 + 1 + n ≤ _; have := h.2.2.1; omega), (by show mu m1 + n + n * q ≤ _; have := h.2.2.2; omega)⟩
theorem C_yardLp {a : Nat} {m15 : zM} (k15 : (mC m15 a = 10 ∧ (mR m15 577 a = a + 1 ∧ mR m15 578 a = a + 123 ∧ mR m15 579 a = a + 124 ∧ mR m15 580 a = a + 125 ∧ mR m15 582 a = a + 126) ∧ mI m15 576 a = 0 ∧ mI m15 581 a = 0 ∧ mI m15 583 a = 0 ∧ mI m15 584 a = 0)) (s15 : ∀ y, St m15 (a + 1) 0 0 y) (a15 : YdA m15 a (fun _ => 0) (fun _ => 0)) (h15 : YdH 40 m15 a (fun _ _ => 0)) (z15 : mz m15 = a + 167) (hQ : ∀ m', (∀ P, a + 191 ≤ P → Yd P 6 40 m' a (fun _ => 0) Y0) → mz m' = a + 191 → Fr (up a) 190 1313 m m' → Q (.inl none) m') :
    ∀ (r i : Nat) (m1 : zM), r + i = 6 → mz m1 = a + 167 + 4 * i → (∀ b, b < a + 167 → b ≠ a + 125 → Eqv m15 m1 b) → mC m1 (a + 125) = 36 → mN m1 (a + 125) = 6 → (∀ j, j < i → mO m1 (a + 125) j = a + 167 + 4 * j ∧ Sl m1 (a + 167 + 4 * j) 0 x0F) → Fr (up a) (166 + 4 * i) (1139 + 29 * i) m m1 → zW xs xl (d + 2) cX9_init 9 (none) true [] 72 [zR a, zI (i : Int)] [] m1 Q := by
  intro r
  induction r with
  | zero =>
    intro i m1 e z1 v c n g f
    have ei : i = 6 := by omega
    subst ei
    have va := v a (by omega) (by omega)
    refine bX9_init_72 ⟨fun _ => hQ m1 (fun P hP => ⟨⟨va.2.2.2.2.1.trans k15.1, (va.2.1 577).trans k15.2.1.1, (va.2.1 578).trans k15.2.1.2.1, (va.2.1 579).trans k15.2.1.2.2.1, (va.2.1 580).trans k15.2.1.2.2.2.1, (va.2.1 582).trans k15.2.1.2.2.2.2, by omega, hP⟩, ⟨(va.1 576).trans k15.2.2.1, (va.1 581).trans k15.2.2.2.1, (va.1 583).trans k15.2.2.2.2.1, (va.1 584).trans k15.2.2.2.2.2, Nat.zero_le _, Nat.le_refl _⟩, (s15 _).mv (by omega) (fun b b1 b2 => v b (by omega) (by omega)), a15.mv (v _ (by omega) (by omega)) (v _ (by omega) (by omega)), ⟨⟨c, n⟩, fun i hi => ⟨(g i hi).1, 0, x0F, (g i hi).2, fun _ => ⟨rfl, rfl, fun z => absurd rfl z⟩⟩⟩, h15.mv (fun b b1 b2 => v b (by omega) (by omega))⟩) (by omega) (f.mono (fun _ _ z => z) (by omega) (by omega)), fun z => absurd (by omega) z⟩
  | succ r ih =>
    intro i m1 e z1 v c n g f
    have va := v a (by omega) (by omega)
    refine bX9_init_72 ⟨fun z => absurd z (by omega), fun _ => ⟨va.2.2.2.2.1.trans k15.1, fun m2 e2 => ⟨by omega, ?_⟩⟩⟩
    rw [z1, (va.2.1 580).trans k15.2.1.2.2.2.1]
    have c2 : mC m2 (a + 167 + 4 * i) = 7 := by rw [e2, ← z1]; exact if_pos rfl
    have z2 : mz m2 = a + 167 + 4 * i + 1 := by rw [e2, ← z1]; rfl
    have f2 : Fr (up a) (166 + 4 * i + 1) (1139 + 29 * i + 16) m m2 := by rw [e2]; exact f.nwO
    have v2 : ∀ b, b < a + 167 + 4 * i → Eqv m1 m2 b := fun b hb => by rw [e2]; exact eq_nwO (by omega)
    refine C_newSlip c2 z2 (by omega) (fun m3 hP z3 f3 => ?_)
    have v3 : ∀ b, b < a + 167 + 4 * i → Eqv m1 m3 b := fun b hb => (v2 b hb).tr (f3.1 b (by omega) (fun z => by have : a + 167 + 4 * i ≤ b := z; omega))
    have e5 := v3 (a + 125) (by omega)
    rw [e5.2.2.2.2.1, e5.2.2.2.2.2, c, n, hP.1.1, Int.toNat_natCast, wr_s (i := i) (by omega)]
    refine ⟨rfl, by omega, by omega, rfl, ?_⟩
    have f4 : Fr (up a) (166 + 4 * (i + 1)) (1139 + 29 * (i + 1)) m (sO m3 (a + 125) i (a + 167 + 4 * i)) := (f2.tr (f3.sub (fun b (q : a + 167 + 4 * i ≤ b) => (show a ≤ b by omega))) (by omega) (by omega)).sO (show a ≤ a + 125 by omega)
    refine ih (i + 1) _ (by omega) (by show mz m3 = _; omega) (fun b b1 b2 => ((v b b1 b2).tr (v3 b (by omega))).tr (eq_sOn b2)) (e5.2.2.2.2.1.trans c) (e5.2.2.2.2.2.trans n) (fun j hj => ?_) f4
    by_cases cj : j = i
    · subst cj
      exact ⟨zm_Os, hP.mv (Nat.le_refl _) (fun b b1 b2 => eq_sOn (by omega))⟩
    · obtain ⟨q1, q2⟩ := g j (by omega)
      exact ⟨(zm_On cj).trans ((e5.2.2.2.1 j).trans q1), q2.mv (by show mz m1 ≤ mz m3; omega) (fun b b1 b2 => (v3 b (by omega)).tr (eq_sOn (by omega)))⟩
theorem C_newYard {a : Nat} (hC : mC m a = 10) (hz : mz m = a + 1) (h0 : a ≠ 0) (hQ : ∀ m', (∀ P, a + 191 ≤ P → Yd P 6 40 m' a (fun _ => 0) Y0) → mz m' = a + 191 → Fr (up a) 190 1313 m m' → Q (.inl none) m') : zC xs xl (d + 3) 84 [zR a] m Q := by
  have lt : ∀ i j, i < j → a + i < a + j := fun i j h => Nat.add_lt_add_left h a
  have ne : ∀ i, 0 < i → a + i ≠ a := fun i h => by omega
  have le : ∀ i b, a + i ≤ b → a ≤ b := fun i b h => by omega
  have nz : mz m ≠ 0 := by omega
  have na : a ≠ mz m := by omega
  have na1 : ¬ a + 1 ≤ a := by omega
  have nq : ∀ i, ¬ (a + 127 + i = a + 126) := fun i => by omega
  have nr : ∀ i, i < 40 → a + 126 < a + 127 + i ∧ a + 127 + i ≤ a + 126 + 40 := fun i h => by omega
  refine bX9_init_0 ⟨h0, hC, fun m3 e3 => ⟨nz, ?_⟩⟩
  rw [hz]
  have c3 : mC m3 (a + 1) = 8 := by rw [e3, ← hz]; exact if_pos rfl
  have z3 : mz m3 = a + 1 + 1 := by rw [e3, ← hz]; rfl
  have f3 : Fr (up a) 1 3 m m3 := by rw [e3]; exact ((Fr.rfl (k := 0) (u := 0)).sI (Nat.le_refl _)).nwO
  have v3 : mC m3 a = 10 ∧ mI m3 576 a = 0 := by
    rw [e3]
    exact ⟨(if_neg na).trans hC, (if_neg na).trans zm_Is⟩
  refine C_newStore c3 z3 (Nat.succ_ne_zero a) (fun m4 hS z4 f4 => ?_)
  have e4 := f4.1 a (by rw [z3]; exact Nat.lt_succ_of_lt (Nat.lt_succ_self a)) na1
  have F4 : Fr (up a) 122 843 m m4 := f3.tr (f4.sub (fun b (q : a + 1 ≤ b) => le 1 b q)) (by decide) (by decide)
  refine ⟨rfl, e4.2.2.2.2.1.trans v3.1, fun m8 e8 => ?_⟩
  have z4' : mz m4 = a + 123 := z4
  have z8 : mz m8 = a + 124 := by rw [e8]; show mz m4 + 1 = _; rw [z4']
  have w8 : ∀ b, b < a + 123 → b ≠ a → Eqv m4 m8 b := fun b hb hne => by rw [e8]; exact (eq_sRn hne).tr (eq_nwA (by show b ≠ mz m4; rw [z4']; exact Nat.ne_of_lt hb))
  have g8 : mC m8 a = 10 ∧ mI m8 576 a = 0 ∧ mR m8 577 a = a + 1 ∧ mC m8 (a + 123) = 20 ∧ mN m8 (a + 123) = 5 ∧ ∀ j, mA m8 (a + 123) j = 0 := by
    rw [e8]
    refine ⟨(if_neg (show ¬ a = mz m4 by rw [z4']; exact (ne 123 (by decide)).symm)).trans (e4.2.2.2.2.1.trans v3.1), (e4.1 576).trans v3.2, zm_Rs, if_pos z4'.symm, if_pos z4'.symm, fun j => if_pos z4'.symm⟩
  have F8 : Fr (up a) 123 848 m m8 := by rw [e8]; exact (F4.sR (Nat.le_refl _)).nwA
  refine ⟨g8.1, fun m10 e10 => ?_⟩
  have z10 : mz m10 = a + 125 := by rw [e10]; show mz m8 + 1 = _; rw [z8]
  have w10 : ∀ b, b < a + 124 → b ≠ a → Eqv m8 m10 b := fun b hb hne => by rw [e10]; exact (eq_sRn hne).tr (eq_nwA (by show b ≠ mz m8; rw [z8]; exact Nat.ne_of_lt hb))
  have g10 : mC m10 a = 10 ∧ mI m10 576 a = 0 ∧ mR m10 577 a = a + 1 ∧ mR m10 578 a = a + 123 ∧ mC m10 (a + 124) = 20 ∧ mN m10 (a + 124) = 5 ∧ ∀ j, mA m10 (a + 124) j = 0 := by
    rw [e10]
    refine ⟨(if_neg (show ¬ a = mz m8 by rw [z8]; exact (ne 124 (by decide)).symm)).trans g8.1, g8.2.1, (zm_Rn (m := m8) (f := 578) (g := 577) (a := a) (b := a) (v := mz m4) (by decide)).trans g8.2.2.1, (zm_Rs (m := m8) (f := 578) (a := a) (v := mz m4)).trans z4', if_pos z8.symm, if_pos z8.symm, fun j => if_pos z8.symm⟩
  have F10 : Fr (up a) 124 853 m m10 := by rw [e10]; exact (F8.sR (Nat.le_refl _)).nwA
  refine ⟨g10.1, fun m12 e12 => ?_⟩
  have z12 : mz m12 = a + 126 := by rw [e12]; show mz m10 + 1 = _; rw [z10]
  have w12 : ∀ b, b < a + 125 → b ≠ a → Eqv m10 m12 b := fun b hb hne => by rw [e12]; exact (eq_sRn hne).tr (eq_nwA (by show b ≠ mz m10; rw [z10]; exact Nat.ne_of_lt hb))
  have g12 : mC m12 a = 10 ∧ mI m12 576 a = 0 ∧ mR m12 577 a = a + 1 ∧ mR m12 578 a = a + 123 ∧ mR m12 579 a = a + 124 ∧ mC m12 (a + 125) = 36 ∧ mN m12 (a + 125) = 6 := by
    rw [e12]
    refine ⟨(if_neg (show ¬ a = mz m10 by rw [z10]; exact (ne 125 (by decide)).symm)).trans g10.1, g10.2.1, (zm_Rn (m := m10) (f := 579) (g := 577) (a := a) (b := a) (v := mz m8) (by decide)).trans g10.2.2.1, (zm_Rn (m := m10) (f := 579) (g := 578) (a := a) (b := a) (v := mz m8) (by decide)).trans g10.2.2.2.1, (zm_Rs (m := m10) (f := 579) (a := a) (v := mz m8)).trans z8, if_pos z10.symm, if_pos z10.symm⟩
  have F12 : Fr (up a) 125 859 m m12 := by rw [e12]; exact (F10.sR (Nat.le_refl _)).nwA
  refine ⟨g12.1, fun m14 e14 => ?_⟩
  obtain ⟨mq, hq⟩ : ∃ mq, mq = sI (sR m12 580 a (mz m10)) 581 a 0 := ⟨_, rfl⟩
  rw [← hq] at e14
  have zz : mz mq = a + 126 := by rw [hq]; exact z12
  have z14 : mz m14 = a + 167 := by rw [e14]; show mz mq + 1 + 40 = _; rw [zz]
  have wq : ∀ b, b ≠ a → Eqv m12 mq b := fun b hne => by rw [hq]; exact (eq_sRn hne).tr (eq_sIn hne)
  have w14 : ∀ b, b < a + 126 → b ≠ a → Eqv m12 m14 b := fun b hb hne => by rw [e14]; exact (wq b hne).tr (eq_nwB (by rw [zz]; exact hb))
  have gq : mC mq a = 10 ∧ mI mq 576 a = 0 ∧ mR mq 577 a = a + 1 ∧ mR mq 578 a = a + 123 ∧ mR mq 579 a = a + 124 ∧ mR mq 580 a = a + 125 ∧ mI mq 581 a = 0 := by
    obtain ⟨q1, q2, q3, q4, q5, -⟩ := g12
    rw [hq]
    simp [zget, q1, q2, q3, q4, q5, z10]
  have g14 : mC m14 a = 10 ∧ mI m14 576 a = 0 ∧ mR m14 577 a = a + 1 ∧ mR m14 578 a = a + 123 ∧ mR m14 579 a = a + 124 ∧ mR m14 580 a = a + 125 ∧ mI m14 581 a = 0 := by
    have ea : Eqv mq m14 a := by rw [e14]; exact eq_nwB (by rw [zz]; exact Nat.lt_add_of_pos_right (by decide))
    obtain ⟨q1, q2, q3, q4, q5, q6, q7⟩ := gq
    exact ⟨ea.2.2.2.2.1.trans q1, (ea.1 576).trans q2, (ea.2.1 577).trans q3, (ea.2.1 578).trans q4, (ea.2.1 579).trans q5, (ea.2.1 580).trans q6, (ea.1 581).trans q7⟩
  have h14 : YdH 40 m14 a (fun _ _ => 0) := by
    rw [e14]
    refine ⟨⟨if_pos zz.symm, if_pos zz.symm⟩, fun i hi => ?_⟩
    have n0 : mz mq + 1 + i = a + 127 + i := by rw [zz]
    have n1 : ¬ (a + 127 + i = mz mq) := by rw [zz]; exact nq i
    have n2 : mz mq < a + 127 + i ∧ a + 127 + i ≤ mz mq + 40 := by rw [zz]; exact nr i hi
    have n3 : mz mq ≤ a + 127 + i := by rw [zz]; exact Nat.le_of_lt (nr i hi).1
    refine ⟨(if_pos zz.symm).trans ((if_pos hi).trans n0), (if_neg n1).trans (if_pos n2), (if_neg n1).trans (if_pos n2), fun _ j hj => if_pos n3⟩
  have Fq : Fr (up a) 125 859 m mq := by rw [hq]; exact (F12.sR (Nat.le_refl _)).sI (Nat.le_refl _)
  have F14 : Fr (up a) 166 1139 m m14 := by rw [e14]; exact Fq.nwB'
  refine ⟨g14.1, ?_⟩
  rw [z12]
  have F15 : Fr (up a) 166 1139 m (sI (sI (sR m14 582 a (a + 126)) 583 a 0) 584 a 0) := ((F14.sR (Nat.le_refl _)).sI (Nat.le_refl _)).sI (Nat.le_refl _)
  have w15 : ∀ b, b ≠ a → Eqv m14 (sI (sI (sR m14 582 a (a + 126)) 583 a 0) 584 a 0) b := fun b hne => ((eq_sRn hne).tr (eq_sIn hne)).tr (eq_sIn hne)
  have z15 : mz (sI (sI (sR m14 582 a (a + 126)) 583 a 0) 584 a 0) = a + 167 := z14
  have k15 : mC (sI (sI (sR m14 582 a (a + 126)) 583 a 0) 584 a 0) a = 10 ∧ (mR (sI (sI (sR m14 582 a (a + 126)) 583 a 0) 584 a 0) 577 a = a + 1 ∧ mR (sI (sI (sR m14 582 a (a + 126)) 583 a 0) 584 a 0) 578 a = a + 123 ∧ mR (sI (sI (sR m14 582 a (a + 126)) 583 a 0) 584 a 0) 579 a = a + 124 ∧ mR (sI (sI (sR m14 582 a (a + 126)) 583 a 0) 584 a 0) 580 a = a + 125 ∧ mR (sI (sI (sR m14 582 a (a + 126)) 583 a 0) 584 a 0) 582 a = a + 126) ∧ mI (sI (sI (sR m14 582 a (a + 126)) 583 a 0) 584 a 0) 576 a = 0 ∧ mI (sI (sI (sR m14 582 a (a + 126)) 583 a 0) 584 a 0) 581 a = 0 ∧ mI (sI (sI (sR m14 582 a (a + 126)) 583 a 0) 584 a 0) 583 a = 0 ∧ mI (sI (sI (sR m14 582 a (a + 126)) 583 a 0) 584 a 0) 584 a = 0 := by
    obtain ⟨q1, q2, q3, q4, q5, q6, q7⟩ := g14
    simp [zget, q1, q2, q3, q4, q5, q6, q7]
  generalize sI (sI (sR m14 582 a (a + 126)) 583 a 0) 584 a 0 = m15 at F15 z15 k15 w15 ⊢
  have y48 : ∀ b, b < a + 123 → b ≠ a → Eqv m4 m15 b := fun b b1 b2 => ((((w8 b b1 b2).tr (w10 b (Nat.lt_trans b1 (lt 123 124 (by decide))) b2)).tr (w12 b (Nat.lt_trans b1 (lt 123 125 (by decide))) b2)).tr (w14 b (Nat.lt_trans b1 (lt 123 126 (by decide))) b2)).tr (w15 b b2)
  have x1 := (((w10 (a + 123) (lt 123 124 (by decide)) (ne 123 (by decide))).tr (w12 (a + 123) (lt 123 125 (by decide)) (ne 123 (by decide)))).tr (w14 (a + 123) (lt 123 126 (by decide)) (ne 123 (by decide)))).tr (w15 (a + 123) (ne 123 (by decide)))
  have x2 := ((w12 (a + 124) (lt 124 125 (by decide)) (ne 124 (by decide))).tr (w14 (a + 124) (lt 124 126 (by decide)) (ne 124 (by decide)))).tr (w15 (a + 124) (ne 124 (by decide)))
  have x3 := (w14 (a + 125) (lt 125 126 (by decide)) (ne 125 (by decide))).tr (w15 (a + 125) (ne 125 (by decide)))
  have s15 : ∀ y, St m15 (a + 1) 0 0 y := fun y => (hS y).mv (by rw [z4', z15]; exact Nat.le_of_lt (lt 123 167 (by decide))) (fun b b1 b2 => y48 b b2 (Nat.ne_of_gt (Nat.lt_of_lt_of_le (Nat.lt_succ_self a) b1)))
  have a15 : YdA m15 a (fun _ => 0) (fun _ => 0) := ⟨⟨x1.2.2.2.2.1.trans g8.2.2.2.1, x1.2.2.2.2.2.trans g8.2.2.2.2.1, x2.2.2.2.2.1.trans g10.2.2.2.2.1, x2.2.2.2.2.2.trans g10.2.2.2.2.2.1⟩, fun j _ => ⟨(x1.2.2.1 j).trans (g8.2.2.2.2.2 j), (x2.2.2.1 j).trans (g10.2.2.2.2.2.2 j)⟩⟩
  have h15 : YdH 40 m15 a (fun _ _ => 0) := h14.mv (fun b b1 b2 => w15 b (Nat.ne_of_gt (Nat.lt_of_lt_of_le (Nat.lt_add_of_pos_right (by decide)) b1)))
  have r15 : mC m15 (a + 125) = 36 ∧ mN m15 (a + 125) = 6 := ⟨x3.2.2.2.2.1.trans g12.2.2.2.2.2.1, x3.2.2.2.2.2.trans g12.2.2.2.2.2.2⟩
  clear hS e4 F4 e8 z8 w8 g8 F8 e10 z10 w10 g10 F10 e12 z12 w12 g12 F12 e14 hq zz z14 wq w14 gq g14 h14 Fq F14 w15 y48 x1 x2 x3 f4 z4 z4' e3 c3 z3 f3 v3
  exact C_yardLp k15 s15 a15 h15 z15 hQ 6 0 m15 rfl z15 (fun b _ _ => Eqv.rfl) r15.1 r15.2 (fun j hj => absurd hj (Nat.not_lt_zero _)) F15
end ZCP
