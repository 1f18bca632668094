/-! constructors: store, compiler, yard -/
theorem eq_nwO {m : zM} {c n a : Nat} (h : a ≠ mz m) : Eqv m (nwO m c n) a := ⟨fun f => if_neg h, fun f => if_neg h, fun _ => rfl, fun _ => rfl, if_neg h, rfl⟩
theorem eq_nwA {m : zM} {c n a : Nat} (h : a ≠ mz m) : Eqv m (nwA m c n) a := ⟨fun f => rfl, fun f => rfl, fun _ => if_neg h, fun _ => if_neg h, if_neg h, if_neg h⟩
theorem eq_sRn {m : zM} {f b v a : Nat} (h : a ≠ b) : Eqv m (sR m f b v) a := ⟨fun f => rfl, fun f => if_neg (fun z => h z.2), fun _ => rfl, fun _ => rfl, rfl, rfl⟩
theorem eq_sIn {m : zM} {f b a : Nat} {v : Int} (h : a ≠ b) : Eqv m (sI m f b v) a := ⟨fun f => if_neg (fun z => h z.2), fun f => rfl, fun _ => rfl, fun _ => rfl, rfl, rfl⟩
theorem eq_sOn {m : zM} {b j v a : Nat} (h : a ≠ b) : Eqv m (sO m b j v) a := ⟨fun f => rfl, fun f => rfl, fun _ => rfl, fun _ => if_neg (fun z => h z.1), rfl, rfl⟩
section ZCO
variable {xs : Nat → Int} {xl d : Nat} {m : zM} {Q : zRes → zM → Prop}
theorem C_newStore {s : Nat} (hC : mC m s = 8) (hz : mz m = s + 1) (h0 : s ≠ 0) (hQ : ∀ m', (∀ y, St m' s 0 0 y) → mz m' = s + 122 → Fr (up s) 121 840 m m' → Q (.inl none) m') : zC xs xl (d + 2) 74 [zR s] m Q := by
  have lp : ∀ (r i : Nat) (m1 : zM), r + i = 60 → mz m1 = s + 2 + 2 * i → mC m1 s = 8 → mR m1 448 s = s + 1 → mC m1 (s + 1) = 34 → mN m1 (s + 1) = 60 → mI m1 449 s = 0 → mI m1 450 s = 0 → (∀ j, j < i → mO m1 (s + 1) j = s + 2 + 2 * j ∧ Pk m1 (s + 2 + 2 * j) (0, 0, 0, [])) → Fr (up s) (1 + 2 * i) (60 + 13 * i) m m1 → zW xs xl (d + 1) cX7_init 7 (none) true [] 25 [zR s, zI (i : Int)] [] m1 Q := by
    intro r
    induction r with
    | zero =>
      intro i m1 e z1 g1 g2 g3 g4 g5 g6 g7 f
      have ei : i = 60 := by omega
      subst ei
      refine bX7_init_25 ⟨fun _ => hQ m1 (fun y => ⟨⟨g1, g2, g3, g4, by omega⟩, ⟨g5, g6, Nat.zero_le _⟩, fun j hj => ⟨(g7 j hj).1, _, (g7 j hj).2, fun z => absurd z (Nat.not_lt_zero _)⟩⟩) (by omega) f, fun z => absurd (by omega) z⟩
    | succ r ih =>
      intro i m1 e z1 g1 g2 g3 g4 g5 g6 g7 f
      refine bX7_init_25 ⟨fun z => absurd z (by omega), fun _ => ⟨g1, fun m2 e2 => ⟨by omega, ?_⟩⟩⟩
      rw [z1, g2]
      have c2 : mC m2 (s + 2 + 2 * i) = 5 := by rw [e2, ← z1]; exact if_pos rfl
      have z2 : mz m2 = s + 2 + 2 * i + 1 := by rw [e2, ← z1]; rfl
      have f2 : Fr (up s) (1 + 2 * i + 1) (60 + 13 * i + 5) m m2 := by rw [e2]; exact f.nwO
      have v2 : ∀ b, b < s + 2 + 2 * i → Eqv m1 m2 b := fun b hb => by rw [e2]; exact eq_nwO (by omega)
      refine C_newPlank c2 z2 (by omega) (fun m3 hP z3 f3 c3 => ?_)
      have v3 : ∀ b, b < s + 2 + 2 * i → Eqv m1 m3 b := fun b hb => (v2 b hb).tr (f3.1 b (by omega) (fun z => by have : s + 2 + 2 * i ≤ b := z; omega))
      have e0 := v3 s (by omega)
      have e1 := v3 (s + 1) (by omega)
      rw [e1.2.2.2.2.1, e1.2.2.2.2.2, g3, g4, c3, Int.toNat_natCast, wr_s (i := i) (by omega)]
      refine ⟨rfl, by omega, by omega, rfl, ?_⟩
      have f4 : Fr (up s) (1 + 2 * (i + 1)) (60 + 13 * (i + 1)) m (sO m3 (s + 1) i (s + 2 + 2 * i)) := (f2.tr (f3.sub (fun b (q : s + 2 + 2 * i ≤ b) => (show s ≤ b by omega))) (by omega) (by omega)).sO (show s ≤ s + 1 by omega)
      refine ih (i + 1) _ (by omega) (by show mz m3 = _; omega) (e0.2.2.2.2.1.trans g1) ((e0.2.1 448).trans g2) (e1.2.2.2.2.1.trans g3) (e1.2.2.2.2.2.trans g4) ((e0.1 449).trans g5) ((e0.1 450).trans g6) (fun j hj => ?_) f4
      by_cases cj : j = i
      · subst cj
        exact ⟨zm_Os, hP.mv (Nat.le_refl _) (eq_sOn (by omega)) (eq_sOn (by omega))⟩
      · obtain ⟨q1, q2⟩ := g7 j (by omega)
        exact ⟨(zm_On cj).trans ((e1.2.2.2.1 j).trans q1), q2.mv (by show mz m1 ≤ mz m3; omega) ((v3 _ (by omega)).tr (eq_sOn (by omega))) ((v3 _ (by omega)).tr (eq_sOn (by omega)))⟩
  refine bX7_init_0 ⟨h0, fun m2 e2 => ?_⟩
  rw [hz]
  have c2 : mC m2 s = 8 := by rw [e2]; exact (if_neg (by omega)).trans hC
  refine ⟨c2, lp 60 0 _ rfl (by rw [e2]; show mz m + 1 = _; omega) c2 ?_ ?_ ?_ ?_ ?_ (fun j hj => absurd hj (Nat.not_lt_zero _)) ?_⟩
  · exact zm_Rs
  · rw [e2]; exact if_pos hz.symm
  · rw [e2]; exact if_pos hz.symm
  · exact (zm_In (by decide)).trans zm_Is
  · exact zm_Is
  · rw [e2]; exact (((Fr.rfl (k := 0) (u := 0)).nwA.sR (Nat.le_refl _)).sI (Nat.le_refl _)).sI (Nat.le_refl _)
theorem C_newCompiler {a tp : Nat} (hC : mC m a = 2) (hz : mz m = a + 1) (h0 : a ≠ 0) (hQ : ∀ m', CS m' a tp → mI m' 74 a = -1 → mz m' = a + 6 → Fr (up a) 5 17 m m' → Q (.inl none) m') : zC xs xl (d + 2) 1 [zR a, zR tp] m Q := by
  refine bX1_init_0 ⟨h0, fun m2 e2 => ⟨?_, fun m4 e4 => ⟨?_, fun m6 e6 => ⟨?_, fun m8 e8 => ⟨?_, fun m10 e10 => ?_⟩⟩⟩⟩⟩
  · subst e2; simp [zget, hz, hC]
  · subst e4 e2; simp [zget, hz, hC, Nat.add_assoc]
  · subst e6 e4 e2; simp [zget, hz, hC, Nat.add_assoc]
  · subst e8 e6 e4 e2; simp [zget, hz, hC, Nat.add_assoc]
  · have z2 : mz m2 = a + 2 := by rw [e2]; show mz m + 1 = _; omega
    have z4 : mz m4 = a + 3 := by rw [e4]; show mz m2 + 1 = _; omega
    have z6 : mz m6 = a + 4 := by rw [e6]; show mz m4 + 1 = _; omega
    have z8 : mz m8 = a + 5 := by rw [e8]; show mz m6 + 1 = _; omega
    have z10 : mz m10 = a + 6 := by rw [e10]; show mz m8 + 1 = _; omega
    have F : Fr (up a) 5 17 m m10 := by
      subst e10 e8 e6 e4 e2
      exact (((((((((((((Fr.rfl (k := 0) (u := 0)).nwA.sR (Nat.le_refl _)).nwA).sR (Nat.le_refl _)).nwA).sR (Nat.le_refl _)).nwA).sR (Nat.le_refl _)).sI (Nat.le_refl _)).sI (Nat.le_refl _)).sI (Nat.le_refl _)).sI (Nat.le_refl _)).sI (Nat.le_refl _)).sR (Nat.le_refl _) |>.nwO
    have R : mC m10 a = 2 ∧ mR m10 64 a = tp ∧ mR m10 66 a = a + 1 ∧ mR m10 67 a = a + 2 ∧ mR m10 68 a = a + 3 ∧ mR m10 69 a = a + 4 ∧ mI m10 74 a = -1 ∧ mC m10 (a + 5) = 6 := by
      subst e10
      subst e8 e6 e4 e2
      simp [zget, hz, hC, Nat.add_assoc]
    have K : ∀ j, 1 ≤ j → j ≤ 4 → mC m10 (a + j) = 20 ∧ mN m10 (a + j) = 3 := by
      intro j j1 j2
      have hj : j = 1 ∨ j = 2 ∨ j = 3 ∨ j = 4 := by omega
      subst e10 e8 e6 e4 e2
      rcases hj with z | z | z | z <;> subst z <;> simp [zget, hz, Nat.add_assoc]
    rw [z8]
    obtain ⟨r1, r2, r3, r4, r5, r6, r7, r8⟩ := R
    refine ⟨by omega, C_newScanner r8 (by omega) (fun m11 hS z11 f11 => ⟨rfl, ?_⟩)⟩
    have v : ∀ b, b < a + 5 → Eqv m10 m11 b := fun b hb => f11.1 b (by omega) (fun z => by have : a + 5 ≤ b := z; omega)
    have e0 := v a (by omega)
    have F2 : Fr (up a) 5 17 m (sR m11 65 a (a + 5)) := (F.tr (f11.sub (fun b (q : a + 5 ≤ b) => (show a ≤ b by omega))) (by omega) (by omega)).sR (Nat.le_refl _)
    refine ⟨e0.2.2.2.2.1.trans r1, hQ _ ⟨⟨⟨e0.2.2.2.2.1.trans r1, ?_, zm_Rs, ?_, ?_, ?_, ?_, ?_⟩, fun j j1 j2 => ?_⟩, 0, 46, 0, 0, ?_⟩ ((e0.1 74).trans r7) (by show mz m11 = _; omega) F2⟩
    · exact (zm_Rn (by decide)).trans ((e0.2.1 64).trans r2)
    · exact (zm_Rn (by decide)).trans ((e0.2.1 66).trans r3)
    · exact (zm_Rn (by decide)).trans ((e0.2.1 67).trans r4)
    · exact (zm_Rn (by decide)).trans ((e0.2.1 68).trans r5)
    · exact (zm_Rn (by decide)).trans ((e0.2.1 69).trans r6)
    · show a + 6 ≤ mz m11; omega
    · have ej := v (a + j) (by omega)
      obtain ⟨k1, k2⟩ := K j j1 j2
      exact ⟨ej.2.2.2.2.1.trans k1, ej.2.2.2.2.2.trans k2⟩
    · obtain ⟨s1, s2, s3, s4, s5, s6⟩ := hS
      exact ⟨s1, (zm_Rn (by decide)).trans s2, s3, s4, s5, s6⟩
end ZCO
