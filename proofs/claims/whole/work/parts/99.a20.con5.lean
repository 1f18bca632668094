/-! constructors: the class, whole -/
section ZCR
variable {xs : Nat → Int} {xl d : Nat} {m : zM} {Q : zRes → zM → Prop}
theorem C_newBd {x : Nat} (hC : mC m x = 11) (hz : mz m = x + 1) (h0 : x ≠ 0) (hQ : ∀ m', BdQ m' x → mz m' = x + 404 → Fr (up x) 403 4070 m m' → Q (.inl none) m') : zC xs xl (d + 4) 102 [zR x] m Q := by
  have lt : ∀ i j, i < j → x + i < x + j := fun i j h => Nat.add_lt_add_left h x
  have ne : ∀ i, 0 < i → x + i ≠ x := fun i h => by omega
  have ne' : ∀ i, 0 < i → ¬ x = x + i := fun i h => by omega
  have le : ∀ i b, x + i ≤ b → x ≤ b := fun i b h => by omega
  have nle : ∀ i j b, b < x + i → i ≤ j → ¬ x + j ≤ b := fun i j b h1 h2 => by omega
  have xlt : ∀ i, 0 < i → x < x + i := fun i h => by omega
  have nz : ∀ i, x + i ≠ 0 := fun i => by omega
  have nz0 : mz m ≠ 0 := by omega
  have na : x ≠ mz m := by omega
  refine bX10_init_0 ⟨h0, fun m2 e2 => ⟨nz0, ?_⟩⟩
  rw [hz]
  have c2 : mC m2 (x + 1) = 9 := by rw [e2, ← hz]; exact if_pos rfl
  have z2 : mz m2 = x + 1 + 1 := by rw [e2, ← hz]; rfl
  have f2 : Fr (up x) 1 2 m m2 := by rw [e2]; exact (Fr.rfl (k := 0) (u := 0)).nwO
  have k2 : mC m2 x = 11 := by rw [e2]; exact (if_neg na).trans hC
  clear e2
  refine C_newTape c2 z2 (nz 1) (fun m3 hT z3 f3 => ?_)
  have z3' : mz m3 = x + 3 := z3
  have e3 := f3.1 x (by rw [z2]; exact Nat.lt_succ_of_lt (Nat.lt_succ_self x)) (nle 1 1 x (Nat.lt_succ_self x) (Nat.le_refl _))
  have k3 : mC m3 x = 11 := e3.2.2.2.2.1.trans k2
  have F3 : Fr (up x) 2 1002 m m3 := f2.tr (f3.sub (fun b q => le 1 b q)) (by decide) (by decide)
  clear f2 f3 e3 k2 c2 z2
  refine ⟨rfl, k3, fun m7 e7 => ?_⟩
  have q7 : mC m7 x = 11 ∧ mR m7 640 x = x + 1 := by
    rw [e7]
    exact ⟨(if_neg (show ¬ x = mz m3 by rw [z3']; exact ne' 3 (by decide))).trans k3, (if_neg (show ¬ x = mz m3 by rw [z3']; exact ne' 3 (by decide))).trans zm_Rs⟩
  have z7 : mz m7 = x + 3 + 1 := by rw [e7]; show mz m3 + 1 = _; rw [z3']
  have c7 : mC m7 (x + 3) = 2 := by rw [e7]; exact if_pos z3'.symm
  have F7 : Fr (up x) 3 1013 m m7 := by rw [e7]; exact (F3.sR (Nat.le_refl _)).nwO
  have v7 : ∀ b, b < x + 3 → b ≠ x → Eqv m3 m7 b := fun b b1 b2 => by rw [e7]; exact (eq_sRn b2).tr (eq_nwO (by show b ≠ mz m3; rw [z3']; exact Nat.ne_of_lt b1))
  clear e7
  refine ⟨q7.1, by rw [z3']; exact nz 3, ?_⟩
  rw [z3', q7.2]
  refine C_newCompiler c7 z7 (nz 3) (fun m9 hS h74 z9 f9 => ?_)
  have z9' : mz m9 = x + 9 := z9
  have u9 : ∀ b, b < x + 3 → Eqv m7 m9 b := fun b hb => f9.1 b (by rw [z7]; exact Nat.lt_succ_of_lt hb) (nle 3 3 b hb (Nat.le_refl _))
  have ex9 := u9 x (xlt 3 (by decide))
  have q9 : mC m9 x = 11 ∧ mR m9 640 x = x + 1 := ⟨ex9.2.2.2.2.1.trans q7.1, (ex9.2.1 640).trans q7.2⟩
  have F9 : Fr (up x) 8 1030 m m9 := F7.tr (f9.sub (fun b q => le 3 b q)) (by decide) (by decide)
  have t9 : ∀ b, b < x + 3 → b ≠ x → Eqv m3 m9 b := fun b b1 b2 => (v7 b b1 b2).tr (u9 b b1)
  clear f9 u9 ex9 F7 v7 c7 z7 q7
  refine ⟨rfl, q9.1, fun m13 e13 => ?_⟩
  have q13 : mC m13 x = 11 ∧ mR m13 640 x = x + 1 ∧ mR m13 641 x = x + 3 := by
    rw [e13]
    exact ⟨(if_neg (show ¬ x = mz m9 by rw [z9']; exact ne' 9 (by decide))).trans q9.1, (zm_Rn (m := m9) (f := 641) (g := 640) (a := x) (b := x) (v := x + 3) (by decide)).trans q9.2, zm_Rs (m := m9) (f := 641) (a := x) (v := x + 3)⟩
  have z13 : mz m13 = x + 10 := by rw [e13]; show mz m9 + 1 = _; rw [z9']
  have r13 : mC m13 (x + 9) = 33 ∧ mN m13 (x + 9) = 6 := by rw [e13]; exact ⟨if_pos z9'.symm, if_pos z9'.symm⟩
  have F13 : Fr (up x) 9 1036 m m13 := by rw [e13]; exact (F9.sR (Nat.le_refl _)).nwA
  have v13 : ∀ b, b < x + 9 → b ≠ x → Eqv m9 m13 b := fun b b1 b2 => by rw [e13]; exact (eq_sRn b2).tr (eq_nwA (by show b ≠ mz m9; rw [z9']; exact Nat.ne_of_lt b1))
  clear e13
  refine ⟨q13.1, fun m15 e15 => ⟨by rw [z13]; exact nz 10, ?_⟩⟩
  rw [z9'] at e15
  rw [z13]
  have q15 : mC m15 x = 11 ∧ mR m15 640 x = x + 1 ∧ mR m15 641 x = x + 3 ∧ mR m15 642 x = x + 9 := by
    have ea : Eqv (sR m13 642 x (x + 9)) m15 x := by rw [e15]; exact eq_nwO (by show x ≠ mz m13; rw [z13]; exact ne' 10 (by decide))
    exact ⟨ea.2.2.2.2.1.trans q13.1, (ea.2.1 640).trans ((zm_Rn (by decide)).trans q13.2.1), (ea.2.1 641).trans ((zm_Rn (by decide)).trans q13.2.2), (ea.2.1 642).trans zm_Rs⟩
  have c15 : mC m15 (x + 10) = 10 := by rw [e15]; exact if_pos z13.symm
  have z15 : mz m15 = x + 10 + 1 := by rw [e15]; show mz m13 + 1 = _; rw [z13]
  have F15 : Fr (up x) 10 1045 m m15 := by rw [e15]; exact (F13.sR (Nat.le_refl _)).nwO
  have v15 : ∀ b, b < x + 10 → b ≠ x → Eqv m13 m15 b := fun b b1 b2 => by rw [e15]; exact (eq_sRn b2).tr (eq_nwO (by show b ≠ mz m13; rw [z13]; exact Nat.ne_of_lt b1))
  clear e15
  refine C_newYard c15 z15 (nz 10) (fun m16 hY1 z16 f16 => ?_)
  have z16' : mz m16 = x + 201 := z16
  have u16 : ∀ b, b < x + 10 → Eqv m15 m16 b := fun b hb => f16.1 b (by rw [z15]; exact Nat.lt_succ_of_lt hb) (nle 10 10 b hb (Nat.le_refl _))
  have ex := u16 x (xlt 10 (by decide))
  have q16 : mC m16 x = 11 ∧ mR m16 640 x = x + 1 ∧ mR m16 641 x = x + 3 ∧ mR m16 642 x = x + 9 := ⟨ex.2.2.2.2.1.trans q15.1, (ex.2.1 640).trans q15.2.1, (ex.2.1 641).trans q15.2.2.1, (ex.2.1 642).trans q15.2.2.2⟩
  have F16 : Fr (up x) 200 2358 m m16 := F15.tr (f16.sub (fun b q => le 10 b q)) (by decide) (by decide)
  have t16 : ∀ b, b < x + 10 → b ≠ x → Eqv m13 m16 b := fun b b1 b2 => (v15 b b1 b2).tr (u16 b b1)
  clear f16 u16 ex F15 v15 c15 z15 q15
  refine ⟨rfl, q16.1, fun m20 e20 => ⟨by rw [z16']; exact nz 201, ?_⟩⟩
  rw [z16']
  have q20 : mC m20 x = 11 ∧ mR m20 640 x = x + 1 ∧ mR m20 641 x = x + 3 ∧ mR m20 642 x = x + 9 ∧ mR m20 643 x = x + 10 := by
    have ea : Eqv (sR m16 643 x (x + 10)) m20 x := by rw [e20]; exact eq_nwO (by show x ≠ mz m16; rw [z16']; exact ne' 201 (by decide))
    exact ⟨ea.2.2.2.2.1.trans q16.1, (ea.2.1 640).trans ((zm_Rn (by decide)).trans q16.2.1), (ea.2.1 641).trans ((zm_Rn (by decide)).trans q16.2.2.1), (ea.2.1 642).trans ((zm_Rn (by decide)).trans q16.2.2.2), (ea.2.1 643).trans zm_Rs⟩
  have c20 : mC m20 (x + 201) = 10 := by rw [e20]; exact if_pos z16'.symm
  have z20 : mz m20 = x + 201 + 1 := by rw [e20]; show mz m16 + 1 = _; rw [z16']
  have F20 : Fr (up x) 201 2367 m m20 := by rw [e20]; exact (F16.sR (Nat.le_refl _)).nwO
  have v20 : ∀ b, b < x + 201 → b ≠ x → Eqv m16 m20 b := fun b b1 b2 => by rw [e20]; exact (eq_sRn b2).tr (eq_nwO (by show b ≠ mz m16; rw [z16']; exact Nat.ne_of_lt b1))
  clear e20
  refine C_newYard c20 z20 (nz 201) (fun m21 hY2 z21 f21 => ?_)
  have z21' : mz m21 = x + 392 := z21
  have u21 : ∀ b, b < x + 201 → Eqv m20 m21 b := fun b hb => f21.1 b (by rw [z20]; exact Nat.lt_succ_of_lt hb) (nle 201 201 b hb (Nat.le_refl _))
  have ex := u21 x (xlt 201 (by decide))
  have q21 : mC m21 x = 11 ∧ mR m21 640 x = x + 1 ∧ mR m21 641 x = x + 3 ∧ mR m21 642 x = x + 9 ∧ mR m21 643 x = x + 10 := ⟨ex.2.2.2.2.1.trans q20.1, (ex.2.1 640).trans q20.2.1, (ex.2.1 641).trans q20.2.2.1, (ex.2.1 642).trans q20.2.2.2.1, (ex.2.1 643).trans q20.2.2.2.2⟩
  have F21 : Fr (up x) 391 3680 m m21 := F20.tr (f21.sub (fun b q => le 201 b q)) (by decide) (by decide)
  have t21 : ∀ b, b < x + 201 → b ≠ x → Eqv m16 m21 b := fun b b1 b2 => (v20 b b1 b2).tr (u21 b b1)
  clear f21 u21 ex F20 v20 c20 z20 q20
  refine ⟨rfl, q21.1, ?_⟩
  have z22 : mz (sR m21 644 x (x + 201)) = x + 392 := z21'
  have q22 : mC (sR m21 644 x (x + 201)) x = 11 ∧ mR (sR m21 644 x (x + 201)) 640 x = x + 1 ∧ mR (sR m21 644 x (x + 201)) 641 x = x + 3 ∧ mR (sR m21 644 x (x + 201)) 642 x = x + 9 ∧ mR (sR m21 644 x (x + 201)) 643 x = x + 10 ∧ mR (sR m21 644 x (x + 201)) 644 x = x + 201 := ⟨q21.1, (zm_Rn (by decide)).trans q21.2.1, (zm_Rn (by decide)).trans q21.2.2.1, (zm_Rn (by decide)).trans q21.2.2.2.1, (zm_Rn (by decide)).trans q21.2.2.2.2, zm_Rs⟩
  have F22 : Fr (up x) 391 3680 m (sR m21 644 x (x + 201)) := F21.sR (Nat.le_refl _)
  have v22 : ∀ b, b ≠ x → Eqv m21 (sR m21 644 x (x + 201)) b := fun b hb => eq_sRn hb
  generalize sR m21 644 x (x + 201) = m22 at z22 q22 F22 v22 ⊢
  have e9 := ((t16 (x + 9) (lt 9 10 (by decide)) (ne 9 (by decide))).tr (t21 (x + 9) (lt 9 201 (by decide)) (ne 9 (by decide)))).tr (v22 (x + 9) (ne 9 (by decide)))
  refine C_bdLp h0 z22 q22.1 q22.2.2.2.1 (e9.2.2.2.2.1.trans r13.1) (e9.2.2.2.2.2.trans r13.2) F22 (fun m' z' f' v' r' p' => ?_)
  have vx := v' x (xlt 392 (by decide)) (Ne.symm (ne 9 (by decide)))
  have s3 : ∀ b, b < x + 3 → b ≠ x → Eqv m3 m' b := fun b b1 b2 => ((((t9 b b1 b2).tr (v13 b (Nat.lt_trans b1 (lt 3 9 (by decide))) b2)).tr (t16 b (Nat.lt_trans b1 (lt 3 10 (by decide))) b2)).tr (t21 b (Nat.lt_trans b1 (lt 3 201 (by decide))) b2)).tr ((v22 b b2).tr (v' b (Nat.lt_trans b1 (lt 3 392 (by decide))) (Nat.ne_of_lt (Nat.lt_trans b1 (lt 3 9 (by decide))))))
  have s9 : ∀ b, b < x + 9 → b ≠ x → Eqv m9 m' b := fun b b1 b2 => (((v13 b b1 b2).tr (t16 b (Nat.lt_trans b1 (lt 9 10 (by decide))) b2)).tr (t21 b (Nat.lt_trans b1 (lt 9 201 (by decide))) b2)).tr ((v22 b b2).tr (v' b (Nat.lt_trans b1 (lt 9 392 (by decide))) (Nat.ne_of_lt b1)))
  have s16 : ∀ b, x + 10 ≤ b → b < x + 201 → Eqv m16 m' b := fun b b1 b2 => ((t21 b b2 (Nat.ne_of_gt (Nat.lt_of_lt_of_le (xlt 10 (by decide)) b1))).tr (v22 b (Nat.ne_of_gt (Nat.lt_of_lt_of_le (xlt 10 (by decide)) b1)))).tr (v' b (Nat.lt_trans b2 (lt 201 392 (by decide))) (Nat.ne_of_gt (Nat.lt_of_lt_of_le (lt 9 10 (by decide)) b1)))
  have s21 : ∀ b, x + 201 ≤ b → b < x + 392 → Eqv m21 m' b := fun b b1 b2 => (v22 b (Nat.ne_of_gt (Nat.lt_of_lt_of_le (xlt 201 (by decide)) b1))).tr (v' b b2 (Nat.ne_of_gt (Nat.lt_of_lt_of_le (lt 9 201 (by decide)) b1)))
  have l3 : mz m3 ≤ mz m' := by rw [z3', z']; exact Nat.le_of_lt (lt 3 404 (by decide))
  have l9 : mz m9 ≤ mz m' := by rw [z9', z']; exact Nat.le_of_lt (lt 9 404 (by decide))
  have l16 : mz m16 ≤ mz m' := by rw [z16', z']; exact Nat.le_of_lt (lt 201 404 (by decide))
  have l21 : mz m21 ≤ mz m' := by rw [z21', z']; exact Nat.le_of_lt (lt 392 404 (by decide))
  refine hQ m' ⟨⟨vx.2.2.2.2.1.trans q22.1, (vx.2.1 640).trans q22.2.1, (vx.2.1 641).trans q22.2.2.1, (vx.2.1 642).trans q22.2.2.2.1, (vx.2.1 643).trans q22.2.2.2.2.1, (vx.2.1 644).trans q22.2.2.2.2.2⟩, hT.mv l3 (s3 (x + 1) (lt 1 3 (by decide)) (ne 1 (by decide))) (s3 (x + 2) (lt 2 3 (by decide)) (ne 2 (by decide))), ⟨hS.mv l9 (fun b b1 b2 => s9 b b2 (Nat.ne_of_gt (Nat.lt_of_lt_of_le (xlt 3 (by decide)) b1))), ((s9 (x + 3) (lt 3 9 (by decide)) (ne 3 (by decide))).1 74).trans h74⟩, ⟨r', p'⟩, fun P hP => (hY1 P hP).mvE (fun b b1 b2 => s16 b b1 b2) l16 (fun i hi => rfl), fun P hP => (hY2 P hP).mvE (fun b b1 b2 => s21 b b1 b2) l21 (fun i hi => rfl)⟩ z' f'
end ZCR
