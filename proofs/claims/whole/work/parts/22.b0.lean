section ZB0
variable {xs : Nat → Int} {xl d : Nat} {m : zM} {Q : zRes → zM → Prop}
theorem bX0_init_0 {a0 : Nat} {a1 : Int} {a2 : Int} {a3 : Int} {a4 : Int} (h : (a0 ≠ 0) ∧ (mC m a0 = 1) ∧ Q (.inl none) (sI (sI (sI (sI m 0 a0 a1) 1 a0 a2) 2 a0 a3) 3 a0 a4)) : zC xs xl (d + 1) 0 [zR a0, zI a1, zI a2, zI a3, zI a4] m Q := by
  refine zk_0 ?_
  refine (zq_aload_n dX0_init_0 rfl).mpr ?_
  obtain ⟨g1, h⟩ := h
  refine (zq_oinit dX0_init_1 mr_0_1).mpr ⟨⟨g1, (Nat.le_of_ble_eq_true rfl)⟩, ?_⟩
  refine (zq_aload_n dX0_init_4 rfl).mpr ?_
  refine (zq_iload_n dX0_init_5 rfl).mpr ?_
  obtain ⟨g2, h⟩ := h
  refine (zq_putI (f := 0) dX0_init_6 fl_0_7 (by decide) rfl rfl rfl).mpr ⟨g2, ?_⟩
  refine (zq_aload_n dX0_init_9 rfl).mpr ?_
  refine (zq_iload_n dX0_init_10 rfl).mpr ?_
  refine (zq_putI (f := 1) dX0_init_11 fl_0_13 (by decide) rfl rfl rfl).mpr ⟨g2, ?_⟩
  refine (zq_aload_n dX0_init_14 rfl).mpr ?_
  refine (zq_iload_n dX0_init_15 rfl).mpr ?_
  refine (zq_putI (f := 2) dX0_init_16 fl_0_16 (by decide) rfl rfl rfl).mpr ⟨g2, ?_⟩
  refine (zq_aload_n dX0_init_19 rfl).mpr ?_
  refine (zq_iload dX0_init_20 rfl).mpr ?_
  refine (zq_putI (f := 3) dX0_init_22 fl_0_19 (by decide) rfl rfl rfl).mpr ⟨g2, ?_⟩
  exact (zq_ret dX0_init_25 rfl).mpr h
theorem bX1_init_0 {a0 : Nat} {a1 : Nat} (h : (a0 ≠ 0) ∧ (∀ m2 : zM, m2 = nwA m 20 3 → (mC m2 a0 = 2) ∧ (∀ m4 : zM, m4 = nwA (sR m2 66 a0 (mz m)) 20 3 → (mC m4 a0 = 2) ∧ (∀ m6 : zM, m6 = nwA (sR m4 67 a0 (mz m2)) 20 3 → (mC m6 a0 = 2) ∧ (∀ m8 : zM, m8 = nwA (sR m6 68 a0 (mz m4)) 20 3 → (mC m8 a0 = 2) ∧ (∀ m10 : zM, m10 = nwO (sR (sI (sI (sI (sI (sI (sR m8 69 a0 (mz m6)) 70 a0 0) 71 a0 0) 72 a0 0) 73 a0 0) 74 a0 (-1)) 64 a0 a1) 5 5 → ((mz m8) ≠ 0) ∧ zC xs xl d 45 [zR (mz m8), zR a1] m10 (fun r m11 => r = .inl none ∧ (mC m11 a0 = 2) ∧ Q (.inl none) (sR m11 65 a0 (mz m8))))))))) : zC xs xl (d + 1) 1 [zR a0, zR a1] m Q := by
  refine zk_1 ?_
  refine (zq_aload_n dX1_init_0 rfl).mpr ?_
  obtain ⟨g1, h⟩ := h
  refine (zq_oinit dX1_init_1 mr_1_3).mpr ⟨⟨g1, (Nat.le_of_ble_eq_true rfl)⟩, ?_⟩
  refine (zq_aload_n dX1_init_4 rfl).mpr ?_
  refine (zq_iconst (v := 3) dX1_init_5 (by decide)).mpr ?_
  refine zq_newarray2 (kd := 20) (i := 3) dX1_init_6 rfl (by decide) rfl ⟨by decide, by decide⟩ (fun m2 em2 => ?_)
  replace h := h m2 em2
  obtain ⟨g3, h⟩ := h
  refine (zq_putR (f := 66) dX1_init_8 fl_1_9 (by decide) rfl rfl rfl).mpr ⟨g3, ?_⟩
  refine (zq_aload_n dX1_init_11 rfl).mpr ?_
  refine (zq_iconst (v := 3) dX1_init_12 (by decide)).mpr ?_
  refine zq_newarray2 (kd := 20) (i := 3) dX1_init_13 rfl (by decide) rfl ⟨by decide, by decide⟩ (fun m4 em4 => ?_)
  replace h := h m4 em4
  obtain ⟨g5, h⟩ := h
  refine (zq_putR (f := 67) dX1_init_15 fl_1_15 (by decide) rfl rfl rfl).mpr ⟨g5, ?_⟩
  refine (zq_aload_n dX1_init_18 rfl).mpr ?_
  refine (zq_iconst (v := 3) dX1_init_19 (by decide)).mpr ?_
  refine zq_newarray2 (kd := 20) (i := 3) dX1_init_20 rfl (by decide) rfl ⟨by decide, by decide⟩ (fun m6 em6 => ?_)
  replace h := h m6 em6
  obtain ⟨g7, h⟩ := h
  refine (zq_putR (f := 68) dX1_init_22 fl_1_18 (by decide) rfl rfl rfl).mpr ⟨g7, ?_⟩
  refine (zq_aload_n dX1_init_25 rfl).mpr ?_
  refine (zq_iconst (v := 3) dX1_init_26 (by decide)).mpr ?_
  refine zq_newarray2 (kd := 20) (i := 3) dX1_init_27 rfl (by decide) rfl ⟨by decide, by decide⟩ (fun m8 em8 => ?_)
  replace h := h m8 em8
  obtain ⟨g9, h⟩ := h
  refine (zq_putR (f := 69) dX1_init_29 fl_1_21 (by decide) rfl rfl rfl).mpr ⟨g9, ?_⟩
  refine (zq_aload_n dX1_init_32 rfl).mpr ?_
  refine (zq_iconst (v := 0) dX1_init_33 (by decide)).mpr ?_
  refine (zq_putI (f := 70) dX1_init_34 fl_1_24 (by decide) rfl rfl rfl).mpr ⟨g9, ?_⟩
  refine (zq_aload_n dX1_init_37 rfl).mpr ?_
  refine (zq_iconst (v := 0) dX1_init_38 (by decide)).mpr ?_
  refine (zq_putI (f := 71) dX1_init_39 fl_1_28 (by decide) rfl rfl rfl).mpr ⟨g9, ?_⟩
  refine (zq_aload_n dX1_init_42 rfl).mpr ?_
  refine (zq_iconst (v := 0) dX1_init_43 (by decide)).mpr ?_
  refine (zq_putZ (f := 72) dX1_init_44 fl_1_31 (by decide) rfl rfl rfl).mpr ⟨⟨g9, (by decide)⟩, ?_⟩
  refine (zq_aload_n dX1_init_47 rfl).mpr ?_
  refine (zq_iconst (v := 0) dX1_init_48 (by decide)).mpr ?_
  refine (zq_putZ (f := 73) dX1_init_49 fl_1_35 (by decide) rfl rfl rfl).mpr ⟨⟨g9, (by decide)⟩, ?_⟩
  refine (zq_aload_n dX1_init_52 rfl).mpr ?_
  refine (zq_iconst (v := (-1)) dX1_init_53 (by decide)).mpr ?_
  refine (zq_putI (f := 74) dX1_init_54 fl_1_38 (by decide) rfl rfl rfl).mpr ⟨g9, ?_⟩
  refine (zq_aload_n dX1_init_57 rfl).mpr ?_
  refine (zq_aload_n dX1_init_58 rfl).mpr ?_
  refine (zq_putR (f := 64) dX1_init_59 fl_1_41 (by decide) rfl rfl rfl).mpr ⟨g9, ?_⟩
  refine (zq_aload_n dX1_init_62 rfl).mpr ?_
  refine zq_new2 dX1_init_63 nw_1_45 rfl (fun m10 em10 => ?_)
  replace h := h m10 em10
  refine (zq_dupR dX1_init_66).mpr ?_
  refine (zq_aload_n dX1_init_67 rfl).mpr ?_
  obtain ⟨g13, h⟩ := h
  refine zq_special2 (n := 1) dX1_init_68 mr_1_47 zn_45 rfl rfl g13 (Nat.le_of_ble_eq_true rfl) ?_
  refine h.mono (fun r m11 h => ?_)
  obtain ⟨rfl, h⟩ := h
  refine ⟨rfl, ?_⟩
  obtain ⟨g14, h⟩ := h
  refine (zq_putR (f := 65) dX1_init_71 fl_1_50 (by decide) rfl rfl rfl).mpr ⟨g14, ?_⟩
  exact (zq_ret dX1_init_74 rfl).mpr h
theorem bX1_fail_0 {a0 : Nat} {a1 : Int} {a2 : Int} (h : (mC m a0 = 2) ∧ Q (.inl (some (zI a1))) (sI m 74 a0 a2)) : zC xs xl (d + 1) 2 [zR a0, zI a1, zI a2] m Q := by
  refine zk_2 ?_
  refine (zq_aload_n dX1_fail_0 rfl).mpr ?_
  refine (zq_iload_n dX1_fail_1 rfl).mpr ?_
  obtain ⟨g1, h⟩ := h
  refine (zq_putI (f := 74) dX1_fail_2 fl_1_38 (by decide) rfl rfl rfl).mpr ⟨g1, ?_⟩
  refine (zq_iload_n dX1_fail_5 rfl).mpr ?_
  exact (zq_iret dX1_fail_6 rfl).mpr ⟨trivial, h⟩
theorem bX1_formError_0 {a0 : Nat} (h : (mC m a0 = 2) ∧ zC xs xl d 4 [zR a0] (sI m 74 a0 (-1)) (fun r m2 => ∃ v3 : Int, r = .inl (some (zI v3)) ∧ ((v3 = 0 → (mC m2 a0 = 2) ∧ (mC m2 (mR m2 65 a0) = 6) ∧ zC xs xl d 2 [zR a0, zI 1, zI (mI m2 323 (mR m2 65 a0))] m2 (fun r m6 => ∃ v7 : Int, r = .inl (some (zI v7)) ∧ Q (.inl (some (zI v7))) m6)) ∧ (¬ (v3 = 0) → Q (.inl (some (zI 0))) m2)))) : zC xs xl (d + 1) 3 [zR a0] m Q := by
  refine zk_3 ?_
  refine (zq_aload_n dX1_formError_0 rfl).mpr ?_
  refine (zq_iconst (v := (-1)) dX1_formError_1 (by decide)).mpr ?_
  obtain ⟨g1, h⟩ := h
  refine (zq_putI (f := 74) dX1_formError_2 fl_1_38 (by decide) rfl rfl rfl).mpr ⟨g1, ?_⟩
  refine (zq_aload_n dX1_formError_5 rfl).mpr ?_
  refine zq_virtualI (n := 0) dX1_formError_6 mr_1_54 zn_4 rfl rfl rfl (zrcv_R zo_4 (by decide) g1) (Nat.le_of_ble_eq_true rfl) ?_
  refine h.mono (fun r m2 h => ?_)
  obtain ⟨v3, rfl, h⟩ := h
  refine ⟨_, rfl, ?_⟩
  refine (zq_if_eq (t := 16) dX1_formError_9 rfl).mpr ⟨fun c => ?_, fun c => ?_⟩
  · replace h := h.1 c
    refine (zq_aload_n dX1_formError_16 rfl).mpr ?_
    refine (zq_iconst (v := 1) dX1_formError_17 (by decide)).mpr ?_
    refine (zq_aload_n dX1_formError_18 rfl).mpr ?_
    obtain ⟨g4, h⟩ := h
    refine (zq_getR2 (f := 65) (v := (mR m2 65 a0)) dX1_formError_19 fl_1_50 (by decide) rfl rfl (by first | rfl | simp only [zm_Is, zm_Rs, zm_As, zm_Os, zm_In0, zm_Rn0])).mpr ⟨g4, ?_⟩
    obtain ⟨g5, h⟩ := h
    refine (zq_getI2 (f := 323) (v := (mI m2 323 (mR m2 65 a0))) dX1_formError_22 fl_1_58 (by decide) rfl rfl (by first | rfl | simp only [zm_Is, zm_Rs, zm_As, zm_Os, zm_In0, zm_Rn0])).mpr ⟨g5, ?_⟩
    refine zq_virtualI (n := 2) dX1_formError_25 mr_1_61 zn_2 rfl rfl rfl (zrcv_R zo_2 (by decide) g4) (Nat.le_of_ble_eq_true rfl) ?_
    refine h.mono (fun r m6 h => ?_)
    obtain ⟨v7, rfl, h⟩ := h
    refine ⟨_, rfl, ?_⟩
    exact (zq_iret dX1_formError_28 rfl).mpr ⟨trivial, h⟩
  · replace h := h.2 c
    refine (zq_iconst (v := 0) dX1_formError_12 (by decide)).mpr ?_
    refine (zq_goto (t := 28) dX1_formError_13 rfl).mpr ?_
    exact (zq_iret dX1_formError_28 rfl).mpr ⟨trivial, h⟩
theorem bX1_isWellFormed_0 {a0 : Nat} (h : (mC m a0 = 2) ∧ (mC m (mR m 65 a0) = 6) ∧ zC xs xl d 47 [zR (mR m 65 a0), zI 0] m (fun r m2 => r = .inl none ∧ zW xs xl d cX1_isWellFormed 1 (some .boolean) false [] 14 [zR a0, zI 0, zI 0, zI 0, zU] [] m2 Q)) : zC xs xl (d + 1) 4 [zR a0] m Q := by
  refine zk_4 ?_
  refine (zq_iconst (v := 0) dX1_isWellFormed_0 (by decide)).mpr ?_
  refine (zq_istore_n (l := [zR a0, zI 0, zU, zU, zU]) dX1_isWellFormed_1 (Nat.le_of_ble_eq_true rfl) rfl).mpr ?_
  refine (zq_iconst (v := 0) dX1_isWellFormed_2 (by decide)).mpr ?_
  refine (zq_istore_n (l := [zR a0, zI 0, zI 0, zU, zU]) dX1_isWellFormed_3 (Nat.le_of_ble_eq_true rfl) rfl).mpr ?_
  refine (zq_aload_n dX1_isWellFormed_4 rfl).mpr ?_
  obtain ⟨g1, h⟩ := h
  refine (zq_getR2 (f := 65) (v := (mR m 65 a0)) dX1_isWellFormed_5 fl_1_50 (by decide) rfl rfl (by first | rfl | simp only [zm_Is, zm_Rs, zm_As, zm_Os, zm_In0, zm_Rn0])).mpr ⟨g1, ?_⟩
  refine (zq_iconst (v := 0) dX1_isWellFormed_8 (by decide)).mpr ?_
  obtain ⟨g4, h⟩ := h
  refine zq_virtualV (n := 1) dX1_isWellFormed_9 mr_1_65 zn_47 rfl rfl rfl (zrcv_R zo_47 (by decide) g4) (Nat.le_of_ble_eq_true rfl) ?_
  refine h.mono (fun r m2 h => ?_)
  obtain ⟨rfl, h⟩ := h
  refine ⟨rfl, ?_⟩
  refine (zq_iconst (v := 0) dX1_isWellFormed_12 (by decide)).mpr ?_
  refine (zq_istore_n (l := [zR a0, zI 0, zI 0, zI 0, zU]) dX1_isWellFormed_13 (Nat.le_of_ble_eq_true rfl) rfl).mpr ?_
  exact h
theorem bX1_isWellFormed_14 {a0 : Nat} {a1 : Int} {a2 : Int} {a3 : Int} {a4 : zV} (h : (mC m a0 = 2) ∧ (mC m (mR m 64 a0) = 9) ∧ (((mI m 513 (mR m 64 a0)) < a3 → Q (.inl (some (zI 0))) m) ∧ (¬ ((mI m 513 (mR m 64 a0)) < a3) → (mC m (mR m 65 a0) = 6) ∧ zC xs xl d 48 [zR (mR m 65 a0)] m (fun r m3 => r = .inl none ∧ ((a2 = 0 → zW xs xl d cX1_isWellFormed 1 (some .boolean) false [] 54 [zR a0, zI a1, zI a2, zI a3, a4] [] m3 Q) ∧ (¬ (a2 = 0) → ((a1 ≠ 0 → zW xs xl d cX1_isWellFormed 1 (some .boolean) false [] 54 [zR a0, zI a1, zI a2, zI a3, a4] [] m3 Q) ∧ (¬ (a1 ≠ 0) → (mC m3 a0 = 2) ∧ (mC m3 (mR m3 65 a0) = 6) ∧ (((mI m3 322 (mR m3 65 a0)) ≠ 46 → zW xs xl d cX1_isWellFormed 1 (some .boolean) false [] 54 [zR a0, zI a1, zI a2, zI a3, a4] [] m3 Q) ∧ (¬ ((mI m3 322 (mR m3 65 a0)) ≠ 46) → Q (.inl (some (zI 1))) m3)))))))))) : zW xs xl d cX1_isWellFormed 1 (some .boolean) false [] 14 [zR a0, zI a1, zI a2, zI a3, a4] [] m Q := by
  refine (zq_iload_n dX1_isWellFormed_14 rfl).mpr ?_
  refine (zq_aload_n dX1_isWellFormed_15 rfl).mpr ?_
  obtain ⟨g1, h⟩ := h
  refine (zq_getR2 (f := 64) (v := (mR m 64 a0)) dX1_isWellFormed_16 fl_1_41 (by decide) rfl rfl (by first | rfl | simp only [zm_Is, zm_Rs, zm_As, zm_Os, zm_In0, zm_Rn0])).mpr ⟨g1, ?_⟩
  obtain ⟨g2, h⟩ := h
  refine (zq_getI2 (f := 513) (v := (mI m 513 (mR m 64 a0))) dX1_isWellFormed_19 fl_1_69 (by decide) rfl rfl (by first | rfl | simp only [zm_Is, zm_Rs, zm_As, zm_Os, zm_In0, zm_Rn0])).mpr ⟨g2, ?_⟩
  refine (zq_icmp_gt (t := 159) dX1_isWellFormed_22 rfl).mpr ⟨fun c => ?_, fun c => ?_⟩
  · replace h := h.1 c
    refine (zq_iconst (v := 0) dX1_isWellFormed_159 (by decide)).mpr ?_
    exact (zq_iret dX1_isWellFormed_160 rfl).mpr ⟨Or.inl rfl, h⟩
  · replace h := h.2 c
    refine (zq_aload_n dX1_isWellFormed_25 rfl).mpr ?_
    refine (zq_getR2 (f := 65) (v := (mR m 65 a0)) dX1_isWellFormed_26 fl_1_50 (by decide) rfl rfl (by first | rfl | simp only [zm_Is, zm_Rs, zm_As, zm_Os, zm_In0, zm_Rn0])).mpr ⟨g1, ?_⟩
    obtain ⟨g5, h⟩ := h
    refine zq_virtualV (n := 0) dX1_isWellFormed_29 mr_1_74 zn_48 rfl rfl rfl (zrcv_R zo_48 (by decide) g5) (Nat.le_of_ble_eq_true rfl) ?_
    refine h.mono (fun r m3 h => ?_)
    obtain ⟨rfl, h⟩ := h
    refine ⟨rfl, ?_⟩
    refine (zq_iload_n dX1_isWellFormed_32 rfl).mpr ?_
    refine (zq_if_eq (t := 54) dX1_isWellFormed_33 rfl).mpr ⟨fun c => ?_, fun c => ?_⟩
    · replace h := h.1 c
      exact h
    · replace h := h.2 c
      refine (zq_iload_n dX1_isWellFormed_36 rfl).mpr ?_
      refine (zq_if_ne (t := 54) dX1_isWellFormed_37 rfl).mpr ⟨fun c => ?_, fun c => ?_⟩
      · replace h := h.1 c
        exact h
      · replace h := h.2 c
        refine (zq_aload_n dX1_isWellFormed_40 rfl).mpr ?_
        obtain ⟨g6, h⟩ := h
        refine (zq_getR2 (f := 65) (v := (mR m3 65 a0)) dX1_isWellFormed_41 fl_1_50 (by decide) rfl rfl (by first | rfl | simp only [zm_Is, zm_Rs, zm_As, zm_Os, zm_In0, zm_Rn0])).mpr ⟨g6, ?_⟩
        obtain ⟨g7, h⟩ := h
        refine (zq_getI2 (f := 322) (v := (mI m3 322 (mR m3 65 a0))) dX1_isWellFormed_44 fl_1_77 (by decide) rfl rfl (by first | rfl | simp only [zm_Is, zm_Rs, zm_As, zm_Os, zm_In0, zm_Rn0])).mpr ⟨g7, ?_⟩
        refine (zq_bipush (v := 46) dX1_isWellFormed_47 (by decide)).mpr ?_
        refine (zq_icmp_ne (t := 54) dX1_isWellFormed_49 rfl).mpr ⟨fun c => ?_, fun c => ?_⟩
        · replace h := h.1 c
          exact h
        · replace h := h.2 c
          refine (zq_iconst (v := 1) dX1_isWellFormed_52 (by decide)).mpr ?_
          exact (zq_iret dX1_isWellFormed_53 rfl).mpr ⟨Or.inr rfl, h⟩
theorem bX1_isWellFormed_54 {a0 : Nat} {a1 : Int} {a2 : Int} {a3 : Int} {a4 : zV} (h : ((a2 = 0 → zW xs xl d cX1_isWellFormed 1 (some .boolean) false [] 80 [zR a0, zI a1, zI a2, zI a3, a4] [] m Q) ∧ (¬ (a2 = 0) → ((a1 ≤ 0 → zW xs xl d cX1_isWellFormed 1 (some .boolean) false [] 80 [zR a0, zI a1, zI a2, zI a3, a4] [] m Q) ∧ (¬ (a1 ≤ 0) → (mC m a0 = 2) ∧ (mC m (mR m 65 a0) = 6) ∧ (((mI m 322 (mR m 65 a0)) ≠ 125 → zW xs xl d cX1_isWellFormed 1 (some .boolean) false [] 80 [zR a0, zI a1, zI a2, zI a3, a4] [] m Q) ∧ (¬ ((mI m 322 (mR m 65 a0)) ≠ 125) → zW xs xl d cX1_isWellFormed 1 (some .boolean) false [] 14 [zR a0, zI (wr (a1 + (-1))), zI a2, zI (wr (a3 + 1)), a4] [] m Q))))))) : zW xs xl d cX1_isWellFormed 1 (some .boolean) false [] 54 [zR a0, zI a1, zI a2, zI a3, a4] [] m Q := by
  refine (zq_iload_n dX1_isWellFormed_54 rfl).mpr ?_
  refine (zq_if_eq (t := 80) dX1_isWellFormed_55 rfl).mpr ⟨fun c => ?_, fun c => ?_⟩
  · replace h := h.1 c
    exact h
  · replace h := h.2 c
    refine (zq_iload_n dX1_isWellFormed_58 rfl).mpr ?_
    refine (zq_if_le (t := 80) dX1_isWellFormed_59 rfl).mpr ⟨fun c => ?_, fun c => ?_⟩
    · replace h := h.1 c
      exact h
    · replace h := h.2 c
      refine (zq_aload_n dX1_isWellFormed_62 rfl).mpr ?_
      obtain ⟨g1, h⟩ := h
      refine (zq_getR2 (f := 65) (v := (mR m 65 a0)) dX1_isWellFormed_63 fl_1_50 (by decide) rfl rfl (by first | rfl | simp only [zm_Is, zm_Rs, zm_As, zm_Os, zm_In0, zm_Rn0])).mpr ⟨g1, ?_⟩
      obtain ⟨g2, h⟩ := h
      refine (zq_getI2 (f := 322) (v := (mI m 322 (mR m 65 a0))) dX1_isWellFormed_66 fl_1_77 (by decide) rfl rfl (by first | rfl | simp only [zm_Is, zm_Rs, zm_As, zm_Os, zm_In0, zm_Rn0])).mpr ⟨g2, ?_⟩
      refine (zq_bipush (v := 125) dX1_isWellFormed_69 (by decide)).mpr ?_
      refine (zq_icmp_ne (t := 80) dX1_isWellFormed_71 rfl).mpr ⟨fun c => ?_, fun c => ?_⟩
      · replace h := h.1 c
        exact h
      · replace h := h.2 c
        refine (zq_iinc (l := [zR a0, zI (wr (a1 + (-1))), zI a2, zI a3, a4]) dX1_isWellFormed_74 rfl rfl).mpr ?_
        refine (zq_goto (t := 153) dX1_isWellFormed_77 rfl).mpr ?_
        refine (zq_iinc (l := [zR a0, zI (wr (a1 + (-1))), zI a2, zI (wr (a3 + 1)), a4]) dX1_isWellFormed_153 rfl rfl).mpr ?_
        refine (zq_goto (t := 14) dX1_isWellFormed_156 rfl).mpr ?_
        exact h
theorem bX1_isWellFormed_80 {a0 : Nat} {a1 : Int} {a2 : Int} {a3 : Int} {a4 : zV} (h : (mC m a0 = 2) ∧ (mC m (mR m 65 a0) = 6) ∧ (((mI m 322 (mR m 65 a0)) = 115 → (((mI m 324 (mR m 65 a0)) ≠ 8 → zW xs xl d cX1_isWellFormed 1 (some .boolean) false [] 111 [zR a0, zI a1, zI a2, zI a3, a4] [zI 0] m Q) ∧ (¬ ((mI m 324 (mR m 65 a0)) ≠ 8) → zW xs xl d cX1_isWellFormed 1 (some .boolean) false [] 111 [zR a0, zI a1, zI a2, zI a3, a4] [zI 1] m Q))) ∧ (¬ ((mI m 322 (mR m 65 a0)) = 115) → Q (.inl (some (zI 0))) m))) : zW xs xl d cX1_isWellFormed 1 (some .boolean) false [] 80 [zR a0, zI a1, zI a2, zI a3, a4] [] m Q := by
  refine (zq_aload_n dX1_isWellFormed_80 rfl).mpr ?_
  obtain ⟨g1, h⟩ := h
  refine (zq_getR2 (f := 65) (v := (mR m 65 a0)) dX1_isWellFormed_81 fl_1_50 (by decide) rfl rfl (by first | rfl | simp only [zm_Is, zm_Rs, zm_As, zm_Os, zm_In0, zm_Rn0])).mpr ⟨g1, ?_⟩
  obtain ⟨g2, h⟩ := h
  refine (zq_getI2 (f := 322) (v := (mI m 322 (mR m 65 a0))) dX1_isWellFormed_84 fl_1_77 (by decide) rfl rfl (by first | rfl | simp only [zm_Is, zm_Rs, zm_As, zm_Os, zm_In0, zm_Rn0])).mpr ⟨g2, ?_⟩
  refine (zq_bipush (v := 115) dX1_isWellFormed_87 (by decide)).mpr ?_
  refine (zq_icmp_eq (t := 94) dX1_isWellFormed_89 rfl).mpr ⟨fun c => ?_, fun c => ?_⟩
  · replace h := h.1 c
    refine (zq_aload_n dX1_isWellFormed_94 rfl).mpr ?_
    refine (zq_getR2 (f := 65) (v := (mR m 65 a0)) dX1_isWellFormed_95 fl_1_50 (by decide) rfl rfl (by first | rfl | simp only [zm_Is, zm_Rs, zm_As, zm_Os, zm_In0, zm_Rn0])).mpr ⟨g1, ?_⟩
    refine (zq_getI2 (f := 324) (v := (mI m 324 (mR m 65 a0))) dX1_isWellFormed_98 fl_1_80 (by decide) rfl rfl (by first | rfl | simp only [zm_Is, zm_Rs, zm_As, zm_Os, zm_In0, zm_Rn0])).mpr ⟨g2, ?_⟩
    refine (zq_bipush (v := 8) dX1_isWellFormed_101 (by decide)).mpr ?_
    refine (zq_icmp_ne (t := 110) dX1_isWellFormed_103 rfl).mpr ⟨fun c => ?_, fun c => ?_⟩
    · replace h := h.1 c
      refine (zq_iconst (v := 0) dX1_isWellFormed_110 (by decide)).mpr ?_
      exact h
    · replace h := h.2 c
      refine (zq_iconst (v := 1) dX1_isWellFormed_106 (by decide)).mpr ?_
      refine (zq_goto (t := 111) dX1_isWellFormed_107 rfl).mpr ?_
      exact h
  · replace h := h.2 c
    refine (zq_iconst (v := 0) dX1_isWellFormed_92 (by decide)).mpr ?_
    exact (zq_iret dX1_isWellFormed_93 rfl).mpr ⟨Or.inl rfl, h⟩
theorem bX1_isWellFormed_111 {a0 : Nat} {a1 : Int} {a2 : Int} {a3 : Int} {a4 : zV} {s0 : Int} (h : (mC m a0 = 2) ∧ (mC m (mR m 65 a0) = 6) ∧ zC xs xl d 5 [zR a0, zI (mI m 324 (mR m 65 a0))] m (fun r m3 => ∃ v4 : Int, r = .inl (some (zI v4)) ∧ ((v4 ≠ 0 → ((s0 = 0 → ((s0 ≠ 0 → zW xs xl d cX1_isWellFormed 1 (some .boolean) false [] 14 [zR a0, zI (wr (a1 + 0)), zI 0, zI (wr (a3 + 1)), zI s0] [] m3 Q) ∧ (¬ (s0 ≠ 0) → zW xs xl d cX1_isWellFormed 1 (some .boolean) false [] 14 [zR a0, zI (wr (a1 + 0)), zI 1, zI (wr (a3 + 1)), zI s0] [] m3 Q))) ∧ (¬ (s0 = 0) → ((s0 ≠ 0 → zW xs xl d cX1_isWellFormed 1 (some .boolean) false [] 14 [zR a0, zI (wr (a1 + 1)), zI 0, zI (wr (a3 + 1)), zI s0] [] m3 Q) ∧ (¬ (s0 ≠ 0) → zW xs xl d cX1_isWellFormed 1 (some .boolean) false [] 14 [zR a0, zI (wr (a1 + 1)), zI 1, zI (wr (a3 + 1)), zI s0] [] m3 Q))))) ∧ (¬ (v4 ≠ 0) → Q (.inl (some (zI 0))) m3)))) : zW xs xl d cX1_isWellFormed 1 (some .boolean) false [] 111 [zR a0, zI a1, zI a2, zI a3, a4] [zI s0] m Q := by
  refine (zq_istore (l := [zR a0, zI a1, zI a2, zI a3, zI s0]) dX1_isWellFormed_111 (Nat.le_of_ble_eq_true rfl) rfl).mpr ?_
  refine (zq_aload_n dX1_isWellFormed_113 rfl).mpr ?_
  refine (zq_aload_n dX1_isWellFormed_114 rfl).mpr ?_
  obtain ⟨g1, h⟩ := h
  refine (zq_getR2 (f := 65) (v := (mR m 65 a0)) dX1_isWellFormed_115 fl_1_50 (by decide) rfl rfl (by first | rfl | simp only [zm_Is, zm_Rs, zm_As, zm_Os, zm_In0, zm_Rn0])).mpr ⟨g1, ?_⟩
  obtain ⟨g2, h⟩ := h
  refine (zq_getI2 (f := 324) (v := (mI m 324 (mR m 65 a0))) dX1_isWellFormed_118 fl_1_80 (by decide) rfl rfl (by first | rfl | simp only [zm_Is, zm_Rs, zm_As, zm_Os, zm_In0, zm_Rn0])).mpr ⟨g2, ?_⟩
  refine zq_virtualI (n := 1) dX1_isWellFormed_121 mr_1_83 zn_5 rfl rfl rfl (zrcv_R zo_5 (by decide) g1) (Nat.le_of_ble_eq_true rfl) ?_
  refine h.mono (fun r m3 h => ?_)
  obtain ⟨v4, rfl, h⟩ := h
  refine ⟨_, rfl, ?_⟩
  refine (zq_if_ne (t := 129) dX1_isWellFormed_124 rfl).mpr ⟨fun c => ?_, fun c => ?_⟩
  · replace h := h.1 c
    refine (zq_iload_n dX1_isWellFormed_129 rfl).mpr ?_
    refine (zq_iload dX1_isWellFormed_130 rfl).mpr ?_
    refine (zq_if_eq (t := 139) dX1_isWellFormed_132 rfl).mpr ⟨fun c => ?_, fun c => ?_⟩
    · replace h := h.1 c
      refine (zq_iconst (v := 0) dX1_isWellFormed_139 (by decide)).mpr ?_
      refine (zq_iadd dX1_isWellFormed_140).mpr ?_
      refine (zq_istore_n (l := [zR a0, zI (wr (a1 + 0)), zI a2, zI a3, zI s0]) dX1_isWellFormed_141 (Nat.le_of_ble_eq_true rfl) rfl).mpr ?_
      refine (zq_iload dX1_isWellFormed_142 rfl).mpr ?_
      refine (zq_if_ne (t := 151) dX1_isWellFormed_144 rfl).mpr ⟨fun c => ?_, fun c => ?_⟩
      · replace h := h.1 c
        refine (zq_iconst (v := 0) dX1_isWellFormed_151 (by decide)).mpr ?_
        refine (zq_istore_n (l := [zR a0, zI (wr (a1 + 0)), zI 0, zI a3, zI s0]) dX1_isWellFormed_152 (Nat.le_of_ble_eq_true rfl) rfl).mpr ?_
        refine (zq_iinc (l := [zR a0, zI (wr (a1 + 0)), zI 0, zI (wr (a3 + 1)), zI s0]) dX1_isWellFormed_153 rfl rfl).mpr ?_
        refine (zq_goto (t := 14) dX1_isWellFormed_156 rfl).mpr ?_
        exact h
      · replace h := h.2 c
        refine (zq_iconst (v := 1) dX1_isWellFormed_147 (by decide)).mpr ?_
        refine (zq_goto (t := 152) dX1_isWellFormed_148 rfl).mpr ?_
        refine (zq_istore_n (l := [zR a0, zI (wr (a1 + 0)), zI 1, zI a3, zI s0]) dX1_isWellFormed_152 (Nat.le_of_ble_eq_true rfl) rfl).mpr ?_
        refine (zq_iinc (l := [zR a0, zI (wr (a1 + 0)), zI 1, zI (wr (a3 + 1)), zI s0]) dX1_isWellFormed_153 rfl rfl).mpr ?_
        refine (zq_goto (t := 14) dX1_isWellFormed_156 rfl).mpr ?_
        exact h
    · replace h := h.2 c
      refine (zq_iconst (v := 1) dX1_isWellFormed_135 (by decide)).mpr ?_
      refine (zq_goto (t := 140) dX1_isWellFormed_136 rfl).mpr ?_
      refine (zq_iadd dX1_isWellFormed_140).mpr ?_
      refine (zq_istore_n (l := [zR a0, zI (wr (a1 + 1)), zI a2, zI a3, zI s0]) dX1_isWellFormed_141 (Nat.le_of_ble_eq_true rfl) rfl).mpr ?_
      refine (zq_iload dX1_isWellFormed_142 rfl).mpr ?_
      refine (zq_if_ne (t := 151) dX1_isWellFormed_144 rfl).mpr ⟨fun c => ?_, fun c => ?_⟩
      · replace h := h.1 c
        refine (zq_iconst (v := 0) dX1_isWellFormed_151 (by decide)).mpr ?_
        refine (zq_istore_n (l := [zR a0, zI (wr (a1 + 1)), zI 0, zI a3, zI s0]) dX1_isWellFormed_152 (Nat.le_of_ble_eq_true rfl) rfl).mpr ?_
        refine (zq_iinc (l := [zR a0, zI (wr (a1 + 1)), zI 0, zI (wr (a3 + 1)), zI s0]) dX1_isWellFormed_153 rfl rfl).mpr ?_
        refine (zq_goto (t := 14) dX1_isWellFormed_156 rfl).mpr ?_
        exact h
      · replace h := h.2 c
        refine (zq_iconst (v := 1) dX1_isWellFormed_147 (by decide)).mpr ?_
        refine (zq_goto (t := 152) dX1_isWellFormed_148 rfl).mpr ?_
        refine (zq_istore_n (l := [zR a0, zI (wr (a1 + 1)), zI 1, zI a3, zI s0]) dX1_isWellFormed_152 (Nat.le_of_ble_eq_true rfl) rfl).mpr ?_
        refine (zq_iinc (l := [zR a0, zI (wr (a1 + 1)), zI 1, zI (wr (a3 + 1)), zI s0]) dX1_isWellFormed_153 rfl rfl).mpr ?_
        refine (zq_goto (t := 14) dX1_isWellFormed_156 rfl).mpr ?_
        exact h
  · replace h := h.2 c
    refine (zq_iconst (v := 0) dX1_isWellFormed_127 (by decide)).mpr ?_
    exact (zq_iret dX1_isWellFormed_128 rfl).mpr ⟨Or.inl rfl, h⟩
theorem bX1_hasRestOf_0 {a0 : Nat} {a1 : Int} (h : zC xs xl d 6 [zI a1] m (fun r m1 => ∃ v2 : Nat, r = .inl (some (zE v2)) ∧ zW xs xl d cX1_hasRestOf 1 (some .boolean) false [] 7 [zR a0, zI a1, zE v2, zI 0] [] m1 Q)) : zC xs xl (d + 1) 5 [zR a0, zI a1] m Q := by
  refine zk_5 ?_
  refine (zq_iload_n dX1_hasRestOf_0 rfl).mpr ?_
  refine zq_staticE (n := 1) dX1_hasRestOf_1 mr_1_87 zn_6 rfl rfl (Nat.le_of_ble_eq_true rfl) (Nat.le_of_ble_eq_true rfl) ?_
  refine h.mono (fun r m1 h => ?_)
  obtain ⟨v2, rfl, h⟩ := h
  refine ⟨_, rfl, ?_⟩
  refine (zq_astore_nE (l := [zR a0, zI a1, zE v2, zU]) dX1_hasRestOf_4 (Nat.le_of_ble_eq_true rfl) rfl).mpr ?_
  refine (zq_iconst (v := 0) dX1_hasRestOf_5 (by decide)).mpr ?_
  refine (zq_istore_n (l := [zR a0, zI a1, zE v2, zI 0]) dX1_hasRestOf_6 (Nat.le_of_ble_eq_true rfl) rfl).mpr ?_
  exact h
theorem bX1_hasRestOf_7 {a0 : Nat} {a1 : Int} {a2 : Nat} {a3 : Int} (h : (20 ≤ a2 ∧ a2 < 50) ∧ zC xs xl d 209 [zE a2] m (fun r m1 => ∃ v2 : Int, r = .inl (some (zI v2)) ∧ ((v2 ≤ a3 → Q (.inl (some (zI 1))) m1) ∧ (¬ (v2 ≤ a3) → (mC m1 a0 = 2) ∧ (mC m1 (mR m1 65 a0) = 6) ∧ zC xs xl d 48 [zR (mR m1 65 a0)] m1 (fun r m5 => r = .inl none ∧ (mC m5 a0 = 2) ∧ (mC m5 (mR m5 65 a0) = 6) ∧ zC xs xl d 210 [zE a2, zI a3] m5 (fun r m10 => ∃ v11 : Int, r = .inl (some (zI v11)) ∧ (((mI m5 322 (mR m5 65 a0)) = v11 → zW xs xl d cX1_hasRestOf 1 (some .boolean) false [] 7 [zR a0, zI a1, zE a2, zI (wr (a3 + 1))] [] m10 Q) ∧ (¬ ((mI m5 322 (mR m5 65 a0)) = v11) → Q (.inl (some (zI 0))) m10)))))))) : zW xs xl d cX1_hasRestOf 1 (some .boolean) false [] 7 [zR a0, zI a1, zE a2, zI a3] [] m Q := by
  refine (zq_iload_n dX1_hasRestOf_7 rfl).mpr ?_
  refine (zq_aload_nE dX1_hasRestOf_8 rfl).mpr ?_
  obtain ⟨g3, h⟩ := h
  refine zq_virtualI (n := 0) dX1_hasRestOf_9 mr_1_91 zn_209 rfl rfl rfl (zrcv_E zo_209 g3) (Nat.le_of_ble_eq_true rfl) ?_
  refine h.mono (fun r m1 h => ?_)
  obtain ⟨v2, rfl, h⟩ := h
  refine ⟨_, rfl, ?_⟩
  refine (zq_icmp_ge (t := 45) dX1_hasRestOf_12 rfl).mpr ⟨fun c => ?_, fun c => ?_⟩
  · replace h := h.1 c
    refine (zq_iconst (v := 1) dX1_hasRestOf_45 (by decide)).mpr ?_
    exact (zq_iret dX1_hasRestOf_46 rfl).mpr ⟨Or.inr rfl, h⟩
  · replace h := h.2 c
    refine (zq_aload_n dX1_hasRestOf_15 rfl).mpr ?_
    obtain ⟨g4, h⟩ := h
    refine (zq_getR2 (f := 65) (v := (mR m1 65 a0)) dX1_hasRestOf_16 fl_1_50 (by decide) rfl rfl (by first | rfl | simp only [zm_Is, zm_Rs, zm_As, zm_Os, zm_In0, zm_Rn0])).mpr ⟨g4, ?_⟩
    obtain ⟨g7, h⟩ := h
    refine zq_virtualV (n := 0) dX1_hasRestOf_19 mr_1_74 zn_48 rfl rfl rfl (zrcv_R zo_48 (by decide) g7) (Nat.le_of_ble_eq_true rfl) ?_
    refine h.mono (fun r m5 h => ?_)
    obtain ⟨rfl, h⟩ := h
    refine ⟨rfl, ?_⟩
    refine (zq_aload_n dX1_hasRestOf_22 rfl).mpr ?_
    obtain ⟨g8, h⟩ := h
    refine (zq_getR2 (f := 65) (v := (mR m5 65 a0)) dX1_hasRestOf_23 fl_1_50 (by decide) rfl rfl (by first | rfl | simp only [zm_Is, zm_Rs, zm_As, zm_Os, zm_In0, zm_Rn0])).mpr ⟨g8, ?_⟩
    obtain ⟨g9, h⟩ := h
    refine (zq_getI2 (f := 322) (v := (mI m5 322 (mR m5 65 a0))) dX1_hasRestOf_26 fl_1_77 (by decide) rfl rfl (by first | rfl | simp only [zm_Is, zm_Rs, zm_As, zm_Os, zm_In0, zm_Rn0])).mpr ⟨g9, ?_⟩
    refine (zq_aload_nE dX1_hasRestOf_29 rfl).mpr ?_
    refine (zq_iload_n dX1_hasRestOf_30 rfl).mpr ?_
    refine zq_virtualI (n := 1) dX1_hasRestOf_31 mr_1_96 zn_210 rfl rfl rfl (zrcv_E zo_210 g3) (Nat.le_of_ble_eq_true rfl) ?_
    refine h.mono (fun r m10 h => ?_)
    obtain ⟨v11, rfl, h⟩ := h
    refine ⟨_, rfl, ?_⟩
    refine (zq_icmp_eq (t := 39) dX1_hasRestOf_34 rfl).mpr ⟨fun c => ?_, fun c => ?_⟩
    · replace h := h.1 c
      refine (zq_iinc (l := [zR a0, zI a1, zE a2, zI (wr (a3 + 1))]) dX1_hasRestOf_39 rfl rfl).mpr ?_
      refine (zq_goto (t := 7) dX1_hasRestOf_42 rfl).mpr ?_
      exact h
    · replace h := h.2 c
      refine (zq_iconst (v := 0) dX1_hasRestOf_37 (by decide)).mpr ?_
      exact (zq_iret dX1_hasRestOf_38 rfl).mpr ⟨Or.inl rfl, h⟩
theorem bX1_formOf_0 {a0 : Int} (h : ((a0 = 0 → Q (.inl (some (zE 23))) m) ∧ (a0 ≠ 0 → ((a0 = 1 → Q (.inl (some (zE 23))) m) ∧ (a0 ≠ 1 → ((a0 = 2 → Q (.inl (some (zE 24))) m) ∧ (a0 ≠ 2 → ((a0 = 3 → Q (.inl (some (zE 28))) m) ∧ (a0 ≠ 3 → ((a0 = 4 → Q (.inl (some (zE 28))) m) ∧ (a0 ≠ 4 → ((a0 = 5 → Q (.inl (some (zE 25))) m) ∧ (a0 ≠ 5 → ((a0 = 6 → Q (.inl (some (zE 28))) m) ∧ (a0 ≠ 6 → ((a0 = 7 → Q (.inl (some (zE 26))) m) ∧ (a0 ≠ 7 → ((a0 = 8 → Q (.inl (some (zE 27))) m) ∧ (a0 ≠ 8 → Q (.inl (some (zE 28))) m))))))))))))))))))) : zC xs xl (d + 1) 6 [zI a0] m Q := by
  refine zk_6 ?_
  refine (zq_iload_n dX1_formOf_0 rfl).mpr ?_
  refine (zq_tab (td := 70) (r := [52, 55, 58, 70, 70, 61, 70, 64, 67]) dX1_formOf_1 rfl rfl rfl).mpr ?_
  refine ⟨fun c => ?_, fun c => ?_⟩
  · replace h := h.1 c
    refine (zq_ldc dX1_formOf_52 ck_1_100).mpr ?_
    exact (zq_aretE dX1_formOf_54 rfl rfl).mpr h
  · replace h := h.2 c
    refine ⟨fun c => ?_, fun c => ?_⟩
    · replace h := h.1 c
      refine (zq_ldc dX1_formOf_55 ck_1_100).mpr ?_
      exact (zq_aretE dX1_formOf_57 rfl rfl).mpr h
    · replace h := h.2 c
      refine ⟨fun c => ?_, fun c => ?_⟩
      · replace h := h.1 c
        refine (zq_ldc dX1_formOf_58 ck_1_102).mpr ?_
        exact (zq_aretE dX1_formOf_60 rfl rfl).mpr h
      · replace h := h.2 c
        refine ⟨fun c => ?_, fun c => ?_⟩
        · replace h := h.1 c
          refine (zq_ldc dX1_formOf_70 ck_1_110).mpr ?_
          exact (zq_aretE dX1_formOf_72 rfl rfl).mpr h
        · replace h := h.2 c
          refine ⟨fun c => ?_, fun c => ?_⟩
          · replace h := h.1 c
            refine (zq_ldc dX1_formOf_70 ck_1_110).mpr ?_
            exact (zq_aretE dX1_formOf_72 rfl rfl).mpr h
          · replace h := h.2 c
            refine ⟨fun c => ?_, fun c => ?_⟩
            · replace h := h.1 c
              refine (zq_ldc dX1_formOf_61 ck_1_104).mpr ?_
              exact (zq_aretE dX1_formOf_63 rfl rfl).mpr h
            · replace h := h.2 c
              refine ⟨fun c => ?_, fun c => ?_⟩
              · replace h := h.1 c
                refine (zq_ldc dX1_formOf_70 ck_1_110).mpr ?_
                exact (zq_aretE dX1_formOf_72 rfl rfl).mpr h
              · replace h := h.2 c
                refine ⟨fun c => ?_, fun c => ?_⟩
                · replace h := h.1 c
                  refine (zq_ldc dX1_formOf_64 ck_1_106).mpr ?_
                  exact (zq_aretE dX1_formOf_66 rfl rfl).mpr h
                · replace h := h.2 c
                  refine ⟨fun c => ?_, fun c => ?_⟩
                  · replace h := h.1 c
                    refine (zq_ldc dX1_formOf_67 ck_1_108).mpr ?_
                    exact (zq_aretE dX1_formOf_69 rfl rfl).mpr h
                  · replace h := h.2 c
                    refine (zq_ldc dX1_formOf_70 ck_1_110).mpr ?_
                    exact (zq_aretE dX1_formOf_72 rfl rfl).mpr h
theorem bX1_goThrough_0 {a0 : Nat} {a1 : Nat} (h : (mC m a0 = 2) ∧ (mC m (mR m 65 a0) = 6) ∧ zC xs xl d 47 [zR (mR m 65 a0), zI 0] (sI (sI (sI (sI m 70 a0 0) 71 a0 0) 72 a0 0) 73 a0 0) (fun r m2 => r = .inl none ∧ zW xs xl d cX1_goThrough 1 (some .int) false [] 30 [zR a0, zR a1, zI 0, zU] [] m2 Q)) : zC xs xl (d + 1) 7 [zR a0, zR a1] m Q := by
  refine zk_7 ?_
  refine (zq_aload_n dX1_goThrough_0 rfl).mpr ?_
  refine (zq_iconst (v := 0) dX1_goThrough_1 (by decide)).mpr ?_
  obtain ⟨g1, h⟩ := h
  refine (zq_putI (f := 70) dX1_goThrough_2 fl_1_24 (by decide) rfl rfl rfl).mpr ⟨g1, ?_⟩
  refine (zq_aload_n dX1_goThrough_5 rfl).mpr ?_
  refine (zq_iconst (v := 0) dX1_goThrough_6 (by decide)).mpr ?_
  refine (zq_putI (f := 71) dX1_goThrough_7 fl_1_28 (by decide) rfl rfl rfl).mpr ⟨g1, ?_⟩
  refine (zq_aload_n dX1_goThrough_10 rfl).mpr ?_
  refine (zq_iconst (v := 0) dX1_goThrough_11 (by decide)).mpr ?_
  refine (zq_putZ (f := 72) dX1_goThrough_12 fl_1_31 (by decide) rfl rfl rfl).mpr ⟨⟨g1, (by decide)⟩, ?_⟩
  refine (zq_aload_n dX1_goThrough_15 rfl).mpr ?_
  refine (zq_iconst (v := 0) dX1_goThrough_16 (by decide)).mpr ?_
  refine (zq_putZ (f := 73) dX1_goThrough_17 fl_1_35 (by decide) rfl rfl rfl).mpr ⟨⟨g1, (by decide)⟩, ?_⟩
  refine (zq_aload_n dX1_goThrough_20 rfl).mpr ?_
  refine (zq_getR2 (f := 65) (v := (mR m 65 a0)) dX1_goThrough_21 fl_1_50 (by decide) rfl rfl (by first | rfl | simp only [zm_Is, zm_Rs, zm_As, zm_Os, zm_In0, zm_Rn0])).mpr ⟨g1, ?_⟩
  refine (zq_iconst (v := 0) dX1_goThrough_24 (by decide)).mpr ?_
  obtain ⟨g4, h⟩ := h
  refine zq_virtualV (n := 1) dX1_goThrough_25 mr_1_65 zn_47 rfl rfl rfl (zrcv_R zo_47 (by decide) g4) (Nat.le_of_ble_eq_true rfl) ?_
  refine h.mono (fun r m2 h => ?_)
  obtain ⟨rfl, h⟩ := h
  refine ⟨rfl, ?_⟩
  refine (zq_iconst (v := 0) dX1_goThrough_28 (by decide)).mpr ?_
  refine (zq_istore_n (l := [zR a0, zR a1, zI 0, zU]) dX1_goThrough_29 (Nat.le_of_ble_eq_true rfl) rfl).mpr ?_
  exact h
theorem bX1_goThrough_30 {a0 : Nat} {a1 : Nat} {a2 : Int} {a3 : zV} (h : ((1000000 ≤ a2 → (mC m a0 = 2) ∧ (mC m (mR m 65 a0) = 6) ∧ zC xs xl d 2 [zR a0, zI 4, zI (mI m 323 (mR m 65 a0))] m (fun r m3 => ∃ v4 : Int, r = .inl (some (zI v4)) ∧ Q (.inl (some (zI v4))) m3)) ∧ (¬ (1000000 ≤ a2) → (mC m a0 = 2) ∧ (mC m (mR m 65 a0) = 6) ∧ zC xs xl d 48 [zR (mR m 65 a0)] m (fun r m6 => r = .inl none ∧ (mC m6 a0 = 2) ∧ (mC m6 (mR m6 65 a0) = 6) ∧ (((mI m6 322 (mR m6 65 a0)) ≠ 46 → (((mI m6 322 (mR m6 65 a0)) ≠ 125 → zC xs xl d 8 [zR a0, zR a1] m6 (fun r m11 => ∃ v12 : Int, r = .inl (some (zI v12)) ∧ ((v12 = 0 → zW xs xl d cX1_goThrough 1 (some .int) false [] 30 [zR a0, zR a1, zI (wr (a2 + 1)), zI v12] [] m11 Q) ∧ (¬ (v12 = 0) → Q (.inl (some (zI v12))) m11)))) ∧ (¬ ((mI m6 322 (mR m6 65 a0)) ≠ 125) → zC xs xl d 16 [zR a0] m6 (fun r m13 => r = .inl none ∧ zW xs xl d cX1_goThrough 1 (some .int) false [] 30 [zR a0, zR a1, zI (wr (a2 + 1)), a3] [] m13 Q)))) ∧ (¬ ((mI m6 322 (mR m6 65 a0)) ≠ 46) → (((mI m6 72 a0) ≠ 0 → (mC m6 (mR m6 64 a0) = 9) ∧ zC xs xl d 2 [zR a0, zI 3, zI (mI m6 513 (mR m6 64 a0))] m6 (fun r m16 => ∃ v17 : Int, r = .inl (some (zI v17)) ∧ Q (.inl (some (zI v17))) m16)) ∧ (¬ ((mI m6 72 a0) ≠ 0) → (((mI m6 71 a0) = 0 → Q (.inl (some (zI 0))) m6) ∧ (¬ ((mI m6 71 a0) = 0) → (mC m6 (mR m6 64 a0) = 9) ∧ zC xs xl d 2 [zR a0, zI 3, zI (mI m6 513 (mR m6 64 a0))] m6 (fun r m19 => ∃ v20 : Int, r = .inl (some (zI v20)) ∧ Q (.inl (some (zI v20))) m19))))))))))) : zW xs xl d cX1_goThrough 1 (some .int) false [] 30 [zR a0, zR a1, zI a2, a3] [] m Q := by
  refine (zq_iload_n dX1_goThrough_30 rfl).mpr ?_
  refine (zq_ldc dX1_goThrough_31 ck_1_112).mpr ?_
  refine (zq_icmp_ge (t := 123) dX1_goThrough_33 rfl).mpr ⟨fun c => ?_, fun c => ?_⟩
  · replace h := h.1 c
    refine (zq_aload_n dX1_goThrough_123 rfl).mpr ?_
    refine (zq_iconst (v := 4) dX1_goThrough_124 (by decide)).mpr ?_
    refine (zq_aload_n dX1_goThrough_125 rfl).mpr ?_
    obtain ⟨g1, h⟩ := h
    refine (zq_getR2 (f := 65) (v := (mR m 65 a0)) dX1_goThrough_126 fl_1_50 (by decide) rfl rfl (by first | rfl | simp only [zm_Is, zm_Rs, zm_As, zm_Os, zm_In0, zm_Rn0])).mpr ⟨g1, ?_⟩
    obtain ⟨g2, h⟩ := h
    refine (zq_getI2 (f := 323) (v := (mI m 323 (mR m 65 a0))) dX1_goThrough_129 fl_1_58 (by decide) rfl rfl (by first | rfl | simp only [zm_Is, zm_Rs, zm_As, zm_Os, zm_In0, zm_Rn0])).mpr ⟨g2, ?_⟩
    refine zq_virtualI (n := 2) dX1_goThrough_132 mr_1_61 zn_2 rfl rfl rfl (zrcv_R zo_2 (by decide) g1) (Nat.le_of_ble_eq_true rfl) ?_
    refine h.mono (fun r m3 h => ?_)
    obtain ⟨v4, rfl, h⟩ := h
    refine ⟨_, rfl, ?_⟩
    exact (zq_iret dX1_goThrough_135 rfl).mpr ⟨trivial, h⟩
  · replace h := h.2 c
    refine (zq_aload_n dX1_goThrough_36 rfl).mpr ?_
    obtain ⟨g5, h⟩ := h
    refine (zq_getR2 (f := 65) (v := (mR m 65 a0)) dX1_goThrough_37 fl_1_50 (by decide) rfl rfl (by first | rfl | simp only [zm_Is, zm_Rs, zm_As, zm_Os, zm_In0, zm_Rn0])).mpr ⟨g5, ?_⟩
    obtain ⟨g8, h⟩ := h
    refine zq_virtualV (n := 0) dX1_goThrough_40 mr_1_74 zn_48 rfl rfl rfl (zrcv_R zo_48 (by decide) g8) (Nat.le_of_ble_eq_true rfl) ?_
    refine h.mono (fun r m6 h => ?_)
    obtain ⟨rfl, h⟩ := h
    refine ⟨rfl, ?_⟩
    refine (zq_aload_n dX1_goThrough_43 rfl).mpr ?_
    obtain ⟨g9, h⟩ := h
    refine (zq_getR2 (f := 65) (v := (mR m6 65 a0)) dX1_goThrough_44 fl_1_50 (by decide) rfl rfl (by first | rfl | simp only [zm_Is, zm_Rs, zm_As, zm_Os, zm_In0, zm_Rn0])).mpr ⟨g9, ?_⟩
    obtain ⟨g10, h⟩ := h
    refine (zq_getI2 (f := 322) (v := (mI m6 322 (mR m6 65 a0))) dX1_goThrough_47 fl_1_77 (by decide) rfl rfl (by first | rfl | simp only [zm_Is, zm_Rs, zm_As, zm_Os, zm_In0, zm_Rn0])).mpr ⟨g10, ?_⟩
    refine (zq_bipush (v := 46) dX1_goThrough_50 (by decide)).mpr ?_
    refine (zq_icmp_ne (t := 86) dX1_goThrough_52 rfl).mpr ⟨fun c => ?_, fun c => ?_⟩
    · replace h := h.1 c
      refine (zq_aload_n dX1_goThrough_86 rfl).mpr ?_
      refine (zq_getR2 (f := 65) (v := (mR m6 65 a0)) dX1_goThrough_87 fl_1_50 (by decide) rfl rfl (by first | rfl | simp only [zm_Is, zm_Rs, zm_As, zm_Os, zm_In0, zm_Rn0])).mpr ⟨g9, ?_⟩
      refine (zq_getI2 (f := 322) (v := (mI m6 322 (mR m6 65 a0))) dX1_goThrough_90 fl_1_77 (by decide) rfl rfl (by first | rfl | simp only [zm_Is, zm_Rs, zm_As, zm_Os, zm_In0, zm_Rn0])).mpr ⟨g10, ?_⟩
      refine (zq_bipush (v := 125) dX1_goThrough_93 (by decide)).mpr ?_
      refine (zq_icmp_ne (t := 105) dX1_goThrough_95 rfl).mpr ⟨fun c => ?_, fun c => ?_⟩
      · replace h := h.1 c
        refine (zq_aload_n dX1_goThrough_105 rfl).mpr ?_
        refine (zq_aload_n dX1_goThrough_106 rfl).mpr ?_
        refine zq_virtualI (n := 1) dX1_goThrough_107 mr_1_116 zn_8 rfl rfl rfl (zrcv_R zo_8 (by decide) g9) (Nat.le_of_ble_eq_true rfl) ?_
        refine h.mono (fun r m11 h => ?_)
        obtain ⟨v12, rfl, h⟩ := h
        refine ⟨_, rfl, ?_⟩
        refine (zq_istore_n (l := [zR a0, zR a1, zI a2, zI v12]) dX1_goThrough_110 (Nat.le_of_ble_eq_true rfl) rfl).mpr ?_
        refine (zq_iload_n dX1_goThrough_111 rfl).mpr ?_
        refine (zq_if_eq (t := 117) dX1_goThrough_112 rfl).mpr ⟨fun c => ?_, fun c => ?_⟩
        · replace h := h.1 c
          refine (zq_iinc (l := [zR a0, zR a1, zI (wr (a2 + 1)), zI v12]) dX1_goThrough_117 rfl rfl).mpr ?_
          refine (zq_goto (t := 30) dX1_goThrough_120 rfl).mpr ?_
          exact h
        · replace h := h.2 c
          refine (zq_iload_n dX1_goThrough_115 rfl).mpr ?_
          exact (zq_iret dX1_goThrough_116 rfl).mpr ⟨trivial, h⟩
      · replace h := h.2 c
        refine (zq_aload_n dX1_goThrough_98 rfl).mpr ?_
        refine zq_virtualV (n := 0) dX1_goThrough_99 mr_1_113 zn_16 rfl rfl rfl (zrcv_R zo_16 (by decide) g9) (Nat.le_of_ble_eq_true rfl) ?_
        refine h.mono (fun r m13 h => ?_)
        obtain ⟨rfl, h⟩ := h
        refine ⟨rfl, ?_⟩
        refine (zq_goto (t := 117) dX1_goThrough_102 rfl).mpr ?_
        refine (zq_iinc (l := [zR a0, zR a1, zI (wr (a2 + 1)), a3]) dX1_goThrough_117 rfl rfl).mpr ?_
        refine (zq_goto (t := 30) dX1_goThrough_120 rfl).mpr ?_
        exact h
    · replace h := h.2 c
      refine (zq_aload_n dX1_goThrough_55 rfl).mpr ?_
      refine (zq_getI2 (f := 72) (v := (mI m6 72 a0)) dX1_goThrough_56 fl_1_31 (by decide) rfl rfl (by first | rfl | simp only [zm_Is, zm_Rs, zm_As, zm_Os, zm_In0, zm_Rn0])).mpr ⟨g9, ?_⟩
      refine (zq_if_ne (t := 69) dX1_goThrough_59 rfl).mpr ⟨fun c => ?_, fun c => ?_⟩
      · replace h := h.1 c
        refine (zq_aload_n dX1_goThrough_69 rfl).mpr ?_
        refine (zq_iconst (v := 3) dX1_goThrough_70 (by decide)).mpr ?_
        refine (zq_aload_n dX1_goThrough_71 rfl).mpr ?_
        refine (zq_getR2 (f := 64) (v := (mR m6 64 a0)) dX1_goThrough_72 fl_1_41 (by decide) rfl rfl (by first | rfl | simp only [zm_Is, zm_Rs, zm_As, zm_Os, zm_In0, zm_Rn0])).mpr ⟨g9, ?_⟩
        obtain ⟨g15, h⟩ := h
        refine (zq_getI2 (f := 513) (v := (mI m6 513 (mR m6 64 a0))) dX1_goThrough_75 fl_1_69 (by decide) rfl rfl (by first | rfl | simp only [zm_Is, zm_Rs, zm_As, zm_Os, zm_In0, zm_Rn0])).mpr ⟨g15, ?_⟩
        refine zq_virtualI (n := 2) dX1_goThrough_78 mr_1_61 zn_2 rfl rfl rfl (zrcv_R zo_2 (by decide) g9) (Nat.le_of_ble_eq_true rfl) ?_
        refine h.mono (fun r m16 h => ?_)
        obtain ⟨v17, rfl, h⟩ := h
        refine ⟨_, rfl, ?_⟩
        refine (zq_goto (t := 85) dX1_goThrough_81 rfl).mpr ?_
        exact (zq_iret dX1_goThrough_85 rfl).mpr ⟨trivial, h⟩
      · replace h := h.2 c
        refine (zq_aload_n dX1_goThrough_62 rfl).mpr ?_
        refine (zq_getI2 (f := 71) (v := (mI m6 71 a0)) dX1_goThrough_63 fl_1_28 (by decide) rfl rfl (by first | rfl | simp only [zm_Is, zm_Rs, zm_As, zm_Os, zm_In0, zm_Rn0])).mpr ⟨g9, ?_⟩
        refine (zq_if_eq (t := 84) dX1_goThrough_66 rfl).mpr ⟨fun c => ?_, fun c => ?_⟩
        · replace h := h.1 c
          refine (zq_iconst (v := 0) dX1_goThrough_84 (by decide)).mpr ?_
          exact (zq_iret dX1_goThrough_85 rfl).mpr ⟨trivial, h⟩
        · replace h := h.2 c
          refine (zq_aload_n dX1_goThrough_69 rfl).mpr ?_
          refine (zq_iconst (v := 3) dX1_goThrough_70 (by decide)).mpr ?_
          refine (zq_aload_n dX1_goThrough_71 rfl).mpr ?_
          refine (zq_getR2 (f := 64) (v := (mR m6 64 a0)) dX1_goThrough_72 fl_1_41 (by decide) rfl rfl (by first | rfl | simp only [zm_Is, zm_Rs, zm_As, zm_Os, zm_In0, zm_Rn0])).mpr ⟨g9, ?_⟩
          obtain ⟨g18, h⟩ := h
          refine (zq_getI2 (f := 513) (v := (mI m6 513 (mR m6 64 a0))) dX1_goThrough_75 fl_1_69 (by decide) rfl rfl (by first | rfl | simp only [zm_Is, zm_Rs, zm_As, zm_Os, zm_In0, zm_Rn0])).mpr ⟨g18, ?_⟩
          refine zq_virtualI (n := 2) dX1_goThrough_78 mr_1_61 zn_2 rfl rfl rfl (zrcv_R zo_2 (by decide) g9) (Nat.le_of_ble_eq_true rfl) ?_
          refine h.mono (fun r m19 h => ?_)
          obtain ⟨v20, rfl, h⟩ := h
          refine ⟨_, rfl, ?_⟩
          refine (zq_goto (t := 85) dX1_goThrough_81 rfl).mpr ?_
          exact (zq_iret dX1_goThrough_85 rfl).mpr ⟨trivial, h⟩
theorem bX1_doStep_0 {a0 : Nat} {a1 : Nat} (h : (mC m a0 = 2) ∧ (mC m (mR m 65 a0) = 6) ∧ zC xs xl d 9 [zR a0, zI (mI m 324 (mR m 65 a0))] m (fun r m3 => r = .inl none ∧ (mC m3 a0 = 2) ∧ zC xs xl d 10 [zR a0, zI (mI m 324 (mR m 65 a0)), zR a1] m3 (fun r m5 => ∃ v6 : Int, r = .inl (some (zI v6)) ∧ ((v6 = 0 → (mC m5 a0 = 2) ∧ zC xs xl d 12 [zR a0, zI (mI m 324 (mR m 65 a0))] m5 (fun r m8 => ∃ v9 : Int, r = .inl (some (zI v9)) ∧ ((v9 < 0 → (((mI m 324 (mR m 65 a0)) ≠ 8 → (mC m8 a0 = 2) ∧ zC xs xl d 14 [zR a0, zI (mI m 324 (mR m 65 a0))] m8 (fun r m11 => r = .inl none ∧ (∀ m14 : zM, m14 = nwO m11 0 4 → (mC m14 a0 = 2) ∧ (mC m14 (mR m14 68 a0) = 20) ∧ ((0 : Int) < mN m14 (mR m14 68 a0)) ∧ ((1 : Int) < mN m14 (mR m14 68 a0)) ∧ ((2 : Int) < mN m14 (mR m14 68 a0)) ∧ ((mz m11) ≠ 0) ∧ zC xs xl d 0 [zR (mz m11), zI (mI m 324 (mR m 65 a0)), zI (mA m14 (mR m14 68 a0) 0), zI (mA m14 (mR m14 68 a0) 1), zI (mA m14 (mR m14 68 a0) 2)] m14 (fun r m20 => r = .inl none ∧ (mC m20 a1 = 4) ∧ zC xs xl d 32 [zR a1, zR (mz m11)] m20 (fun r m23 => r = .inl none ∧ Q (.inl (some (zI 0))) m23))))) ∧ (¬ ((mI m 324 (mR m 65 a0)) ≠ 8) → (mC m8 a0 = 2) ∧ zC xs xl d 15 [zR a0] m8 (fun r m26 => r = .inl none ∧ Q (.inl (some (zI 0))) m26)))) ∧ (¬ (v9 < 0) → (mC m8 a0 = 2) ∧ (mC m8 (mR m8 69 a0) = 20) ∧ (0 ≤ v9 ∧ v9 < mN m8 (mR m8 69 a0)) ∧ zC xs xl d 2 [zR a0, zI 2, zI (mA m8 (mR m8 69 a0) (Int.toNat v9))] m8 (fun r m32 => ∃ v33 : Int, r = .inl (some (zI v33)) ∧ Q (.inl (some (zI v33))) m32))))) ∧ (¬ (v6 = 0) → (mC m5 a0 = 2) ∧ zC xs xl d 2 [zR a0, zI v6, zI (mI m 323 (mR m 65 a0))] m5 (fun r m34 => ∃ v35 : Int, r = .inl (some (zI v35)) ∧ Q (.inl (some (zI v35))) m34)))))) : zC xs xl (d + 1) 8 [zR a0, zR a1] m Q := by
  refine zk_8 ?_
  refine (zq_aload_n dX1_doStep_0 rfl).mpr ?_
  obtain ⟨g1, h⟩ := h
  refine (zq_getR2 (f := 65) (v := (mR m 65 a0)) dX1_doStep_1 fl_1_50 (by decide) rfl rfl (by first | rfl | simp only [zm_Is, zm_Rs, zm_As, zm_Os, zm_In0, zm_Rn0])).mpr ⟨g1, ?_⟩
  obtain ⟨g2, h⟩ := h
  refine (zq_getI2 (f := 324) (v := (mI m 324 (mR m 65 a0))) dX1_doStep_4 fl_1_80 (by decide) rfl rfl (by first | rfl | simp only [zm_Is, zm_Rs, zm_As, zm_Os, zm_In0, zm_Rn0])).mpr ⟨g2, ?_⟩
  refine (zq_istore_n (l := [zR a0, zR a1, zI (mI m 324 (mR m 65 a0)), zU, zU, zU]) dX1_doStep_7 (Nat.le_of_ble_eq_true rfl) rfl).mpr ?_
  refine (zq_aload_n dX1_doStep_8 rfl).mpr ?_
  refine (zq_getR2 (f := 65) (v := (mR m 65 a0)) dX1_doStep_9 fl_1_50 (by decide) rfl rfl (by first | rfl | simp only [zm_Is, zm_Rs, zm_As, zm_Os, zm_In0, zm_Rn0])).mpr ⟨g1, ?_⟩
  refine (zq_getI2 (f := 323) (v := (mI m 323 (mR m 65 a0))) dX1_doStep_12 fl_1_58 (by decide) rfl rfl (by first | rfl | simp only [zm_Is, zm_Rs, zm_As, zm_Os, zm_In0, zm_Rn0])).mpr ⟨g2, ?_⟩
  refine (zq_istore_n (l := [zR a0, zR a1, zI (mI m 324 (mR m 65 a0)), zI (mI m 323 (mR m 65 a0)), zU, zU]) dX1_doStep_15 (Nat.le_of_ble_eq_true rfl) rfl).mpr ?_
  refine (zq_aload_n dX1_doStep_16 rfl).mpr ?_
  refine (zq_iload_n dX1_doStep_17 rfl).mpr ?_
  refine zq_virtualV (n := 1) dX1_doStep_18 mr_1_120 zn_9 rfl rfl rfl (zrcv_R zo_9 (by decide) g1) (Nat.le_of_ble_eq_true rfl) ?_
  refine h.mono (fun r m3 h => ?_)
  obtain ⟨rfl, h⟩ := h
  refine ⟨rfl, ?_⟩
  refine (zq_aload_n dX1_doStep_21 rfl).mpr ?_
  refine (zq_iload_n dX1_doStep_22 rfl).mpr ?_
  refine (zq_aload_n dX1_doStep_23 rfl).mpr ?_
  obtain ⟨g7, h⟩ := h
  refine zq_virtualI (n := 2) dX1_doStep_24 mr_1_123 zn_10 rfl rfl rfl (zrcv_R zo_10 (by decide) g7) (Nat.le_of_ble_eq_true rfl) ?_
  refine h.mono (fun r m5 h => ?_)
  obtain ⟨v6, rfl, h⟩ := h
  refine ⟨_, rfl, ?_⟩
  refine (zq_istore (l := [zR a0, zR a1, zI (mI m 324 (mR m 65 a0)), zI (mI m 323 (mR m 65 a0)), zI v6, zU]) dX1_doStep_27 (Nat.le_of_ble_eq_true rfl) rfl).mpr ?_
  refine (zq_iload dX1_doStep_29 rfl).mpr ?_
  refine (zq_if_eq (t := 42) dX1_doStep_31 rfl).mpr ⟨fun c => ?_, fun c => ?_⟩
  · replace h := h.1 c
    refine (zq_aload_n dX1_doStep_42 rfl).mpr ?_
    refine (zq_iload_n dX1_doStep_43 rfl).mpr ?_
    obtain ⟨g10, h⟩ := h
    refine zq_virtualI (n := 1) dX1_doStep_44 mr_1_127 zn_12 rfl rfl rfl (zrcv_R zo_12 (by decide) g10) (Nat.le_of_ble_eq_true rfl) ?_
    refine h.mono (fun r m8 h => ?_)
    obtain ⟨v9, rfl, h⟩ := h
    refine ⟨_, rfl, ?_⟩
    refine (zq_istore (l := [zR a0, zR a1, zI (mI m 324 (mR m 65 a0)), zI (mI m 323 (mR m 65 a0)), zI v6, zI v9]) dX1_doStep_47 (Nat.le_of_ble_eq_true rfl) rfl).mpr ?_
    refine (zq_iload dX1_doStep_49 rfl).mpr ?_
    refine (zq_if_lt (t := 67) dX1_doStep_51 rfl).mpr ⟨fun c => ?_, fun c => ?_⟩
    · replace h := h.1 c
      refine (zq_iload_n dX1_doStep_67 rfl).mpr ?_
      refine (zq_bipush (v := 8) dX1_doStep_68 (by decide)).mpr ?_
      refine (zq_icmp_ne (t := 80) dX1_doStep_70 rfl).mpr ⟨fun c => ?_, fun c => ?_⟩
      · replace h := h.1 c
        refine (zq_aload_n dX1_doStep_80 rfl).mpr ?_
        refine (zq_iload_n dX1_doStep_81 rfl).mpr ?_
        obtain ⟨g13, h⟩ := h
        refine zq_virtualV (n := 1) dX1_doStep_82 mr_1_134 zn_14 rfl rfl rfl (zrcv_R zo_14 (by decide) g13) (Nat.le_of_ble_eq_true rfl) ?_
        refine h.mono (fun r m11 h => ?_)
        obtain ⟨rfl, h⟩ := h
        refine ⟨rfl, ?_⟩
        refine (zq_aload_n dX1_doStep_85 rfl).mpr ?_
        refine zq_new2 dX1_doStep_86 nw_1_137 rfl (fun m14 em14 => ?_)
        replace h := h m14 em14
        refine (zq_dupR dX1_doStep_89).mpr ?_
        refine (zq_iload_n dX1_doStep_90 rfl).mpr ?_
        refine (zq_aload_n dX1_doStep_91 rfl).mpr ?_
        obtain ⟨g15, h⟩ := h
        refine (zq_getR2 (f := 68) (v := (mR m14 68 a0)) dX1_doStep_92 fl_1_18 (by decide) rfl rfl (by first | rfl | simp only [zm_Is, zm_Rs, zm_As, zm_Os, zm_In0, zm_Rn0])).mpr ⟨g15, ?_⟩
        refine (zq_iconst (v := 0) dX1_doStep_95 (by decide)).mpr ?_
        obtain ⟨g16, h⟩ := h
        obtain ⟨g17, h⟩ := h
        refine (zq_iald2 (v := (mA m14 (mR m14 68 a0) 0)) dX1_doStep_96 (by first | rfl | simp only [zm_Is, zm_Rs, zm_As, zm_Os, zm_In0, zm_Rn0])).mpr ⟨⟨g16, ⟨by decide, g17⟩⟩, ?_⟩
        refine (zq_aload_n dX1_doStep_97 rfl).mpr ?_
        refine (zq_getR2 (f := 68) (v := (mR m14 68 a0)) dX1_doStep_98 fl_1_18 (by decide) rfl rfl (by first | rfl | simp only [zm_Is, zm_Rs, zm_As, zm_Os, zm_In0, zm_Rn0])).mpr ⟨g15, ?_⟩
        refine (zq_iconst (v := 1) dX1_doStep_101 (by decide)).mpr ?_
        obtain ⟨g18, h⟩ := h
        refine (zq_iald2 (v := (mA m14 (mR m14 68 a0) 1)) dX1_doStep_102 (by first | rfl | simp only [zm_Is, zm_Rs, zm_As, zm_Os, zm_In0, zm_Rn0])).mpr ⟨⟨g16, ⟨by decide, g18⟩⟩, ?_⟩
        refine (zq_aload_n dX1_doStep_103 rfl).mpr ?_
        refine (zq_getR2 (f := 68) (v := (mR m14 68 a0)) dX1_doStep_104 fl_1_18 (by decide) rfl rfl (by first | rfl | simp only [zm_Is, zm_Rs, zm_As, zm_Os, zm_In0, zm_Rn0])).mpr ⟨g15, ?_⟩
        refine (zq_iconst (v := 2) dX1_doStep_107 (by decide)).mpr ?_
        obtain ⟨g19, h⟩ := h
        refine (zq_iald2 (v := (mA m14 (mR m14 68 a0) 2)) dX1_doStep_108 (by first | rfl | simp only [zm_Is, zm_Rs, zm_As, zm_Os, zm_In0, zm_Rn0])).mpr ⟨⟨g16, ⟨by decide, g19⟩⟩, ?_⟩
        obtain ⟨g22, h⟩ := h
        refine zq_special2 (n := 4) dX1_doStep_109 mr_1_139 zn_0 rfl rfl g22 (Nat.le_of_ble_eq_true rfl) ?_
        refine h.mono (fun r m20 h => ?_)
        obtain ⟨rfl, h⟩ := h
        refine ⟨rfl, ?_⟩
        obtain ⟨g25, h⟩ := h
        refine zq_virtualV (n := 1) dX1_doStep_112 mr_1_142 zn_32 rfl rfl rfl (zrcv_R zo_32 (by decide) g25) (Nat.le_of_ble_eq_true rfl) ?_
        refine h.mono (fun r m23 h => ?_)
        obtain ⟨rfl, h⟩ := h
        refine ⟨rfl, ?_⟩
        refine (zq_iconst (v := 0) dX1_doStep_115 (by decide)).mpr ?_
        exact (zq_iret dX1_doStep_116 rfl).mpr ⟨trivial, h⟩
      · replace h := h.2 c
        refine (zq_aload_n dX1_doStep_73 rfl).mpr ?_
        obtain ⟨g28, h⟩ := h
        refine zq_virtualV (n := 0) dX1_doStep_74 mr_1_131 zn_15 rfl rfl rfl (zrcv_R zo_15 (by decide) g28) (Nat.le_of_ble_eq_true rfl) ?_
        refine h.mono (fun r m26 h => ?_)
        obtain ⟨rfl, h⟩ := h
        refine ⟨rfl, ?_⟩
        refine (zq_goto (t := 115) dX1_doStep_77 rfl).mpr ?_
        refine (zq_iconst (v := 0) dX1_doStep_115 (by decide)).mpr ?_
        exact (zq_iret dX1_doStep_116 rfl).mpr ⟨trivial, h⟩
    · replace h := h.2 c
      refine (zq_aload_n dX1_doStep_54 rfl).mpr ?_
      refine (zq_iconst (v := 2) dX1_doStep_55 (by decide)).mpr ?_
      refine (zq_aload_n dX1_doStep_56 rfl).mpr ?_
      obtain ⟨g29, h⟩ := h
      refine (zq_getR2 (f := 69) (v := (mR m8 69 a0)) dX1_doStep_57 fl_1_21 (by decide) rfl rfl (by first | rfl | simp only [zm_Is, zm_Rs, zm_As, zm_Os, zm_In0, zm_Rn0])).mpr ⟨g29, ?_⟩
      refine (zq_iload dX1_doStep_60 rfl).mpr ?_
      obtain ⟨g30, h⟩ := h
      obtain ⟨g31, h⟩ := h
      refine (zq_iald2 (v := (mA m8 (mR m8 69 a0) (Int.toNat v9))) dX1_doStep_62 (by first | rfl | simp only [zm_Is, zm_Rs, zm_As, zm_Os, zm_In0, zm_Rn0])).mpr ⟨⟨g30, g31⟩, ?_⟩
      refine zq_virtualI (n := 2) dX1_doStep_63 mr_1_61 zn_2 rfl rfl rfl (zrcv_R zo_2 (by decide) g29) (Nat.le_of_ble_eq_true rfl) ?_
      refine h.mono (fun r m32 h => ?_)
      obtain ⟨v33, rfl, h⟩ := h
      refine ⟨_, rfl, ?_⟩
      exact (zq_iret dX1_doStep_66 rfl).mpr ⟨trivial, h⟩
  · replace h := h.2 c
    refine (zq_aload_n dX1_doStep_34 rfl).mpr ?_
    refine (zq_iload dX1_doStep_35 rfl).mpr ?_
    refine (zq_iload_n dX1_doStep_37 rfl).mpr ?_
    obtain ⟨g36, h⟩ := h
    refine zq_virtualI (n := 2) dX1_doStep_38 mr_1_61 zn_2 rfl rfl rfl (zrcv_R zo_2 (by decide) g36) (Nat.le_of_ble_eq_true rfl) ?_
    refine h.mono (fun r m34 h => ?_)
    obtain ⟨v35, rfl, h⟩ := h
    refine ⟨_, rfl, ?_⟩
    exact (zq_iret dX1_doStep_41 rfl).mpr ⟨trivial, h⟩
theorem bX1_readValues_0 {a0 : Nat} {a1 : Int} (h : zC xs xl d 6 [zI a1] m (fun r m1 => ∃ v2 : Nat, r = .inl (some (zE v2)) ∧ (20 ≤ v2 ∧ v2 < 50) ∧ zC xs xl d 209 [zE v2] m1 (fun r m3 => ∃ v4 : Int, r = .inl (some (zI v4)) ∧ (mC m3 a0 = 2) ∧ zC xs xl d 221 [zR (mR m3 68 a0), zI 0] m3 (fun r m7 => r = .inl none ∧ zW xs xl d cX1_readValues 1 (none) false [] 18 [zR a0, zI a1, zI v4, zI 0] [] m7 Q)))) : zC xs xl (d + 1) 9 [zR a0, zI a1] m Q := by
  refine zk_9 ?_
  refine (zq_iload_n dX1_readValues_0 rfl).mpr ?_
  refine zq_staticE (n := 1) dX1_readValues_1 mr_1_87 zn_6 rfl rfl (Nat.le_of_ble_eq_true rfl) (Nat.le_of_ble_eq_true rfl) ?_
  refine h.mono (fun r m1 h => ?_)
  obtain ⟨v2, rfl, h⟩ := h
  refine ⟨_, rfl, ?_⟩
  obtain ⟨g5, h⟩ := h
  refine zq_virtualI (n := 0) dX1_readValues_4 mr_1_91 zn_209 rfl rfl rfl (zrcv_E zo_209 g5) (Nat.le_of_ble_eq_true rfl) ?_
  refine h.mono (fun r m3 h => ?_)
  obtain ⟨v4, rfl, h⟩ := h
  refine ⟨_, rfl, ?_⟩
  refine (zq_istore_n (l := [zR a0, zI a1, zI v4, zU]) dX1_readValues_7 (Nat.le_of_ble_eq_true rfl) rfl).mpr ?_
  refine (zq_aload_n dX1_readValues_8 rfl).mpr ?_
  obtain ⟨g6, h⟩ := h
  refine (zq_getR2 (f := 68) (v := (mR m3 68 a0)) dX1_readValues_9 fl_1_18 (by decide) rfl rfl (by first | rfl | simp only [zm_Is, zm_Rs, zm_As, zm_Os, zm_In0, zm_Rn0])).mpr ⟨g6, ?_⟩
  refine (zq_iconst (v := 0) dX1_readValues_12 (by decide)).mpr ?_
  refine zq_staticV (n := 2) dX1_readValues_13 mr_1_148 zn_221 rfl rfl (Nat.le_of_ble_eq_true rfl) (Nat.le_of_ble_eq_true rfl) ?_
  refine h.mono (fun r m7 h => ?_)
  obtain ⟨rfl, h⟩ := h
  refine ⟨rfl, ?_⟩
  refine (zq_iconst (v := 0) dX1_readValues_16 (by decide)).mpr ?_
  refine (zq_istore_n (l := [zR a0, zI a1, zI v4, zI 0]) dX1_readValues_17 (Nat.le_of_ble_eq_true rfl) rfl).mpr ?_
  exact h
theorem bX1_readValues_18 {a0 : Nat} {a1 : Int} {a2 : Int} {a3 : Int} (h : ((a2 ≤ a3 → Q (.inl none) m) ∧ (¬ (a2 ≤ a3) → (mC m a0 = 2) ∧ (mC m (mR m 65 a0) = 6) ∧ zC xs xl d 48 [zR (mR m 65 a0)] m (fun r m2 => r = .inl none ∧ ((3 ≤ a3 → zW xs xl d cX1_readValues 1 (none) false [] 18 [zR a0, zI a1, zI a2, zI (wr (a3 + 1))] [] m2 Q) ∧ (¬ (3 ≤ a3) → (mC m2 a0 = 2) ∧ (mC m2 (mR m2 65 a0) = 6) ∧ (0 ≤ a3 ∧ a3 < mN m2 (mR m2 68 a0)) ∧ (mC m2 (mR m2 68 a0) = 20) ∧ (0 ≤ a3 ∧ a3 < mN m2 (mR m2 69 a0)) ∧ (mC m2 (mR m2 69 a0) = 20) ∧ zW xs xl d cX1_readValues 1 (none) false [] 18 [zR a0, zI a1, zI a2, zI (wr (a3 + 1))] [] (sA (sA m2 (mR m2 68 a0) (Int.toNat a3) (mI m2 324 (mR m2 65 a0))) (mR m2 69 a0) (Int.toNat a3) (mI m2 323 (mR m2 65 a0))) Q)))))) : zW xs xl d cX1_readValues 1 (none) false [] 18 [zR a0, zI a1, zI a2, zI a3] [] m Q := by
  refine (zq_iload_n dX1_readValues_18 rfl).mpr ?_
  refine (zq_iload_n dX1_readValues_19 rfl).mpr ?_
  refine (zq_icmp_ge (t := 67) dX1_readValues_20 rfl).mpr ⟨fun c => ?_, fun c => ?_⟩
  · replace h := h.1 c
    exact (zq_ret dX1_readValues_67 rfl).mpr h
  · replace h := h.2 c
    refine (zq_aload_n dX1_readValues_23 rfl).mpr ?_
    obtain ⟨g1, h⟩ := h
    refine (zq_getR2 (f := 65) (v := (mR m 65 a0)) dX1_readValues_24 fl_1_50 (by decide) rfl rfl (by first | rfl | simp only [zm_Is, zm_Rs, zm_As, zm_Os, zm_In0, zm_Rn0])).mpr ⟨g1, ?_⟩
    obtain ⟨g4, h⟩ := h
    refine zq_virtualV (n := 0) dX1_readValues_27 mr_1_74 zn_48 rfl rfl rfl (zrcv_R zo_48 (by decide) g4) (Nat.le_of_ble_eq_true rfl) ?_
    refine h.mono (fun r m2 h => ?_)
    obtain ⟨rfl, h⟩ := h
    refine ⟨rfl, ?_⟩
    refine (zq_iload_n dX1_readValues_30 rfl).mpr ?_
    refine (zq_iconst (v := 3) dX1_readValues_31 (by decide)).mpr ?_
    refine (zq_icmp_ge (t := 61) dX1_readValues_32 rfl).mpr ⟨fun c => ?_, fun c => ?_⟩
    · replace h := h.1 c
      refine (zq_iinc (l := [zR a0, zI a1, zI a2, zI (wr (a3 + 1))]) dX1_readValues_61 rfl rfl).mpr ?_
      refine (zq_goto (t := 18) dX1_readValues_64 rfl).mpr ?_
      exact h
    · replace h := h.2 c
      refine (zq_aload_n dX1_readValues_35 rfl).mpr ?_
      obtain ⟨g5, h⟩ := h
      refine (zq_getR2 (f := 68) (v := (mR m2 68 a0)) dX1_readValues_36 fl_1_18 (by decide) rfl rfl (by first | rfl | simp only [zm_Is, zm_Rs, zm_As, zm_Os, zm_In0, zm_Rn0])).mpr ⟨g5, ?_⟩
      refine (zq_iload_n dX1_readValues_39 rfl).mpr ?_
      refine (zq_aload_n dX1_readValues_40 rfl).mpr ?_
      refine (zq_getR2 (f := 65) (v := (mR m2 65 a0)) dX1_readValues_41 fl_1_50 (by decide) rfl rfl (by first | rfl | simp only [zm_Is, zm_Rs, zm_As, zm_Os, zm_In0, zm_Rn0])).mpr ⟨g5, ?_⟩
      obtain ⟨g6, h⟩ := h
      refine (zq_getI2 (f := 324) (v := (mI m2 324 (mR m2 65 a0))) dX1_readValues_44 fl_1_80 (by decide) rfl rfl (by first | rfl | simp only [zm_Is, zm_Rs, zm_As, zm_Os, zm_In0, zm_Rn0])).mpr ⟨g6, ?_⟩
      obtain ⟨g7, h⟩ := h
      obtain ⟨g8, h⟩ := h
      refine (zq_iast dX1_readValues_47).mpr ⟨⟨g8, g7⟩, ?_⟩
      refine (zq_aload_n dX1_readValues_48 rfl).mpr ?_
      refine (zq_getR2 (f := 69) (v := (mR m2 69 a0)) dX1_readValues_49 fl_1_21 (by decide) rfl rfl (by first | rfl | simp only [zm_Is, zm_Rs, zm_As, zm_Os, zm_In0, zm_Rn0])).mpr ⟨g5, ?_⟩
      refine (zq_iload_n dX1_readValues_52 rfl).mpr ?_
      refine (zq_aload_n dX1_readValues_53 rfl).mpr ?_
      refine (zq_getR2 (f := 65) (v := (mR m2 65 a0)) dX1_readValues_54 fl_1_50 (by decide) rfl rfl (by first | rfl | simp only [zm_Is, zm_Rs, zm_As, zm_Os, zm_In0, zm_Rn0])).mpr ⟨g5, ?_⟩
      refine (zq_getI2 (f := 323) (v := (mI m2 323 (mR m2 65 a0))) dX1_readValues_57 fl_1_58 (by decide) rfl rfl (by first | rfl | simp only [zm_Is, zm_Rs, zm_As, zm_Os, zm_In0, zm_Rn0])).mpr ⟨g6, ?_⟩
      obtain ⟨g9, h⟩ := h
      obtain ⟨g10, h⟩ := h
      refine (zq_iast dX1_readValues_60).mpr ⟨⟨g10, g9⟩, ?_⟩
      refine (zq_iinc (l := [zR a0, zI a1, zI a2, zI (wr (a3 + 1))]) dX1_readValues_61 rfl rfl).mpr ?_
      refine (zq_goto (t := 18) dX1_readValues_64 rfl).mpr ?_
      exact h
theorem bX1_errorAtWord_0 {a0 : Nat} {a1 : Int} {a2 : Nat} (h : ((a1 ≠ 8 → (mC m a0 = 2) ∧ zC xs xl d 11 [zR a0, zI a1] m (fun r m1 => ∃ v2 : Int, r = .inl (some (zI v2)) ∧ ((v2 = 0 → (mC m1 a2 = 4) ∧ (((mI m1 193 a2) < 60 → Q (.inl (some (zI 0))) m1) ∧ (¬ ((mI m1 193 a2) < 60) → Q (.inl (some (zI 4))) m1))) ∧ (¬ (v2 = 0) → Q (.inl (some (zI 3))) m1)))) ∧ (¬ (a1 ≠ 8) → (mC m a0 = 2) ∧ (((mI m 70 a0) < 3 → Q (.inl (some (zI 0))) m) ∧ (¬ ((mI m 70 a0) < 3) → Q (.inl (some (zI 4))) m))))) : zC xs xl (d + 1) 10 [zR a0, zI a1, zR a2] m Q := by
  refine zk_10 ?_
  refine (zq_iload_n dX1_errorAtWord_0 rfl).mpr ?_
  refine (zq_bipush (v := 8) dX1_errorAtWord_1 (by decide)).mpr ?_
  refine (zq_icmp_ne (t := 20) dX1_errorAtWord_3 rfl).mpr ⟨fun c => ?_, fun c => ?_⟩
  · replace h := h.1 c
    refine (zq_aload_n dX1_errorAtWord_20 rfl).mpr ?_
    refine (zq_iload_n dX1_errorAtWord_21 rfl).mpr ?_
    obtain ⟨g3, h⟩ := h
    refine zq_virtualI (n := 1) dX1_errorAtWord_22 mr_1_154 zn_11 rfl rfl rfl (zrcv_R zo_11 (by decide) g3) (Nat.le_of_ble_eq_true rfl) ?_
    refine h.mono (fun r m1 h => ?_)
    obtain ⟨v2, rfl, h⟩ := h
    refine ⟨_, rfl, ?_⟩
    refine (zq_if_eq (t := 30) dX1_errorAtWord_25 rfl).mpr ⟨fun c => ?_, fun c => ?_⟩
    · replace h := h.1 c
      refine (zq_aload_n dX1_errorAtWord_30 rfl).mpr ?_
      obtain ⟨g4, h⟩ := h
      refine (zq_getI2 (f := 193) (v := (mI m1 193 a2)) dX1_errorAtWord_31 fl_1_157 (by decide) rfl rfl (by first | rfl | simp only [zm_Is, zm_Rs, zm_As, zm_Os, zm_In0, zm_Rn0])).mpr ⟨g4, ?_⟩
      refine (zq_bipush (v := 60) dX1_errorAtWord_34 (by decide)).mpr ?_
      refine (zq_icmp_lt (t := 43) dX1_errorAtWord_36 rfl).mpr ⟨fun c => ?_, fun c => ?_⟩
      · replace h := h.1 c
        refine (zq_iconst (v := 0) dX1_errorAtWord_43 (by decide)).mpr ?_
        exact (zq_iret dX1_errorAtWord_44 rfl).mpr ⟨trivial, h⟩
      · replace h := h.2 c
        refine (zq_iconst (v := 4) dX1_errorAtWord_39 (by decide)).mpr ?_
        refine (zq_goto (t := 44) dX1_errorAtWord_40 rfl).mpr ?_
        exact (zq_iret dX1_errorAtWord_44 rfl).mpr ⟨trivial, h⟩
    · replace h := h.2 c
      refine (zq_iconst (v := 3) dX1_errorAtWord_28 (by decide)).mpr ?_
      exact (zq_iret dX1_errorAtWord_29 rfl).mpr ⟨trivial, h⟩
  · replace h := h.2 c
    refine (zq_aload_n dX1_errorAtWord_6 rfl).mpr ?_
    obtain ⟨g5, h⟩ := h
    refine (zq_getI2 (f := 70) (v := (mI m 70 a0)) dX1_errorAtWord_7 fl_1_24 (by decide) rfl rfl (by first | rfl | simp only [zm_Is, zm_Rs, zm_As, zm_Os, zm_In0, zm_Rn0])).mpr ⟨g5, ?_⟩
    refine (zq_iconst (v := 3) dX1_errorAtWord_10 (by decide)).mpr ?_
    refine (zq_icmp_lt (t := 18) dX1_errorAtWord_11 rfl).mpr ⟨fun c => ?_, fun c => ?_⟩
    · replace h := h.1 c
      refine (zq_iconst (v := 0) dX1_errorAtWord_18 (by decide)).mpr ?_
      exact (zq_iret dX1_errorAtWord_19 rfl).mpr ⟨trivial, h⟩
    · replace h := h.2 c
      refine (zq_iconst (v := 4) dX1_errorAtWord_14 (by decide)).mpr ?_
      refine (zq_goto (t := 19) dX1_errorAtWord_15 rfl).mpr ?_
      exact (zq_iret dX1_errorAtWord_19 rfl).mpr ⟨trivial, h⟩
theorem bX1_isOutOfTurn_0 {a0 : Nat} {a1 : Int} (h : (mC m a0 = 2) ∧ (mC m (mR m 68 a0) = 20) ∧ ((0 : Int) < mN m (mR m 68 a0)) ∧ (((bAnd (mI m 71 a0) (bShl 1 (mA m (mR m 68 a0) 0))) = 0 → ((a1 = 0 → Q (.inl (some (zI 0))) m) ∧ (a1 ≠ 0 → ((a1 = 1 → Q (.inl (some (zI 1))) m) ∧ (a1 ≠ 1 → ((a1 = 2 → ((mI m 72 a0) = 0 ∨ (mI m 72 a0) = 1) ∧ Q (.inl (some (zI (mI m 72 a0)))) m) ∧ (a1 ≠ 2 → ((a1 = 3 → (((mI m 72 a0) ≠ 0 → Q (.inl (some (zI 0))) m) ∧ (¬ ((mI m 72 a0) ≠ 0) → Q (.inl (some (zI 1))) m))) ∧ (a1 ≠ 3 → ((a1 = 4 → (((mI m 72 a0) ≠ 0 → Q (.inl (some (zI 0))) m) ∧ (¬ ((mI m 72 a0) ≠ 0) → Q (.inl (some (zI 1))) m))) ∧ (a1 ≠ 4 → ((a1 = 5 → (((mI m 72 a0) ≠ 0 → Q (.inl (some (zI 0))) m) ∧ (¬ ((mI m 72 a0) ≠ 0) → Q (.inl (some (zI 1))) m))) ∧ (a1 ≠ 5 → ((a1 = 6 → (((mI m 72 a0) = 0 → Q (.inl (some (zI 1))) m) ∧ (¬ ((mI m 72 a0) = 0) → (((mI m 71 a0) ≠ 0 → Q (.inl (some (zI 0))) m) ∧ (¬ ((mI m 71 a0) ≠ 0) → Q (.inl (some (zI 1))) m))))) ∧ (a1 ≠ 6 → ((a1 = 7 → (((mI m 72 a0) = 0 → Q (.inl (some (zI 1))) m) ∧ (¬ ((mI m 72 a0) = 0) → (((mI m 73 a0) ≠ 0 → Q (.inl (some (zI 0))) m) ∧ (¬ ((mI m 73 a0) ≠ 0) → Q (.inl (some (zI 1))) m))))) ∧ (a1 ≠ 7 → (((mI m 72 a0) ≠ 0 → Q (.inl (some (zI 0))) m) ∧ (¬ ((mI m 72 a0) ≠ 0) → Q (.inl (some (zI 1))) m))))))))))))))))))) ∧ (¬ ((bAnd (mI m 71 a0) (bShl 1 (mA m (mR m 68 a0) 0))) = 0) → ((a1 = 0 → Q (.inl (some (zI 1))) m) ∧ (a1 ≠ 0 → ((a1 = 1 → Q (.inl (some (zI 0))) m) ∧ (a1 ≠ 1 → ((a1 = 2 → ((mI m 72 a0) = 0 ∨ (mI m 72 a0) = 1) ∧ Q (.inl (some (zI (mI m 72 a0)))) m) ∧ (a1 ≠ 2 → ((a1 = 3 → (((mI m 72 a0) ≠ 0 → Q (.inl (some (zI 0))) m) ∧ (¬ ((mI m 72 a0) ≠ 0) → Q (.inl (some (zI 1))) m))) ∧ (a1 ≠ 3 → ((a1 = 4 → (((mI m 72 a0) ≠ 0 → Q (.inl (some (zI 0))) m) ∧ (¬ ((mI m 72 a0) ≠ 0) → Q (.inl (some (zI 1))) m))) ∧ (a1 ≠ 4 → ((a1 = 5 → (((mI m 72 a0) ≠ 0 → Q (.inl (some (zI 0))) m) ∧ (¬ ((mI m 72 a0) ≠ 0) → Q (.inl (some (zI 1))) m))) ∧ (a1 ≠ 5 → ((a1 = 6 → (((mI m 72 a0) = 0 → Q (.inl (some (zI 1))) m) ∧ (¬ ((mI m 72 a0) = 0) → (((mI m 71 a0) ≠ 0 → Q (.inl (some (zI 0))) m) ∧ (¬ ((mI m 71 a0) ≠ 0) → Q (.inl (some (zI 1))) m))))) ∧ (a1 ≠ 6 → ((a1 = 7 → (((mI m 72 a0) = 0 → Q (.inl (some (zI 1))) m) ∧ (¬ ((mI m 72 a0) = 0) → (((mI m 73 a0) ≠ 0 → Q (.inl (some (zI 0))) m) ∧ (¬ ((mI m 73 a0) ≠ 0) → Q (.inl (some (zI 1))) m))))) ∧ (a1 ≠ 7 → (((mI m 72 a0) ≠ 0 → Q (.inl (some (zI 0))) m) ∧ (¬ ((mI m 72 a0) ≠ 0) → Q (.inl (some (zI 1))) m))))))))))))))))))))) : zC xs xl (d + 1) 11 [zR a0, zI a1] m Q := by
  refine zk_11 ?_
  refine (zq_aload_n dX1_isOutOfTurn_0 rfl).mpr ?_
  obtain ⟨g1, h⟩ := h
  refine (zq_getI2 (f := 71) (v := (mI m 71 a0)) dX1_isOutOfTurn_1 fl_1_28 (by decide) rfl rfl (by first | rfl | simp only [zm_Is, zm_Rs, zm_As, zm_Os, zm_In0, zm_Rn0])).mpr ⟨g1, ?_⟩
  refine (zq_iconst (v := 1) dX1_isOutOfTurn_4 (by decide)).mpr ?_
  refine (zq_aload_n dX1_isOutOfTurn_5 rfl).mpr ?_
  refine (zq_getR2 (f := 68) (v := (mR m 68 a0)) dX1_isOutOfTurn_6 fl_1_18 (by decide) rfl rfl (by first | rfl | simp only [zm_Is, zm_Rs, zm_As, zm_Os, zm_In0, zm_Rn0])).mpr ⟨g1, ?_⟩
  refine (zq_iconst (v := 0) dX1_isOutOfTurn_9 (by decide)).mpr ?_
  obtain ⟨g2, h⟩ := h
  obtain ⟨g3, h⟩ := h
  refine (zq_iald2 (v := (mA m (mR m 68 a0) 0)) dX1_isOutOfTurn_10 (by first | rfl | simp only [zm_Is, zm_Rs, zm_As, zm_Os, zm_In0, zm_Rn0])).mpr ⟨⟨g2, ⟨by decide, g3⟩⟩, ?_⟩
  refine (zq_ishl dX1_isOutOfTurn_11).mpr ?_
  refine (zq_iand dX1_isOutOfTurn_12).mpr ?_
  refine (zq_if_eq (t := 20) dX1_isOutOfTurn_13 rfl).mpr ⟨fun c => ?_, fun c => ?_⟩
  · replace h := h.1 c
    refine (zq_iconst (v := 0) dX1_isOutOfTurn_20 (by decide)).mpr ?_
    refine (zq_istore_n (l := [zR a0, zI a1, zI 0]) dX1_isOutOfTurn_21 (Nat.le_of_ble_eq_true rfl) rfl).mpr ?_
    refine (zq_iload_n dX1_isOutOfTurn_22 rfl).mpr ?_
    refine (zq_tab (td := 125) (r := [68, 70, 80, 125, 125, 125, 85, 105]) dX1_isOutOfTurn_23 rfl rfl rfl).mpr ?_
    refine ⟨fun c => ?_, fun c => ?_⟩
    · replace h := h.1 c
      refine (zq_iload_n dX1_isOutOfTurn_68 rfl).mpr ?_
      exact (zq_iret dX1_isOutOfTurn_69 rfl).mpr ⟨Or.inl rfl, h⟩
    · replace h := h.2 c
      refine ⟨fun c => ?_, fun c => ?_⟩
      · replace h := h.1 c
        refine (zq_iload_n dX1_isOutOfTurn_70 rfl).mpr ?_
        refine (zq_if_ne (t := 78) dX1_isOutOfTurn_71 rfl).mpr ⟨fun c => absurd c (by decide), fun _ => ?_⟩
        refine (zq_iconst (v := 1) dX1_isOutOfTurn_74 (by decide)).mpr ?_
        refine (zq_goto (t := 79) dX1_isOutOfTurn_75 rfl).mpr ?_
        exact (zq_iret dX1_isOutOfTurn_79 rfl).mpr ⟨Or.inr rfl, h⟩
      · replace h := h.2 c
        refine ⟨fun c => ?_, fun c => ?_⟩
        · replace h := h.1 c
          refine (zq_aload_n dX1_isOutOfTurn_80 rfl).mpr ?_
          refine (zq_getI2 (f := 72) (v := (mI m 72 a0)) dX1_isOutOfTurn_81 fl_1_31 (by decide) rfl rfl (by first | rfl | simp only [zm_Is, zm_Rs, zm_As, zm_Os, zm_In0, zm_Rn0])).mpr ⟨g1, ?_⟩
          obtain ⟨g4, h⟩ := h
          exact (zq_iret dX1_isOutOfTurn_84 rfl).mpr ⟨g4, h⟩
        · replace h := h.2 c
          refine ⟨fun c => ?_, fun c => ?_⟩
          · replace h := h.1 c
            refine (zq_aload_n dX1_isOutOfTurn_125 rfl).mpr ?_
            refine (zq_getI2 (f := 72) (v := (mI m 72 a0)) dX1_isOutOfTurn_126 fl_1_31 (by decide) rfl rfl (by first | rfl | simp only [zm_Is, zm_Rs, zm_As, zm_Os, zm_In0, zm_Rn0])).mpr ⟨g1, ?_⟩
            refine (zq_if_ne (t := 136) dX1_isOutOfTurn_129 rfl).mpr ⟨fun c => ?_, fun c => ?_⟩
            · replace h := h.1 c
              refine (zq_iconst (v := 0) dX1_isOutOfTurn_136 (by decide)).mpr ?_
              exact (zq_iret dX1_isOutOfTurn_137 rfl).mpr ⟨Or.inl rfl, h⟩
            · replace h := h.2 c
              refine (zq_iconst (v := 1) dX1_isOutOfTurn_132 (by decide)).mpr ?_
              refine (zq_goto (t := 137) dX1_isOutOfTurn_133 rfl).mpr ?_
              exact (zq_iret dX1_isOutOfTurn_137 rfl).mpr ⟨Or.inr rfl, h⟩
          · replace h := h.2 c
            refine ⟨fun c => ?_, fun c => ?_⟩
            · replace h := h.1 c
              refine (zq_aload_n dX1_isOutOfTurn_125 rfl).mpr ?_
              refine (zq_getI2 (f := 72) (v := (mI m 72 a0)) dX1_isOutOfTurn_126 fl_1_31 (by decide) rfl rfl (by first | rfl | simp only [zm_Is, zm_Rs, zm_As, zm_Os, zm_In0, zm_Rn0])).mpr ⟨g1, ?_⟩
              refine (zq_if_ne (t := 136) dX1_isOutOfTurn_129 rfl).mpr ⟨fun c => ?_, fun c => ?_⟩
              · replace h := h.1 c
                refine (zq_iconst (v := 0) dX1_isOutOfTurn_136 (by decide)).mpr ?_
                exact (zq_iret dX1_isOutOfTurn_137 rfl).mpr ⟨Or.inl rfl, h⟩
              · replace h := h.2 c
                refine (zq_iconst (v := 1) dX1_isOutOfTurn_132 (by decide)).mpr ?_
                refine (zq_goto (t := 137) dX1_isOutOfTurn_133 rfl).mpr ?_
                exact (zq_iret dX1_isOutOfTurn_137 rfl).mpr ⟨Or.inr rfl, h⟩
            · replace h := h.2 c
              refine ⟨fun c => ?_, fun c => ?_⟩
              · replace h := h.1 c
                refine (zq_aload_n dX1_isOutOfTurn_125 rfl).mpr ?_
                refine (zq_getI2 (f := 72) (v := (mI m 72 a0)) dX1_isOutOfTurn_126 fl_1_31 (by decide) rfl rfl (by first | rfl | simp only [zm_Is, zm_Rs, zm_As, zm_Os, zm_In0, zm_Rn0])).mpr ⟨g1, ?_⟩
                refine (zq_if_ne (t := 136) dX1_isOutOfTurn_129 rfl).mpr ⟨fun c => ?_, fun c => ?_⟩
                · replace h := h.1 c
                  refine (zq_iconst (v := 0) dX1_isOutOfTurn_136 (by decide)).mpr ?_
                  exact (zq_iret dX1_isOutOfTurn_137 rfl).mpr ⟨Or.inl rfl, h⟩
                · replace h := h.2 c
                  refine (zq_iconst (v := 1) dX1_isOutOfTurn_132 (by decide)).mpr ?_
                  refine (zq_goto (t := 137) dX1_isOutOfTurn_133 rfl).mpr ?_
                  exact (zq_iret dX1_isOutOfTurn_137 rfl).mpr ⟨Or.inr rfl, h⟩
              · replace h := h.2 c
                refine ⟨fun c => ?_, fun c => ?_⟩
                · replace h := h.1 c
                  refine (zq_aload_n dX1_isOutOfTurn_85 rfl).mpr ?_
                  refine (zq_getI2 (f := 72) (v := (mI m 72 a0)) dX1_isOutOfTurn_86 fl_1_31 (by decide) rfl rfl (by first | rfl | simp only [zm_Is, zm_Rs, zm_As, zm_Os, zm_In0, zm_Rn0])).mpr ⟨g1, ?_⟩
                  refine (zq_if_eq (t := 99) dX1_isOutOfTurn_89 rfl).mpr ⟨fun c => ?_, fun c => ?_⟩
                  · replace h := h.1 c
                    refine (zq_iconst (v := 1) dX1_isOutOfTurn_99 (by decide)).mpr ?_
                    refine (zq_goto (t := 104) dX1_isOutOfTurn_100 rfl).mpr ?_
                    exact (zq_iret dX1_isOutOfTurn_104 rfl).mpr ⟨Or.inr rfl, h⟩
                  · replace h := h.2 c
                    refine (zq_aload_n dX1_isOutOfTurn_92 rfl).mpr ?_
                    refine (zq_getI2 (f := 71) (v := (mI m 71 a0)) dX1_isOutOfTurn_93 fl_1_28 (by decide) rfl rfl (by first | rfl | simp only [zm_Is, zm_Rs, zm_As, zm_Os, zm_In0, zm_Rn0])).mpr ⟨g1, ?_⟩
                    refine (zq_if_ne (t := 103) dX1_isOutOfTurn_96 rfl).mpr ⟨fun c => ?_, fun c => ?_⟩
                    · replace h := h.1 c
                      refine (zq_iconst (v := 0) dX1_isOutOfTurn_103 (by decide)).mpr ?_
                      exact (zq_iret dX1_isOutOfTurn_104 rfl).mpr ⟨Or.inl rfl, h⟩
                    · replace h := h.2 c
                      refine (zq_iconst (v := 1) dX1_isOutOfTurn_99 (by decide)).mpr ?_
                      refine (zq_goto (t := 104) dX1_isOutOfTurn_100 rfl).mpr ?_
                      exact (zq_iret dX1_isOutOfTurn_104 rfl).mpr ⟨Or.inr rfl, h⟩
                · replace h := h.2 c
                  refine ⟨fun c => ?_, fun c => ?_⟩
                  · replace h := h.1 c
                    refine (zq_aload_n dX1_isOutOfTurn_105 rfl).mpr ?_
                    refine (zq_getI2 (f := 72) (v := (mI m 72 a0)) dX1_isOutOfTurn_106 fl_1_31 (by decide) rfl rfl (by first | rfl | simp only [zm_Is, zm_Rs, zm_As, zm_Os, zm_In0, zm_Rn0])).mpr ⟨g1, ?_⟩
                    refine (zq_if_eq (t := 119) dX1_isOutOfTurn_109 rfl).mpr ⟨fun c => ?_, fun c => ?_⟩
                    · replace h := h.1 c
                      refine (zq_iconst (v := 1) dX1_isOutOfTurn_119 (by decide)).mpr ?_
                      refine (zq_goto (t := 124) dX1_isOutOfTurn_120 rfl).mpr ?_
                      exact (zq_iret dX1_isOutOfTurn_124 rfl).mpr ⟨Or.inr rfl, h⟩
                    · replace h := h.2 c
                      refine (zq_aload_n dX1_isOutOfTurn_112 rfl).mpr ?_
                      refine (zq_getI2 (f := 73) (v := (mI m 73 a0)) dX1_isOutOfTurn_113 fl_1_35 (by decide) rfl rfl (by first | rfl | simp only [zm_Is, zm_Rs, zm_As, zm_Os, zm_In0, zm_Rn0])).mpr ⟨g1, ?_⟩
                      refine (zq_if_ne (t := 123) dX1_isOutOfTurn_116 rfl).mpr ⟨fun c => ?_, fun c => ?_⟩
                      · replace h := h.1 c
                        refine (zq_iconst (v := 0) dX1_isOutOfTurn_123 (by decide)).mpr ?_
                        exact (zq_iret dX1_isOutOfTurn_124 rfl).mpr ⟨Or.inl rfl, h⟩
                      · replace h := h.2 c
                        refine (zq_iconst (v := 1) dX1_isOutOfTurn_119 (by decide)).mpr ?_
                        refine (zq_goto (t := 124) dX1_isOutOfTurn_120 rfl).mpr ?_
                        exact (zq_iret dX1_isOutOfTurn_124 rfl).mpr ⟨Or.inr rfl, h⟩
                  · replace h := h.2 c
                    refine (zq_aload_n dX1_isOutOfTurn_125 rfl).mpr ?_
                    refine (zq_getI2 (f := 72) (v := (mI m 72 a0)) dX1_isOutOfTurn_126 fl_1_31 (by decide) rfl rfl (by first | rfl | simp only [zm_Is, zm_Rs, zm_As, zm_Os, zm_In0, zm_Rn0])).mpr ⟨g1, ?_⟩
                    refine (zq_if_ne (t := 136) dX1_isOutOfTurn_129 rfl).mpr ⟨fun c => ?_, fun c => ?_⟩
                    · replace h := h.1 c
                      refine (zq_iconst (v := 0) dX1_isOutOfTurn_136 (by decide)).mpr ?_
                      exact (zq_iret dX1_isOutOfTurn_137 rfl).mpr ⟨Or.inl rfl, h⟩
                    · replace h := h.2 c
                      refine (zq_iconst (v := 1) dX1_isOutOfTurn_132 (by decide)).mpr ?_
                      refine (zq_goto (t := 137) dX1_isOutOfTurn_133 rfl).mpr ?_
                      exact (zq_iret dX1_isOutOfTurn_137 rfl).mpr ⟨Or.inr rfl, h⟩
  · replace h := h.2 c
    refine (zq_iconst (v := 1) dX1_isOutOfTurn_16 (by decide)).mpr ?_
    refine (zq_goto (t := 21) dX1_isOutOfTurn_17 rfl).mpr ?_
    refine (zq_istore_n (l := [zR a0, zI a1, zI 1]) dX1_isOutOfTurn_21 (Nat.le_of_ble_eq_true rfl) rfl).mpr ?_
    refine (zq_iload_n dX1_isOutOfTurn_22 rfl).mpr ?_
    refine (zq_tab (td := 125) (r := [68, 70, 80, 125, 125, 125, 85, 105]) dX1_isOutOfTurn_23 rfl rfl rfl).mpr ?_
    refine ⟨fun c => ?_, fun c => ?_⟩
    · replace h := h.1 c
      refine (zq_iload_n dX1_isOutOfTurn_68 rfl).mpr ?_
      exact (zq_iret dX1_isOutOfTurn_69 rfl).mpr ⟨Or.inr rfl, h⟩
    · replace h := h.2 c
      refine ⟨fun c => ?_, fun c => ?_⟩
      · replace h := h.1 c
        refine (zq_iload_n dX1_isOutOfTurn_70 rfl).mpr ?_
        refine (zq_if_ne (t := 78) dX1_isOutOfTurn_71 rfl).mpr ⟨fun _ => ?_, fun c => absurd (by decide) c⟩
        refine (zq_iconst (v := 0) dX1_isOutOfTurn_78 (by decide)).mpr ?_
        exact (zq_iret dX1_isOutOfTurn_79 rfl).mpr ⟨Or.inl rfl, h⟩
      · replace h := h.2 c
        refine ⟨fun c => ?_, fun c => ?_⟩
        · replace h := h.1 c
          refine (zq_aload_n dX1_isOutOfTurn_80 rfl).mpr ?_
          refine (zq_getI2 (f := 72) (v := (mI m 72 a0)) dX1_isOutOfTurn_81 fl_1_31 (by decide) rfl rfl (by first | rfl | simp only [zm_Is, zm_Rs, zm_As, zm_Os, zm_In0, zm_Rn0])).mpr ⟨g1, ?_⟩
          obtain ⟨g5, h⟩ := h
          exact (zq_iret dX1_isOutOfTurn_84 rfl).mpr ⟨g5, h⟩
        · replace h := h.2 c
          refine ⟨fun c => ?_, fun c => ?_⟩
          · replace h := h.1 c
            refine (zq_aload_n dX1_isOutOfTurn_125 rfl).mpr ?_
            refine (zq_getI2 (f := 72) (v := (mI m 72 a0)) dX1_isOutOfTurn_126 fl_1_31 (by decide) rfl rfl (by first | rfl | simp only [zm_Is, zm_Rs, zm_As, zm_Os, zm_In0, zm_Rn0])).mpr ⟨g1, ?_⟩
            refine (zq_if_ne (t := 136) dX1_isOutOfTurn_129 rfl).mpr ⟨fun c => ?_, fun c => ?_⟩
            · replace h := h.1 c
              refine (zq_iconst (v := 0) dX1_isOutOfTurn_136 (by decide)).mpr ?_
              exact (zq_iret dX1_isOutOfTurn_137 rfl).mpr ⟨Or.inl rfl, h⟩
            · replace h := h.2 c
              refine (zq_iconst (v := 1) dX1_isOutOfTurn_132 (by decide)).mpr ?_
              refine (zq_goto (t := 137) dX1_isOutOfTurn_133 rfl).mpr ?_
              exact (zq_iret dX1_isOutOfTurn_137 rfl).mpr ⟨Or.inr rfl, h⟩
          · replace h := h.2 c
            refine ⟨fun c => ?_, fun c => ?_⟩
            · replace h := h.1 c
              refine (zq_aload_n dX1_isOutOfTurn_125 rfl).mpr ?_
              refine (zq_getI2 (f := 72) (v := (mI m 72 a0)) dX1_isOutOfTurn_126 fl_1_31 (by decide) rfl rfl (by first | rfl | simp only [zm_Is, zm_Rs, zm_As, zm_Os, zm_In0, zm_Rn0])).mpr ⟨g1, ?_⟩
              refine (zq_if_ne (t := 136) dX1_isOutOfTurn_129 rfl).mpr ⟨fun c => ?_, fun c => ?_⟩
              · replace h := h.1 c
                refine (zq_iconst (v := 0) dX1_isOutOfTurn_136 (by decide)).mpr ?_
                exact (zq_iret dX1_isOutOfTurn_137 rfl).mpr ⟨Or.inl rfl, h⟩
              · replace h := h.2 c
                refine (zq_iconst (v := 1) dX1_isOutOfTurn_132 (by decide)).mpr ?_
                refine (zq_goto (t := 137) dX1_isOutOfTurn_133 rfl).mpr ?_
                exact (zq_iret dX1_isOutOfTurn_137 rfl).mpr ⟨Or.inr rfl, h⟩
            · replace h := h.2 c
              refine ⟨fun c => ?_, fun c => ?_⟩
              · replace h := h.1 c
                refine (zq_aload_n dX1_isOutOfTurn_125 rfl).mpr ?_
                refine (zq_getI2 (f := 72) (v := (mI m 72 a0)) dX1_isOutOfTurn_126 fl_1_31 (by decide) rfl rfl (by first | rfl | simp only [zm_Is, zm_Rs, zm_As, zm_Os, zm_In0, zm_Rn0])).mpr ⟨g1, ?_⟩
                refine (zq_if_ne (t := 136) dX1_isOutOfTurn_129 rfl).mpr ⟨fun c => ?_, fun c => ?_⟩
                · replace h := h.1 c
                  refine (zq_iconst (v := 0) dX1_isOutOfTurn_136 (by decide)).mpr ?_
                  exact (zq_iret dX1_isOutOfTurn_137 rfl).mpr ⟨Or.inl rfl, h⟩
                · replace h := h.2 c
                  refine (zq_iconst (v := 1) dX1_isOutOfTurn_132 (by decide)).mpr ?_
                  refine (zq_goto (t := 137) dX1_isOutOfTurn_133 rfl).mpr ?_
                  exact (zq_iret dX1_isOutOfTurn_137 rfl).mpr ⟨Or.inr rfl, h⟩
              · replace h := h.2 c
                refine ⟨fun c => ?_, fun c => ?_⟩
                · replace h := h.1 c
                  refine (zq_aload_n dX1_isOutOfTurn_85 rfl).mpr ?_
                  refine (zq_getI2 (f := 72) (v := (mI m 72 a0)) dX1_isOutOfTurn_86 fl_1_31 (by decide) rfl rfl (by first | rfl | simp only [zm_Is, zm_Rs, zm_As, zm_Os, zm_In0, zm_Rn0])).mpr ⟨g1, ?_⟩
                  refine (zq_if_eq (t := 99) dX1_isOutOfTurn_89 rfl).mpr ⟨fun c => ?_, fun c => ?_⟩
                  · replace h := h.1 c
                    refine (zq_iconst (v := 1) dX1_isOutOfTurn_99 (by decide)).mpr ?_
                    refine (zq_goto (t := 104) dX1_isOutOfTurn_100 rfl).mpr ?_
                    exact (zq_iret dX1_isOutOfTurn_104 rfl).mpr ⟨Or.inr rfl, h⟩
                  · replace h := h.2 c
                    refine (zq_aload_n dX1_isOutOfTurn_92 rfl).mpr ?_
                    refine (zq_getI2 (f := 71) (v := (mI m 71 a0)) dX1_isOutOfTurn_93 fl_1_28 (by decide) rfl rfl (by first | rfl | simp only [zm_Is, zm_Rs, zm_As, zm_Os, zm_In0, zm_Rn0])).mpr ⟨g1, ?_⟩
                    refine (zq_if_ne (t := 103) dX1_isOutOfTurn_96 rfl).mpr ⟨fun c => ?_, fun c => ?_⟩
                    · replace h := h.1 c
                      refine (zq_iconst (v := 0) dX1_isOutOfTurn_103 (by decide)).mpr ?_
                      exact (zq_iret dX1_isOutOfTurn_104 rfl).mpr ⟨Or.inl rfl, h⟩
                    · replace h := h.2 c
                      refine (zq_iconst (v := 1) dX1_isOutOfTurn_99 (by decide)).mpr ?_
                      refine (zq_goto (t := 104) dX1_isOutOfTurn_100 rfl).mpr ?_
                      exact (zq_iret dX1_isOutOfTurn_104 rfl).mpr ⟨Or.inr rfl, h⟩
                · replace h := h.2 c
                  refine ⟨fun c => ?_, fun c => ?_⟩
                  · replace h := h.1 c
                    refine (zq_aload_n dX1_isOutOfTurn_105 rfl).mpr ?_
                    refine (zq_getI2 (f := 72) (v := (mI m 72 a0)) dX1_isOutOfTurn_106 fl_1_31 (by decide) rfl rfl (by first | rfl | simp only [zm_Is, zm_Rs, zm_As, zm_Os, zm_In0, zm_Rn0])).mpr ⟨g1, ?_⟩
                    refine (zq_if_eq (t := 119) dX1_isOutOfTurn_109 rfl).mpr ⟨fun c => ?_, fun c => ?_⟩
                    · replace h := h.1 c
                      refine (zq_iconst (v := 1) dX1_isOutOfTurn_119 (by decide)).mpr ?_
                      refine (zq_goto (t := 124) dX1_isOutOfTurn_120 rfl).mpr ?_
                      exact (zq_iret dX1_isOutOfTurn_124 rfl).mpr ⟨Or.inr rfl, h⟩
                    · replace h := h.2 c
                      refine (zq_aload_n dX1_isOutOfTurn_112 rfl).mpr ?_
                      refine (zq_getI2 (f := 73) (v := (mI m 73 a0)) dX1_isOutOfTurn_113 fl_1_35 (by decide) rfl rfl (by first | rfl | simp only [zm_Is, zm_Rs, zm_As, zm_Os, zm_In0, zm_Rn0])).mpr ⟨g1, ?_⟩
                      refine (zq_if_ne (t := 123) dX1_isOutOfTurn_116 rfl).mpr ⟨fun c => ?_, fun c => ?_⟩
                      · replace h := h.1 c
                        refine (zq_iconst (v := 0) dX1_isOutOfTurn_123 (by decide)).mpr ?_
                        exact (zq_iret dX1_isOutOfTurn_124 rfl).mpr ⟨Or.inl rfl, h⟩
                      · replace h := h.2 c
                        refine (zq_iconst (v := 1) dX1_isOutOfTurn_119 (by decide)).mpr ?_
                        refine (zq_goto (t := 124) dX1_isOutOfTurn_120 rfl).mpr ?_
                        exact (zq_iret dX1_isOutOfTurn_124 rfl).mpr ⟨Or.inr rfl, h⟩
                  · replace h := h.2 c
                    refine (zq_aload_n dX1_isOutOfTurn_125 rfl).mpr ?_
                    refine (zq_getI2 (f := 72) (v := (mI m 72 a0)) dX1_isOutOfTurn_126 fl_1_31 (by decide) rfl rfl (by first | rfl | simp only [zm_Is, zm_Rs, zm_As, zm_Os, zm_In0, zm_Rn0])).mpr ⟨g1, ?_⟩
                    refine (zq_if_ne (t := 136) dX1_isOutOfTurn_129 rfl).mpr ⟨fun c => ?_, fun c => ?_⟩
                    · replace h := h.1 c
                      refine (zq_iconst (v := 0) dX1_isOutOfTurn_136 (by decide)).mpr ?_
                      exact (zq_iret dX1_isOutOfTurn_137 rfl).mpr ⟨Or.inl rfl, h⟩
                    · replace h := h.2 c
                      refine (zq_iconst (v := 1) dX1_isOutOfTurn_132 (by decide)).mpr ?_
                      refine (zq_goto (t := 137) dX1_isOutOfTurn_133 rfl).mpr ?_
                      exact (zq_iret dX1_isOutOfTurn_137 rfl).mpr ⟨Or.inr rfl, h⟩
theorem bX1_wrongNumber_0 {a0 : Nat} {a1 : Int} (h : zC xs xl d 6 [zI a1] m (fun r m1 => ∃ v2 : Nat, r = .inl (some (zE v2)) ∧ zW xs xl d cX1_wrongNumber 1 (some .int) false [] 7 [zR a0, zI a1, zE v2, zI 0] [] m1 Q)) : zC xs xl (d + 1) 12 [zR a0, zI a1] m Q := by
  refine zk_12 ?_
  refine (zq_iload_n dX1_wrongNumber_0 rfl).mpr ?_
  refine zq_staticE (n := 1) dX1_wrongNumber_1 mr_1_87 zn_6 rfl rfl (Nat.le_of_ble_eq_true rfl) (Nat.le_of_ble_eq_true rfl) ?_
  refine h.mono (fun r m1 h => ?_)
  obtain ⟨v2, rfl, h⟩ := h
  refine ⟨_, rfl, ?_⟩
  refine (zq_astore_nE (l := [zR a0, zI a1, zE v2, zU]) dX1_wrongNumber_4 (Nat.le_of_ble_eq_true rfl) rfl).mpr ?_
  refine (zq_iconst (v := 0) dX1_wrongNumber_5 (by decide)).mpr ?_
  refine (zq_istore_n (l := [zR a0, zI a1, zE v2, zI 0]) dX1_wrongNumber_6 (Nat.le_of_ble_eq_true rfl) rfl).mpr ?_
  exact h
theorem bX1_wrongNumber_7 {a0 : Nat} {a1 : Int} {a2 : Nat} {a3 : Int} (h : (20 ≤ a2 ∧ a2 < 50) ∧ zC xs xl d 209 [zE a2] m (fun r m1 => ∃ v2 : Int, r = .inl (some (zI v2)) ∧ ((v2 ≤ a3 → Q (.inl (some (zI (-1)))) m1) ∧ (¬ (v2 ≤ a3) → ((3 ≤ a3 → Q (.inl (some (zI (-1)))) m1) ∧ (¬ (3 ≤ a3) → zC xs xl d 210 [zE a2, zI a3] m1 (fun r m4 => ∃ v5 : Int, r = .inl (some (zI v5)) ∧ ((v5 ≠ 110 → zW xs xl d cX1_wrongNumber 1 (some .int) false [] 7 [zR a0, zI a1, zE a2, zI (wr (a3 + 1))] [] m4 Q) ∧ (¬ (v5 ≠ 110) → (mC m4 a0 = 2) ∧ (mC m4 (mR m4 68 a0) = 20) ∧ (0 ≤ a3 ∧ a3 < mN m4 (mR m4 68 a0)) ∧ zC xs xl d 13 [zI a1, zI (mA m4 (mR m4 68 a0) (Int.toNat a3))] m4 (fun r m9 => ∃ v10 : Int, r = .inl (some (zI v10)) ∧ ((v10 ≠ 0 → zW xs xl d cX1_wrongNumber 1 (some .int) false [] 7 [zR a0, zI a1, zE a2, zI (wr (a3 + 1))] [] m9 Q) ∧ (¬ (v10 ≠ 0) → Q (.inl (some (zI a3))) m9)))))))))))) : zW xs xl d cX1_wrongNumber 1 (some .int) false [] 7 [zR a0, zI a1, zE a2, zI a3] [] m Q := by
  refine (zq_iload_n dX1_wrongNumber_7 rfl).mpr ?_
  refine (zq_aload_nE dX1_wrongNumber_8 rfl).mpr ?_
  obtain ⟨g3, h⟩ := h
  refine zq_virtualI (n := 0) dX1_wrongNumber_9 mr_1_91 zn_209 rfl rfl rfl (zrcv_E zo_209 g3) (Nat.le_of_ble_eq_true rfl) ?_
  refine h.mono (fun r m1 h => ?_)
  obtain ⟨v2, rfl, h⟩ := h
  refine ⟨_, rfl, ?_⟩
  refine (zq_icmp_ge (t := 51) dX1_wrongNumber_12 rfl).mpr ⟨fun c => ?_, fun c => ?_⟩
  · replace h := h.1 c
    refine (zq_iconst (v := (-1)) dX1_wrongNumber_51 (by decide)).mpr ?_
    exact (zq_iret dX1_wrongNumber_52 rfl).mpr ⟨trivial, h⟩
  · replace h := h.2 c
    refine (zq_iload_n dX1_wrongNumber_15 rfl).mpr ?_
    refine (zq_iconst (v := 3) dX1_wrongNumber_16 (by decide)).mpr ?_
    refine (zq_icmp_ge (t := 51) dX1_wrongNumber_17 rfl).mpr ⟨fun c => ?_, fun c => ?_⟩
    · replace h := h.1 c
      refine (zq_iconst (v := (-1)) dX1_wrongNumber_51 (by decide)).mpr ?_
      exact (zq_iret dX1_wrongNumber_52 rfl).mpr ⟨trivial, h⟩
    · replace h := h.2 c
      refine (zq_aload_nE dX1_wrongNumber_20 rfl).mpr ?_
      refine (zq_iload_n dX1_wrongNumber_21 rfl).mpr ?_
      refine zq_virtualI (n := 1) dX1_wrongNumber_22 mr_1_96 zn_210 rfl rfl rfl (zrcv_E zo_210 g3) (Nat.le_of_ble_eq_true rfl) ?_
      refine h.mono (fun r m4 h => ?_)
      obtain ⟨v5, rfl, h⟩ := h
      refine ⟨_, rfl, ?_⟩
      refine (zq_bipush (v := 110) dX1_wrongNumber_25 (by decide)).mpr ?_
      refine (zq_icmp_ne (t := 45) dX1_wrongNumber_27 rfl).mpr ⟨fun c => ?_, fun c => ?_⟩
      · replace h := h.1 c
        refine (zq_iinc (l := [zR a0, zI a1, zE a2, zI (wr (a3 + 1))]) dX1_wrongNumber_45 rfl rfl).mpr ?_
        refine (zq_goto (t := 7) dX1_wrongNumber_48 rfl).mpr ?_
        exact h
      · replace h := h.2 c
        refine (zq_iload_n dX1_wrongNumber_30 rfl).mpr ?_
        refine (zq_aload_n dX1_wrongNumber_31 rfl).mpr ?_
        obtain ⟨g6, h⟩ := h
        refine (zq_getR2 (f := 68) (v := (mR m4 68 a0)) dX1_wrongNumber_32 fl_1_18 (by decide) rfl rfl (by first | rfl | simp only [zm_Is, zm_Rs, zm_As, zm_Os, zm_In0, zm_Rn0])).mpr ⟨g6, ?_⟩
        refine (zq_iload_n dX1_wrongNumber_35 rfl).mpr ?_
        obtain ⟨g7, h⟩ := h
        obtain ⟨g8, h⟩ := h
        refine (zq_iald2 (v := (mA m4 (mR m4 68 a0) (Int.toNat a3))) dX1_wrongNumber_36 (by first | rfl | simp only [zm_Is, zm_Rs, zm_As, zm_Os, zm_In0, zm_Rn0])).mpr ⟨⟨g7, g8⟩, ?_⟩
        refine zq_staticI (n := 2) dX1_wrongNumber_37 mr_1_160 zn_13 rfl rfl (Nat.le_of_ble_eq_true rfl) (Nat.le_of_ble_eq_true rfl) ?_
        refine h.mono (fun r m9 h => ?_)
        obtain ⟨v10, rfl, h⟩ := h
        refine ⟨_, rfl, ?_⟩
        refine (zq_if_ne (t := 45) dX1_wrongNumber_40 rfl).mpr ⟨fun c => ?_, fun c => ?_⟩
        · replace h := h.1 c
          refine (zq_iinc (l := [zR a0, zI a1, zE a2, zI (wr (a3 + 1))]) dX1_wrongNumber_45 rfl rfl).mpr ?_
          refine (zq_goto (t := 7) dX1_wrongNumber_48 rfl).mpr ?_
          exact h
        · replace h := h.2 c
          refine (zq_iload_n dX1_wrongNumber_43 rfl).mpr ?_
          exact (zq_iret dX1_wrongNumber_44 rfl).mpr ⟨trivial, h⟩
theorem bX1_isAllowed_0 {a0 : Int} {a1 : Int} (h : ((a0 = 2 → ((a1 < 10 → Q (.inl (some (zI 0))) m) ∧ (¬ (a1 < 10) → ((200 < a1 → Q (.inl (some (zI 0))) m) ∧ (¬ (200 < a1) → Q (.inl (some (zI 1))) m))))) ∧ (a0 ≠ 2 → ((a0 = 5 → ((a1 < 0 → Q (.inl (some (zI 0))) m) ∧ (¬ (a1 < 0) → ((40 < a1 → Q (.inl (some (zI 0))) m) ∧ (¬ (40 < a1) → Q (.inl (some (zI 1))) m))))) ∧ (a0 ≠ 5 → ((a0 = 8 → ((a1 < 1 → Q (.inl (some (zI 0))) m) ∧ (¬ (a1 < 1) → ((9 < a1 → Q (.inl (some (zI 0))) m) ∧ (¬ (9 < a1) → Q (.inl (some (zI 1))) m))))) ∧ (a0 ≠ 8 → ((a1 < 1 → Q (.inl (some (zI 0))) m) ∧ (¬ (a1 < 1) → ((30 < a1 → Q (.inl (some (zI 0))) m) ∧ (¬ (30 < a1) → Q (.inl (some (zI 1))) m))))))))))) : zC xs xl (d + 1) 13 [zI a0, zI a1] m Q := by
  refine zk_13 ?_
  refine (zq_iload_n dX1_isAllowed_0 rfl).mpr ?_
  refine (zq_look (td := 88) (r := [(2, 53), (5, 72), (8, 36)]) dX1_isAllowed_1 rfl rfl rfl).mpr ?_
  refine ⟨fun c => ?_, fun c => ?_⟩
  · replace h := h.1 c
    refine (zq_iload_n dX1_isAllowed_53 rfl).mpr ?_
    refine (zq_bipush (v := 10) dX1_isAllowed_54 (by decide)).mpr ?_
    refine (zq_icmp_lt (t := 70) dX1_isAllowed_56 rfl).mpr ⟨fun c => ?_, fun c => ?_⟩
    · replace h := h.1 c
      refine (zq_iconst (v := 0) dX1_isAllowed_70 (by decide)).mpr ?_
      exact (zq_iret dX1_isAllowed_71 rfl).mpr ⟨Or.inl rfl, h⟩
    · replace h := h.2 c
      refine (zq_iload_n dX1_isAllowed_59 rfl).mpr ?_
      refine (zq_sipush (v := 200) dX1_isAllowed_60 (by decide)).mpr ?_
      refine (zq_icmp_gt (t := 70) dX1_isAllowed_63 rfl).mpr ⟨fun c => ?_, fun c => ?_⟩
      · replace h := h.1 c
        refine (zq_iconst (v := 0) dX1_isAllowed_70 (by decide)).mpr ?_
        exact (zq_iret dX1_isAllowed_71 rfl).mpr ⟨Or.inl rfl, h⟩
      · replace h := h.2 c
        refine (zq_iconst (v := 1) dX1_isAllowed_66 (by decide)).mpr ?_
        refine (zq_goto (t := 71) dX1_isAllowed_67 rfl).mpr ?_
        exact (zq_iret dX1_isAllowed_71 rfl).mpr ⟨Or.inr rfl, h⟩
  · replace h := h.2 c
    refine ⟨fun c => ?_, fun c => ?_⟩
    · replace h := h.1 c
      refine (zq_iload_n dX1_isAllowed_72 rfl).mpr ?_
      refine (zq_if_lt (t := 86) dX1_isAllowed_73 rfl).mpr ⟨fun c => ?_, fun c => ?_⟩
      · replace h := h.1 c
        refine (zq_iconst (v := 0) dX1_isAllowed_86 (by decide)).mpr ?_
        exact (zq_iret dX1_isAllowed_87 rfl).mpr ⟨Or.inl rfl, h⟩
      · replace h := h.2 c
        refine (zq_iload_n dX1_isAllowed_76 rfl).mpr ?_
        refine (zq_bipush (v := 40) dX1_isAllowed_77 (by decide)).mpr ?_
        refine (zq_icmp_gt (t := 86) dX1_isAllowed_79 rfl).mpr ⟨fun c => ?_, fun c => ?_⟩
        · replace h := h.1 c
          refine (zq_iconst (v := 0) dX1_isAllowed_86 (by decide)).mpr ?_
          exact (zq_iret dX1_isAllowed_87 rfl).mpr ⟨Or.inl rfl, h⟩
        · replace h := h.2 c
          refine (zq_iconst (v := 1) dX1_isAllowed_82 (by decide)).mpr ?_
          refine (zq_goto (t := 87) dX1_isAllowed_83 rfl).mpr ?_
          exact (zq_iret dX1_isAllowed_87 rfl).mpr ⟨Or.inr rfl, h⟩
    · replace h := h.2 c
      refine ⟨fun c => ?_, fun c => ?_⟩
      · replace h := h.1 c
        refine (zq_iload_n dX1_isAllowed_36 rfl).mpr ?_
        refine (zq_iconst (v := 1) dX1_isAllowed_37 (by decide)).mpr ?_
        refine (zq_icmp_lt (t := 51) dX1_isAllowed_38 rfl).mpr ⟨fun c => ?_, fun c => ?_⟩
        · replace h := h.1 c
          refine (zq_iconst (v := 0) dX1_isAllowed_51 (by decide)).mpr ?_
          exact (zq_iret dX1_isAllowed_52 rfl).mpr ⟨Or.inl rfl, h⟩
        · replace h := h.2 c
          refine (zq_iload_n dX1_isAllowed_41 rfl).mpr ?_
          refine (zq_bipush (v := 9) dX1_isAllowed_42 (by decide)).mpr ?_
          refine (zq_icmp_gt (t := 51) dX1_isAllowed_44 rfl).mpr ⟨fun c => ?_, fun c => ?_⟩
          · replace h := h.1 c
            refine (zq_iconst (v := 0) dX1_isAllowed_51 (by decide)).mpr ?_
            exact (zq_iret dX1_isAllowed_52 rfl).mpr ⟨Or.inl rfl, h⟩
          · replace h := h.2 c
            refine (zq_iconst (v := 1) dX1_isAllowed_47 (by decide)).mpr ?_
            refine (zq_goto (t := 52) dX1_isAllowed_48 rfl).mpr ?_
            exact (zq_iret dX1_isAllowed_52 rfl).mpr ⟨Or.inr rfl, h⟩
      · replace h := h.2 c
        refine (zq_iload_n dX1_isAllowed_88 rfl).mpr ?_
        refine (zq_iconst (v := 1) dX1_isAllowed_89 (by decide)).mpr ?_
        refine (zq_icmp_lt (t := 103) dX1_isAllowed_90 rfl).mpr ⟨fun c => ?_, fun c => ?_⟩
        · replace h := h.1 c
          refine (zq_iconst (v := 0) dX1_isAllowed_103 (by decide)).mpr ?_
          exact (zq_iret dX1_isAllowed_104 rfl).mpr ⟨Or.inl rfl, h⟩
        · replace h := h.2 c
          refine (zq_iload_n dX1_isAllowed_93 rfl).mpr ?_
          refine (zq_bipush (v := 30) dX1_isAllowed_94 (by decide)).mpr ?_
          refine (zq_icmp_gt (t := 103) dX1_isAllowed_96 rfl).mpr ⟨fun c => ?_, fun c => ?_⟩
          · replace h := h.1 c
            refine (zq_iconst (v := 0) dX1_isAllowed_103 (by decide)).mpr ?_
            exact (zq_iret dX1_isAllowed_104 rfl).mpr ⟨Or.inl rfl, h⟩
          · replace h := h.2 c
            refine (zq_iconst (v := 1) dX1_isAllowed_99 (by decide)).mpr ?_
            refine (zq_goto (t := 104) dX1_isAllowed_100 rfl).mpr ?_
            exact (zq_iret dX1_isAllowed_104 rfl).mpr ⟨Or.inr rfl, h⟩
theorem bX1_follow_0 {a0 : Nat} {a1 : Int} (h : ((a1 ≠ 0 → ((a1 ≠ 1 → ((a1 ≠ 2 → ((a1 ≠ 5 → ((a1 ≠ 7 → Q (.inl none) m) ∧ (¬ (a1 ≠ 7) → (mC m a0 = 2) ∧ Q (.inl none) (sI m 72 a0 0)))) ∧ (¬ (a1 ≠ 5) → (mC m a0 = 2) ∧ Q (.inl none) (sI m 73 a0 1)))) ∧ (¬ (a1 ≠ 2) → (mC m a0 = 2) ∧ Q (.inl none) (sI (sI m 72 a0 1) 73 a0 0)))) ∧ (¬ (a1 ≠ 1) → (mC m a0 = 2) ∧ (mC m (mR m 68 a0) = 20) ∧ ((0 : Int) < mN m (mR m 68 a0)) ∧ Q (.inl none) (sI m 71 a0 (bAnd (mI m 71 a0) (bXor (bShl 1 (mA m (mR m 68 a0) 0)) (-1))))))) ∧ (¬ (a1 ≠ 0) → (mC m a0 = 2) ∧ (mC m (mR m 68 a0) = 20) ∧ ((0 : Int) < mN m (mR m 68 a0)) ∧ Q (.inl none) (sI m 71 a0 (bOr (mI m 71 a0) (bShl 1 (mA m (mR m 68 a0) 0))))))) : zC xs xl (d + 1) 14 [zR a0, zI a1] m Q := by
  refine zk_14 ?_
  refine (zq_iload_n dX1_follow_0 rfl).mpr ?_
  refine (zq_if_ne (t := 24) dX1_follow_1 rfl).mpr ⟨fun c => ?_, fun c => ?_⟩
  · replace h := h.1 c
    refine (zq_iload_n dX1_follow_24 rfl).mpr ?_
    refine (zq_iconst (v := 1) dX1_follow_25 (by decide)).mpr ?_
    refine (zq_icmp_ne (t := 51) dX1_follow_26 rfl).mpr ⟨fun c => ?_, fun c => ?_⟩
    · replace h := h.1 c
      refine (zq_iload_n dX1_follow_51 rfl).mpr ?_
      refine (zq_iconst (v := 2) dX1_follow_52 (by decide)).mpr ?_
      refine (zq_icmp_ne (t := 69) dX1_follow_53 rfl).mpr ⟨fun c => ?_, fun c => ?_⟩
      · replace h := h.1 c
        refine (zq_iload_n dX1_follow_69 rfl).mpr ?_
        refine (zq_iconst (v := 5) dX1_follow_70 (by decide)).mpr ?_
        refine (zq_icmp_ne (t := 82) dX1_follow_71 rfl).mpr ⟨fun c => ?_, fun c => ?_⟩
        · replace h := h.1 c
          refine (zq_iload_n dX1_follow_82 rfl).mpr ?_
          refine (zq_bipush (v := 7) dX1_follow_83 (by decide)).mpr ?_
          refine (zq_icmp_ne (t := 93) dX1_follow_85 rfl).mpr ⟨fun c => ?_, fun c => ?_⟩
          · replace h := h.1 c
            exact (zq_ret dX1_follow_93 rfl).mpr h
          · replace h := h.2 c
            refine (zq_aload_n dX1_follow_88 rfl).mpr ?_
            refine (zq_iconst (v := 0) dX1_follow_89 (by decide)).mpr ?_
            obtain ⟨g1, h⟩ := h
            refine (zq_putZ (f := 72) dX1_follow_90 fl_1_31 (by decide) rfl rfl rfl).mpr ⟨⟨g1, (by decide)⟩, ?_⟩
            exact (zq_ret dX1_follow_93 rfl).mpr h
        · replace h := h.2 c
          refine (zq_aload_n dX1_follow_74 rfl).mpr ?_
          refine (zq_iconst (v := 1) dX1_follow_75 (by decide)).mpr ?_
          obtain ⟨g2, h⟩ := h
          refine (zq_putZ (f := 73) dX1_follow_76 fl_1_35 (by decide) rfl rfl rfl).mpr ⟨⟨g2, (by decide)⟩, ?_⟩
          refine (zq_goto (t := 93) dX1_follow_79 rfl).mpr ?_
          exact (zq_ret dX1_follow_93 rfl).mpr h
      · replace h := h.2 c
        refine (zq_aload_n dX1_follow_56 rfl).mpr ?_
        refine (zq_iconst (v := 1) dX1_follow_57 (by decide)).mpr ?_
        obtain ⟨g3, h⟩ := h
        refine (zq_putZ (f := 72) dX1_follow_58 fl_1_31 (by decide) rfl rfl rfl).mpr ⟨⟨g3, (by decide)⟩, ?_⟩
        refine (zq_aload_n dX1_follow_61 rfl).mpr ?_
        refine (zq_iconst (v := 0) dX1_follow_62 (by decide)).mpr ?_
        refine (zq_putZ (f := 73) dX1_follow_63 fl_1_35 (by decide) rfl rfl rfl).mpr ⟨⟨g3, (by decide)⟩, ?_⟩
        refine (zq_goto (t := 93) dX1_follow_66 rfl).mpr ?_
        exact (zq_ret dX1_follow_93 rfl).mpr h
    · replace h := h.2 c
      refine (zq_aload_n dX1_follow_29 rfl).mpr ?_
      refine (zq_dupR dX1_follow_30).mpr ?_
      obtain ⟨g4, h⟩ := h
      refine (zq_getI2 (f := 71) (v := (mI m 71 a0)) dX1_follow_31 fl_1_28 (by decide) rfl rfl (by first | rfl | simp only [zm_Is, zm_Rs, zm_As, zm_Os, zm_In0, zm_Rn0])).mpr ⟨g4, ?_⟩
      refine (zq_iconst (v := 1) dX1_follow_34 (by decide)).mpr ?_
      refine (zq_aload_n dX1_follow_35 rfl).mpr ?_
      refine (zq_getR2 (f := 68) (v := (mR m 68 a0)) dX1_follow_36 fl_1_18 (by decide) rfl rfl (by first | rfl | simp only [zm_Is, zm_Rs, zm_As, zm_Os, zm_In0, zm_Rn0])).mpr ⟨g4, ?_⟩
      refine (zq_iconst (v := 0) dX1_follow_39 (by decide)).mpr ?_
      obtain ⟨g5, h⟩ := h
      obtain ⟨g6, h⟩ := h
      refine (zq_iald2 (v := (mA m (mR m 68 a0) 0)) dX1_follow_40 (by first | rfl | simp only [zm_Is, zm_Rs, zm_As, zm_Os, zm_In0, zm_Rn0])).mpr ⟨⟨g5, ⟨by decide, g6⟩⟩, ?_⟩
      refine (zq_ishl dX1_follow_41).mpr ?_
      refine (zq_iconst (v := (-1)) dX1_follow_42 (by decide)).mpr ?_
      refine (zq_ixor dX1_follow_43).mpr ?_
      refine (zq_iand dX1_follow_44).mpr ?_
      refine (zq_putI (f := 71) dX1_follow_45 fl_1_28 (by decide) rfl rfl rfl).mpr ⟨g4, ?_⟩
      refine (zq_goto (t := 93) dX1_follow_48 rfl).mpr ?_
      exact (zq_ret dX1_follow_93 rfl).mpr h
  · replace h := h.2 c
    refine (zq_aload_n dX1_follow_4 rfl).mpr ?_
    refine (zq_dupR dX1_follow_5).mpr ?_
    obtain ⟨g7, h⟩ := h
    refine (zq_getI2 (f := 71) (v := (mI m 71 a0)) dX1_follow_6 fl_1_28 (by decide) rfl rfl (by first | rfl | simp only [zm_Is, zm_Rs, zm_As, zm_Os, zm_In0, zm_Rn0])).mpr ⟨g7, ?_⟩
    refine (zq_iconst (v := 1) dX1_follow_9 (by decide)).mpr ?_
    refine (zq_aload_n dX1_follow_10 rfl).mpr ?_
    refine (zq_getR2 (f := 68) (v := (mR m 68 a0)) dX1_follow_11 fl_1_18 (by decide) rfl rfl (by first | rfl | simp only [zm_Is, zm_Rs, zm_As, zm_Os, zm_In0, zm_Rn0])).mpr ⟨g7, ?_⟩
    refine (zq_iconst (v := 0) dX1_follow_14 (by decide)).mpr ?_
    obtain ⟨g8, h⟩ := h
    obtain ⟨g9, h⟩ := h
    refine (zq_iald2 (v := (mA m (mR m 68 a0) 0)) dX1_follow_15 (by first | rfl | simp only [zm_Is, zm_Rs, zm_As, zm_Os, zm_In0, zm_Rn0])).mpr ⟨⟨g8, ⟨by decide, g9⟩⟩, ?_⟩
    refine (zq_ishl dX1_follow_16).mpr ?_
    refine (zq_ior dX1_follow_17).mpr ?_
    refine (zq_putI (f := 71) dX1_follow_18 fl_1_28 (by decide) rfl rfl rfl).mpr ⟨g7, ?_⟩
    refine (zq_goto (t := 93) dX1_follow_21 rfl).mpr ?_
    exact (zq_ret dX1_follow_93 rfl).mpr h
theorem bX1_beginLoop_0 {a0 : Nat} (h : (mC m a0 = 2) ∧ ((3 ≤ (mI m 70 a0) → Q (.inl none) m) ∧ (¬ (3 ≤ (mI m 70 a0)) → (mC m (mR m 65 a0) = 6) ∧ zC xs xl d 46 [zR (mR m 65 a0)] m (fun r m2 => ∃ v3 : Int, r = .inl (some (zI v3)) ∧ (0 ≤ (mI m 70 a0) ∧ (mI m 70 a0) < mN m2 (mR m 66 a0)) ∧ (mC m2 (mR m 66 a0) = 20) ∧ (mC m2 a0 = 2) ∧ (mC m2 (mR m2 68 a0) = 20) ∧ ((0 : Int) < mN m2 (mR m2 68 a0)) ∧ (0 ≤ (mI m2 70 a0) ∧ (mI m2 70 a0) < mN m2 (mR m2 67 a0)) ∧ (mC m2 (mR m2 67 a0) = 20) ∧ Q (.inl none) (sI (sA (sA m2 (mR m 66 a0) (Int.toNat (mI m 70 a0)) v3) (mR m2 67 a0) (Int.toNat (mI m2 70 a0)) (mA (sA m2 (mR m 66 a0) (Int.toNat (mI m 70 a0)) v3) (mR m2 68 a0) 0)) 70 a0 (wr ((mI m2 70 a0) + 1))))))) : zC xs xl (d + 1) 15 [zR a0] m Q := by
  refine zk_15 ?_
  refine (zq_aload_n dX1_beginLoop_0 rfl).mpr ?_
  obtain ⟨g1, h⟩ := h
  refine (zq_getI2 (f := 70) (v := (mI m 70 a0)) dX1_beginLoop_1 fl_1_24 (by decide) rfl rfl (by first | rfl | simp only [zm_Is, zm_Rs, zm_As, zm_Os, zm_In0, zm_Rn0])).mpr ⟨g1, ?_⟩
  refine (zq_iconst (v := 3) dX1_beginLoop_4 (by decide)).mpr ?_
  refine (zq_icmp_ge (t := 49) dX1_beginLoop_5 rfl).mpr ⟨fun c => ?_, fun c => ?_⟩
  · replace h := h.1 c
    exact (zq_ret dX1_beginLoop_49 rfl).mpr h
  · replace h := h.2 c
    refine (zq_aload_n dX1_beginLoop_8 rfl).mpr ?_
    refine (zq_getR2 (f := 66) (v := (mR m 66 a0)) dX1_beginLoop_9 fl_1_9 (by decide) rfl rfl (by first | rfl | simp only [zm_Is, zm_Rs, zm_As, zm_Os, zm_In0, zm_Rn0])).mpr ⟨g1, ?_⟩
    refine (zq_aload_n dX1_beginLoop_12 rfl).mpr ?_
    refine (zq_getI2 (f := 70) (v := (mI m 70 a0)) dX1_beginLoop_13 fl_1_24 (by decide) rfl rfl (by first | rfl | simp only [zm_Is, zm_Rs, zm_As, zm_Os, zm_In0, zm_Rn0])).mpr ⟨g1, ?_⟩
    refine (zq_aload_n dX1_beginLoop_16 rfl).mpr ?_
    refine (zq_getR2 (f := 65) (v := (mR m 65 a0)) dX1_beginLoop_17 fl_1_50 (by decide) rfl rfl (by first | rfl | simp only [zm_Is, zm_Rs, zm_As, zm_Os, zm_In0, zm_Rn0])).mpr ⟨g1, ?_⟩
    obtain ⟨g4, h⟩ := h
    refine zq_virtualI (n := 0) dX1_beginLoop_20 mr_1_164 zn_46 rfl rfl rfl (zrcv_R zo_46 (by decide) g4) (Nat.le_of_ble_eq_true rfl) ?_
    refine h.mono (fun r m2 h => ?_)
    obtain ⟨v3, rfl, h⟩ := h
    refine ⟨_, rfl, ?_⟩
    obtain ⟨g5, h⟩ := h
    obtain ⟨g6, h⟩ := h
    refine (zq_iast dX1_beginLoop_23).mpr ⟨⟨g6, g5⟩, ?_⟩
    refine (zq_aload_n dX1_beginLoop_24 rfl).mpr ?_
    obtain ⟨g7, h⟩ := h
    refine (zq_getR2 (f := 67) (v := (mR m2 67 a0)) dX1_beginLoop_25 fl_1_15 (by decide) rfl rfl (by first | rfl | simp only [zm_Is, zm_Rs, zm_As, zm_Os, zm_In0, zm_Rn0])).mpr ⟨g7, ?_⟩
    refine (zq_aload_n dX1_beginLoop_28 rfl).mpr ?_
    refine (zq_getI2 (f := 70) (v := (mI m2 70 a0)) dX1_beginLoop_29 fl_1_24 (by decide) rfl rfl (by first | rfl | simp only [zm_Is, zm_Rs, zm_As, zm_Os, zm_In0, zm_Rn0])).mpr ⟨g7, ?_⟩
    refine (zq_aload_n dX1_beginLoop_32 rfl).mpr ?_
    refine (zq_getR2 (f := 68) (v := (mR m2 68 a0)) dX1_beginLoop_33 fl_1_18 (by decide) rfl rfl (by first | rfl | simp only [zm_Is, zm_Rs, zm_As, zm_Os, zm_In0, zm_Rn0])).mpr ⟨g7, ?_⟩
    refine (zq_iconst (v := 0) dX1_beginLoop_36 (by decide)).mpr ?_
    obtain ⟨g8, h⟩ := h
    obtain ⟨g9, h⟩ := h
    refine (zq_iald2 (v := (mA (sA m2 (mR m 66 a0) (Int.toNat (mI m 70 a0)) v3) (mR m2 68 a0) 0)) dX1_beginLoop_37 (by first | rfl | simp only [zm_Is, zm_Rs, zm_As, zm_Os, zm_In0, zm_Rn0])).mpr ⟨⟨g8, ⟨by decide, g9⟩⟩, ?_⟩
    obtain ⟨g10, h⟩ := h
    obtain ⟨g11, h⟩ := h
    refine (zq_iast dX1_beginLoop_38).mpr ⟨⟨g11, g10⟩, ?_⟩
    refine (zq_aload_n dX1_beginLoop_39 rfl).mpr ?_
    refine (zq_dupR dX1_beginLoop_40).mpr ?_
    refine (zq_getI2 (f := 70) (v := (mI m2 70 a0)) dX1_beginLoop_41 fl_1_24 (by decide) rfl rfl (by first | rfl | simp only [zm_Is, zm_Rs, zm_As, zm_Os, zm_In0, zm_Rn0])).mpr ⟨g7, ?_⟩
    refine (zq_iconst (v := 1) dX1_beginLoop_44 (by decide)).mpr ?_
    refine (zq_iadd dX1_beginLoop_45).mpr ?_
    refine (zq_putI (f := 70) dX1_beginLoop_46 fl_1_24 (by decide) rfl rfl rfl).mpr ⟨g7, ?_⟩
    exact (zq_ret dX1_beginLoop_49 rfl).mpr h
theorem bX1_endRound_0 {a0 : Nat} (h : (mC m a0 = 2) ∧ (((mI m 70 a0) ≠ 0 → (mC m (mR m 67 a0) = 20) ∧ (0 ≤ (wr ((mI m 70 a0) - 1)) ∧ (wr ((mI m 70 a0) - 1)) < mN m (mR m 67 a0)) ∧ (((wr ((mA m (mR m 67 a0) (Int.toNat (wr ((mI m 70 a0) - 1)))) - 1)) ≤ 0 → Q (.inl none) (sI (sA m (mR m 67 a0) (Int.toNat (wr ((mI m 70 a0) - 1))) (wr ((mA m (mR m 67 a0) (Int.toNat (wr ((mI m 70 a0) - 1)))) - 1))) 70 a0 (wr ((mI m 70 a0) - 1)))) ∧ (¬ ((wr ((mA m (mR m 67 a0) (Int.toNat (wr ((mI m 70 a0) - 1)))) - 1)) ≤ 0) → (mC m (mR m 66 a0) = 20) ∧ (0 ≤ (wr ((mI m 70 a0) - 1)) ∧ (wr ((mI m 70 a0) - 1)) < mN m (mR m 66 a0)) ∧ (mC m (mR m 65 a0) = 6) ∧ zC xs xl d 47 [zR (mR m 65 a0), zI (mA (sA m (mR m 67 a0) (Int.toNat (wr ((mI m 70 a0) - 1))) (wr ((mA m (mR m 67 a0) (Int.toNat (wr ((mI m 70 a0) - 1)))) - 1))) (mR m 66 a0) (Int.toNat (wr ((mI m 70 a0) - 1))))] (sA m (mR m 67 a0) (Int.toNat (wr ((mI m 70 a0) - 1))) (wr ((mA m (mR m 67 a0) (Int.toNat (wr ((mI m 70 a0) - 1)))) - 1))) (fun r m6 => r = .inl none ∧ Q (.inl none) m6)))) ∧ (¬ ((mI m 70 a0) ≠ 0) → Q (.inl none) m))) : zC xs xl (d + 1) 16 [zR a0] m Q := by
  refine zk_16 ?_
  refine (zq_aload_n dX1_endRound_0 rfl).mpr ?_
  obtain ⟨g1, h⟩ := h
  refine (zq_getI2 (f := 70) (v := (mI m 70 a0)) dX1_endRound_1 fl_1_24 (by decide) rfl rfl (by first | rfl | simp only [zm_Is, zm_Rs, zm_As, zm_Os, zm_In0, zm_Rn0])).mpr ⟨g1, ?_⟩
  refine (zq_if_ne (t := 8) dX1_endRound_4 rfl).mpr ⟨fun c => ?_, fun c => ?_⟩
  · replace h := h.1 c
    refine (zq_aload_n dX1_endRound_8 rfl).mpr ?_
    refine (zq_getI2 (f := 70) (v := (mI m 70 a0)) dX1_endRound_9 fl_1_24 (by decide) rfl rfl (by first | rfl | simp only [zm_Is, zm_Rs, zm_As, zm_Os, zm_In0, zm_Rn0])).mpr ⟨g1, ?_⟩
    refine (zq_iconst (v := 1) dX1_endRound_12 (by decide)).mpr ?_
    refine (zq_isub dX1_endRound_13).mpr ?_
    refine (zq_istore_n (l := [zR a0, zI (wr ((mI m 70 a0) - 1))]) dX1_endRound_14 (Nat.le_of_ble_eq_true rfl) rfl).mpr ?_
    refine (zq_aload_n dX1_endRound_15 rfl).mpr ?_
    refine (zq_getR2 (f := 67) (v := (mR m 67 a0)) dX1_endRound_16 fl_1_15 (by decide) rfl rfl (by first | rfl | simp only [zm_Is, zm_Rs, zm_As, zm_Os, zm_In0, zm_Rn0])).mpr ⟨g1, ?_⟩
    refine (zq_iload_n dX1_endRound_19 rfl).mpr ?_
    refine (zq_dup2IR dX1_endRound_20).mpr ?_
    obtain ⟨g2, h⟩ := h
    obtain ⟨g3, h⟩ := h
    refine (zq_iald2 (v := (mA m (mR m 67 a0) (Int.toNat (wr ((mI m 70 a0) - 1))))) dX1_endRound_21 (by first | rfl | simp only [zm_Is, zm_Rs, zm_As, zm_Os, zm_In0, zm_Rn0])).mpr ⟨⟨g2, g3⟩, ?_⟩
    refine (zq_iconst (v := 1) dX1_endRound_22 (by decide)).mpr ?_
    refine (zq_isub dX1_endRound_23).mpr ?_
    refine (zq_iast dX1_endRound_24).mpr ⟨⟨g2, g3⟩, ?_⟩
    refine (zq_aload_n dX1_endRound_25 rfl).mpr ?_
    refine (zq_getR2 (f := 67) (v := (mR m 67 a0)) dX1_endRound_26 fl_1_15 (by decide) rfl rfl (by first | rfl | simp only [zm_Is, zm_Rs, zm_As, zm_Os, zm_In0, zm_Rn0])).mpr ⟨g1, ?_⟩
    refine (zq_iload_n dX1_endRound_29 rfl).mpr ?_
    refine (zq_iald2 (v := (wr ((mA m (mR m 67 a0) (Int.toNat (wr ((mI m 70 a0) - 1)))) - 1))) dX1_endRound_30 (by first | rfl | simp only [zm_Is, zm_Rs, zm_As, zm_Os, zm_In0, zm_Rn0])).mpr ⟨⟨g2, g3⟩, ?_⟩
    refine (zq_if_le (t := 50) dX1_endRound_31 rfl).mpr ⟨fun c => ?_, fun c => ?_⟩
    · replace h := h.1 c
      refine (zq_aload_n dX1_endRound_50 rfl).mpr ?_
      refine (zq_dupR dX1_endRound_51).mpr ?_
      refine (zq_getI2 (f := 70) (v := (mI m 70 a0)) dX1_endRound_52 fl_1_24 (by decide) rfl rfl (by first | rfl | simp only [zm_Is, zm_Rs, zm_As, zm_Os, zm_In0, zm_Rn0])).mpr ⟨g1, ?_⟩
      refine (zq_iconst (v := 1) dX1_endRound_55 (by decide)).mpr ?_
      refine (zq_isub dX1_endRound_56).mpr ?_
      refine (zq_putI (f := 70) dX1_endRound_57 fl_1_24 (by decide) rfl rfl rfl).mpr ⟨g1, ?_⟩
      exact (zq_ret dX1_endRound_60 rfl).mpr h
    · replace h := h.2 c
      refine (zq_aload_n dX1_endRound_34 rfl).mpr ?_
      refine (zq_getR2 (f := 65) (v := (mR m 65 a0)) dX1_endRound_35 fl_1_50 (by decide) rfl rfl (by first | rfl | simp only [zm_Is, zm_Rs, zm_As, zm_Os, zm_In0, zm_Rn0])).mpr ⟨g1, ?_⟩
      refine (zq_aload_n dX1_endRound_38 rfl).mpr ?_
      refine (zq_getR2 (f := 66) (v := (mR m 66 a0)) dX1_endRound_39 fl_1_9 (by decide) rfl rfl (by first | rfl | simp only [zm_Is, zm_Rs, zm_As, zm_Os, zm_In0, zm_Rn0])).mpr ⟨g1, ?_⟩
      refine (zq_iload_n dX1_endRound_42 rfl).mpr ?_
      obtain ⟨g4, h⟩ := h
      obtain ⟨g5, h⟩ := h
      refine (zq_iald2 (v := (mA (sA m (mR m 67 a0) (Int.toNat (wr ((mI m 70 a0) - 1))) (wr ((mA m (mR m 67 a0) (Int.toNat (wr ((mI m 70 a0) - 1)))) - 1))) (mR m 66 a0) (Int.toNat (wr ((mI m 70 a0) - 1))))) dX1_endRound_43 (by first | rfl | simp only [zm_Is, zm_Rs, zm_As, zm_Os, zm_In0, zm_Rn0])).mpr ⟨⟨g4, g5⟩, ?_⟩
      obtain ⟨g8, h⟩ := h
      refine zq_virtualV (n := 1) dX1_endRound_44 mr_1_65 zn_47 rfl rfl rfl (zrcv_R zo_47 (by decide) g8) (Nat.le_of_ble_eq_true rfl) ?_
      refine h.mono (fun r m6 h => ?_)
      obtain ⟨rfl, h⟩ := h
      refine ⟨rfl, ?_⟩
      refine (zq_goto (t := 60) dX1_endRound_47 rfl).mpr ?_
      exact (zq_ret dX1_endRound_60 rfl).mpr h
  · replace h := h.2 c
    exact (zq_ret dX1_endRound_7 rfl).mpr h
theorem bX2_init_0 {a0 : Nat} (h : (a0 ≠ 0) ∧ (mC m a0 = 3) ∧ (∀ m3 : zM, m3 = nwA (sI (sI (sI (sI (sI m 128 a0 0) 129 a0 0) 130 a0 0) 131 a0 0) 132 a0 0) 20 3 → (mC m3 a0 = 3) ∧ (∀ m5 : zM, m5 = nwA (sR m3 133 a0 (mz m)) 20 3 → (mC m5 a0 = 3) ∧ Q (.inl none) (sR m5 134 a0 (mz m3))))) : zC xs xl (d + 1) 17 [zR a0] m Q := by
  refine zk_17 ?_
  refine (zq_aload_n dX2_init_0 rfl).mpr ?_
  obtain ⟨g1, h⟩ := h
  refine (zq_oinit dX2_init_1 mr_2_3).mpr ⟨⟨g1, (Nat.le_of_ble_eq_true rfl)⟩, ?_⟩
  refine (zq_aload_n dX2_init_4 rfl).mpr ?_
  refine (zq_iconst (v := 0) dX2_init_5 (by decide)).mpr ?_
  obtain ⟨g2, h⟩ := h
  refine (zq_putZ (f := 128) dX2_init_6 fl_2_9 (by decide) rfl rfl rfl).mpr ⟨⟨g2, (by decide)⟩, ?_⟩
  refine (zq_aload_n dX2_init_9 rfl).mpr ?_
  refine (zq_iconst (v := 0) dX2_init_10 (by decide)).mpr ?_
  refine (zq_putI (f := 129) dX2_init_11 fl_2_15 (by decide) rfl rfl rfl).mpr ⟨g2, ?_⟩
  refine (zq_aload_n dX2_init_14 rfl).mpr ?_
  refine (zq_iconst (v := 0) dX2_init_15 (by decide)).mpr ?_
  refine (zq_putI (f := 130) dX2_init_16 fl_2_19 (by decide) rfl rfl rfl).mpr ⟨g2, ?_⟩
  refine (zq_aload_n dX2_init_19 rfl).mpr ?_
  refine (zq_iconst (v := 0) dX2_init_20 (by decide)).mpr ?_
  refine (zq_putI (f := 131) dX2_init_21 fl_2_22 (by decide) rfl rfl rfl).mpr ⟨g2, ?_⟩
  refine (zq_aload_n dX2_init_24 rfl).mpr ?_
  refine (zq_iconst (v := 0) dX2_init_25 (by decide)).mpr ?_
  refine (zq_putI (f := 132) dX2_init_26 fl_2_25 (by decide) rfl rfl rfl).mpr ⟨g2, ?_⟩
  refine (zq_aload_n dX2_init_29 rfl).mpr ?_
  refine (zq_iconst (v := 3) dX2_init_30 (by decide)).mpr ?_
  refine zq_newarray2 (kd := 20) (i := 3) dX2_init_31 rfl (by decide) rfl ⟨by decide, by decide⟩ (fun m3 em3 => ?_)
  replace h := h m3 em3
  obtain ⟨g4, h⟩ := h
  refine (zq_putR (f := 133) dX2_init_33 fl_2_28 (by decide) rfl rfl rfl).mpr ⟨g4, ?_⟩
  refine (zq_aload_n dX2_init_36 rfl).mpr ?_
  refine (zq_iconst (v := 3) dX2_init_37 (by decide)).mpr ?_
  refine zq_newarray2 (kd := 20) (i := 3) dX2_init_38 rfl (by decide) rfl ⟨by decide, by decide⟩ (fun m5 em5 => ?_)
  replace h := h m5 em5
  obtain ⟨g6, h⟩ := h
  refine (zq_putR (f := 134) dX2_init_40 fl_2_32 (by decide) rfl rfl rfl).mpr ⟨g6, ?_⟩
  exact (zq_ret dX2_init_43 rfl).mpr h
theorem bX2_appear_0 {a0 : Nat} {a1 : Int} {a2 : Int} (h : (mC m a0 = 3) ∧ Q (.inl none) (sI (sI (sI (sI m 128 a0 1) 129 a0 a1) 130 a0 a2) 131 a0 20)) : zC xs xl (d + 1) 18 [zR a0, zI a1, zI a2] m Q := by
  refine zk_18 ?_
  refine (zq_aload_n dX2_appear_0 rfl).mpr ?_
  refine (zq_iconst (v := 1) dX2_appear_1 (by decide)).mpr ?_
  obtain ⟨g1, h⟩ := h
  refine (zq_putZ (f := 128) dX2_appear_2 fl_2_9 (by decide) rfl rfl rfl).mpr ⟨⟨g1, (by decide)⟩, ?_⟩
  refine (zq_aload_n dX2_appear_5 rfl).mpr ?_
  refine (zq_iload_n dX2_appear_6 rfl).mpr ?_
  refine (zq_putI (f := 129) dX2_appear_7 fl_2_15 (by decide) rfl rfl rfl).mpr ⟨g1, ?_⟩
  refine (zq_aload_n dX2_appear_10 rfl).mpr ?_
  refine (zq_iload_n dX2_appear_11 rfl).mpr ?_
  refine (zq_putI (f := 130) dX2_appear_12 fl_2_19 (by decide) rfl rfl rfl).mpr ⟨g1, ?_⟩
  refine (zq_aload_n dX2_appear_15 rfl).mpr ?_
  refine (zq_bipush (v := 20) dX2_appear_16 (by decide)).mpr ?_
  refine (zq_putI (f := 131) dX2_appear_18 fl_2_22 (by decide) rfl rfl rfl).mpr ⟨g1, ?_⟩
  exact (zq_ret dX2_appear_21 rfl).mpr h
theorem bX2_vanish_0 {a0 : Nat} (h : (mC m a0 = 3) ∧ zC xs xl d 221 [zR (mR m 133 a0), zI 0] (sI (sI (sI (sI (sI m 128 a0 0) 129 a0 0) 130 a0 0) 131 a0 0) 132 a0 0) (fun r m2 => r = .inl none ∧ (mC m2 a0 = 3) ∧ zC xs xl d 221 [zR (mR m2 134 a0), zI 0] m2 (fun r m5 => r = .inl none ∧ Q (.inl none) m5))) : zC xs xl (d + 1) 19 [zR a0] m Q := by
  refine zk_19 ?_
  refine (zq_aload_n dX2_vanish_0 rfl).mpr ?_
  refine (zq_iconst (v := 0) dX2_vanish_1 (by decide)).mpr ?_
  obtain ⟨g1, h⟩ := h
  refine (zq_putZ (f := 128) dX2_vanish_2 fl_2_9 (by decide) rfl rfl rfl).mpr ⟨⟨g1, (by decide)⟩, ?_⟩
  refine (zq_aload_n dX2_vanish_5 rfl).mpr ?_
  refine (zq_iconst (v := 0) dX2_vanish_6 (by decide)).mpr ?_
  refine (zq_putI (f := 129) dX2_vanish_7 fl_2_15 (by decide) rfl rfl rfl).mpr ⟨g1, ?_⟩
  refine (zq_aload_n dX2_vanish_10 rfl).mpr ?_
  refine (zq_iconst (v := 0) dX2_vanish_11 (by decide)).mpr ?_
  refine (zq_putI (f := 130) dX2_vanish_12 fl_2_19 (by decide) rfl rfl rfl).mpr ⟨g1, ?_⟩
  refine (zq_aload_n dX2_vanish_15 rfl).mpr ?_
  refine (zq_iconst (v := 0) dX2_vanish_16 (by decide)).mpr ?_
  refine (zq_putI (f := 131) dX2_vanish_17 fl_2_22 (by decide) rfl rfl rfl).mpr ⟨g1, ?_⟩
  refine (zq_aload_n dX2_vanish_20 rfl).mpr ?_
  refine (zq_iconst (v := 0) dX2_vanish_21 (by decide)).mpr ?_
  refine (zq_putI (f := 132) dX2_vanish_22 fl_2_25 (by decide) rfl rfl rfl).mpr ⟨g1, ?_⟩
  refine (zq_aload_n dX2_vanish_25 rfl).mpr ?_
  refine (zq_getR2 (f := 133) (v := (mR m 133 a0)) dX2_vanish_26 fl_2_28 (by decide) rfl rfl (by first | rfl | simp only [zm_Is, zm_Rs, zm_As, zm_Os, zm_In0, zm_Rn0])).mpr ⟨g1, ?_⟩
  refine (zq_iconst (v := 0) dX2_vanish_29 (by decide)).mpr ?_
  refine zq_staticV (n := 2) dX2_vanish_30 mr_2_35 zn_221 rfl rfl (Nat.le_of_ble_eq_true rfl) (Nat.le_of_ble_eq_true rfl) ?_
  refine h.mono (fun r m2 h => ?_)
  obtain ⟨rfl, h⟩ := h
  refine ⟨rfl, ?_⟩
  refine (zq_aload_n dX2_vanish_33 rfl).mpr ?_
  obtain ⟨g4, h⟩ := h
  refine (zq_getR2 (f := 134) (v := (mR m2 134 a0)) dX2_vanish_34 fl_2_32 (by decide) rfl rfl (by first | rfl | simp only [zm_Is, zm_Rs, zm_As, zm_Os, zm_In0, zm_Rn0])).mpr ⟨g4, ?_⟩
  refine (zq_iconst (v := 0) dX2_vanish_37 (by decide)).mpr ?_
  refine zq_staticV (n := 2) dX2_vanish_38 mr_2_35 zn_221 rfl rfl (Nat.le_of_ble_eq_true rfl) (Nat.le_of_ble_eq_true rfl) ?_
  refine h.mono (fun r m5 h => ?_)
  obtain ⟨rfl, h⟩ := h
  refine ⟨rfl, ?_⟩
  exact (zq_ret dX2_vanish_41 rfl).mpr h
theorem bX2_soak_0 {a0 : Nat} (h : (mC m a0 = 3) ∧ zC xs xl d 24 [zR a0, zI 10] (sI m 130 a0 (if (wr ((mI m 130 a0) + 8)) < 100 then (wr ((mI m 130 a0) + 8)) else 100)) (fun r m2 => r = .inl none ∧ Q (.inl none) m2)) : zC xs xl (d + 1) 20 [zR a0] m Q := by
  refine zk_20 ?_
  refine (zq_aload_n dX2_soak_0 rfl).mpr ?_
  refine (zq_bipush (v := 100) dX2_soak_1 (by decide)).mpr ?_
  refine (zq_aload_n dX2_soak_3 rfl).mpr ?_
  obtain ⟨g1, h⟩ := h
  refine (zq_getI2 (f := 130) (v := (mI m 130 a0)) dX2_soak_4 fl_2_19 (by decide) rfl rfl (by first | rfl | simp only [zm_Is, zm_Rs, zm_As, zm_Os, zm_In0, zm_Rn0])).mpr ⟨g1, ?_⟩
  refine (zq_bipush (v := 8) dX2_soak_7 (by decide)).mpr ?_
  refine (zq_iadd dX2_soak_9).mpr ?_
  refine (zq_min dX2_soak_10 mr_2_41).mpr ⟨(Nat.le_of_ble_eq_true rfl), ?_⟩
  refine (zq_putI (f := 130) dX2_soak_13 fl_2_19 (by decide) rfl rfl rfl).mpr ⟨g1, ?_⟩
  refine (zq_aload_n dX2_soak_16 rfl).mpr ?_
  refine (zq_bipush (v := 10) dX2_soak_17 (by decide)).mpr ?_
  refine zq_virtualV (n := 1) dX2_soak_19 mr_2_47 zn_24 rfl rfl rfl (zrcv_R zo_24 (by decide) g1) (Nat.le_of_ble_eq_true rfl) ?_
  refine h.mono (fun r m2 h => ?_)
  obtain ⟨rfl, h⟩ := h
  refine ⟨rfl, ?_⟩
  exact (zq_ret dX2_soak_22 rfl).mpr h
theorem bX2_warm_0 {a0 : Nat} (h : (mC m a0 = 3) ∧ zC xs xl d 25 [zR a0, zI 3] (sI m 131 a0 (if (wr ((mI m 131 a0) + 25)) < 200 then (wr ((mI m 131 a0) + 25)) else 200)) (fun r m2 => r = .inl none ∧ Q (.inl none) m2)) : zC xs xl (d + 1) 21 [zR a0] m Q := by
  refine zk_21 ?_
  refine (zq_aload_n dX2_warm_0 rfl).mpr ?_
  refine (zq_sipush (v := 200) dX2_warm_1 (by decide)).mpr ?_
  refine (zq_aload_n dX2_warm_4 rfl).mpr ?_
  obtain ⟨g1, h⟩ := h
  refine (zq_getI2 (f := 131) (v := (mI m 131 a0)) dX2_warm_5 fl_2_22 (by decide) rfl rfl (by first | rfl | simp only [zm_Is, zm_Rs, zm_As, zm_Os, zm_In0, zm_Rn0])).mpr ⟨g1, ?_⟩
  refine (zq_bipush (v := 25) dX2_warm_8 (by decide)).mpr ?_
  refine (zq_iadd dX2_warm_10).mpr ?_
  refine (zq_min dX2_warm_11 mr_2_41).mpr ⟨(Nat.le_of_ble_eq_true rfl), ?_⟩
  refine (zq_putI (f := 131) dX2_warm_14 fl_2_22 (by decide) rfl rfl rfl).mpr ⟨g1, ?_⟩
  refine (zq_aload_n dX2_warm_17 rfl).mpr ?_
  refine (zq_iconst (v := 3) dX2_warm_18 (by decide)).mpr ?_
  refine zq_virtualV (n := 1) dX2_warm_19 mr_2_51 zn_25 rfl rfl rfl (zrcv_R zo_25 (by decide) g1) (Nat.le_of_ble_eq_true rfl) ?_
  refine h.mono (fun r m2 h => ?_)
  obtain ⟨rfl, h⟩ := h
  refine ⟨rfl, ?_⟩
  exact (zq_ret dX2_warm_22 rfl).mpr h
theorem bX2_isBurning_0 {a0 : Nat} (h : (mC m a0 = 3) ∧ (((mI m 131 a0) ≤ 150 → Q (.inl (some (zI 0))) m) ∧ (¬ ((mI m 131 a0) ≤ 150) → ((10 ≤ (mI m 130 a0) → Q (.inl (some (zI 0))) m) ∧ (¬ (10 ≤ (mI m 130 a0)) → Q (.inl (some (zI 1))) m))))) : zC xs xl (d + 1) 22 [zR a0] m Q := by
  refine zk_22 ?_
  refine (zq_aload_n dX2_isBurning_0 rfl).mpr ?_
  obtain ⟨g1, h⟩ := h
  refine (zq_getI2 (f := 131) (v := (mI m 131 a0)) dX2_isBurning_1 fl_2_22 (by decide) rfl rfl (by first | rfl | simp only [zm_Is, zm_Rs, zm_As, zm_Os, zm_In0, zm_Rn0])).mpr ⟨g1, ?_⟩
  refine (zq_sipush (v := 150) dX2_isBurning_4 (by decide)).mpr ?_
  refine (zq_icmp_le (t := 23) dX2_isBurning_7 rfl).mpr ⟨fun c => ?_, fun c => ?_⟩
  · replace h := h.1 c
    refine (zq_iconst (v := 0) dX2_isBurning_23 (by decide)).mpr ?_
    exact (zq_iret dX2_isBurning_24 rfl).mpr ⟨Or.inl rfl, h⟩
  · replace h := h.2 c
    refine (zq_aload_n dX2_isBurning_10 rfl).mpr ?_
    refine (zq_getI2 (f := 130) (v := (mI m 130 a0)) dX2_isBurning_11 fl_2_19 (by decide) rfl rfl (by first | rfl | simp only [zm_Is, zm_Rs, zm_As, zm_Os, zm_In0, zm_Rn0])).mpr ⟨g1, ?_⟩
    refine (zq_bipush (v := 10) dX2_isBurning_14 (by decide)).mpr ?_
    refine (zq_icmp_ge (t := 23) dX2_isBurning_16 rfl).mpr ⟨fun c => ?_, fun c => ?_⟩
    · replace h := h.1 c
      refine (zq_iconst (v := 0) dX2_isBurning_23 (by decide)).mpr ?_
      exact (zq_iret dX2_isBurning_24 rfl).mpr ⟨Or.inl rfl, h⟩
    · replace h := h.2 c
      refine (zq_iconst (v := 1) dX2_isBurning_19 (by decide)).mpr ?_
      refine (zq_goto (t := 24) dX2_isBurning_20 rfl).mpr ?_
      exact (zq_iret dX2_isBurning_24 rfl).mpr ⟨Or.inr rfl, h⟩
theorem bX2_settle_0 {a0 : Nat} (h : (mC m a0 = 3) ∧ zC xs xl d 25 [zR a0, zI 4] m (fun r m1 => r = .inl none ∧ (mC m1 a0 = 3) ∧ zC xs xl d 24 [zR a0, zI 15] m1 (fun r m4 => r = .inl none ∧ Q (.inl none) m4))) : zC xs xl (d + 1) 23 [zR a0] m Q := by
  refine zk_23 ?_
  refine (zq_aload_n dX2_settle_0 rfl).mpr ?_
  refine (zq_iconst (v := 4) dX2_settle_1 (by decide)).mpr ?_
  obtain ⟨g3, h⟩ := h
  refine zq_virtualV (n := 1) dX2_settle_2 mr_2_51 zn_25 rfl rfl rfl (zrcv_R zo_25 (by decide) g3) (Nat.le_of_ble_eq_true rfl) ?_
  refine h.mono (fun r m1 h => ?_)
  obtain ⟨rfl, h⟩ := h
  refine ⟨rfl, ?_⟩
  refine (zq_aload_n dX2_settle_5 rfl).mpr ?_
  refine (zq_bipush (v := 15) dX2_settle_6 (by decide)).mpr ?_
  obtain ⟨g6, h⟩ := h
  refine zq_virtualV (n := 1) dX2_settle_8 mr_2_47 zn_24 rfl rfl rfl (zrcv_R zo_24 (by decide) g6) (Nat.le_of_ble_eq_true rfl) ?_
  refine h.mono (fun r m4 h => ?_)
  obtain ⟨rfl, h⟩ := h
  refine ⟨rfl, ?_⟩
  exact (zq_ret dX2_settle_11 rfl).mpr h
theorem bX2_cool_0 {a0 : Nat} {a1 : Int} (h : (mC m a0 = 3) ∧ Q (.inl none) (sI m 131 a0 (if 20 < (wr ((mI m 131 a0) - a1)) then (wr ((mI m 131 a0) - a1)) else 20))) : zC xs xl (d + 1) 24 [zR a0, zI a1] m Q := by
  refine zk_24 ?_
  refine (zq_aload_n dX2_cool_0 rfl).mpr ?_
  refine (zq_bipush (v := 20) dX2_cool_1 (by decide)).mpr ?_
  refine (zq_aload_n dX2_cool_3 rfl).mpr ?_
  obtain ⟨g1, h⟩ := h
  refine (zq_getI2 (f := 131) (v := (mI m 131 a0)) dX2_cool_4 fl_2_22 (by decide) rfl rfl (by first | rfl | simp only [zm_Is, zm_Rs, zm_As, zm_Os, zm_In0, zm_Rn0])).mpr ⟨g1, ?_⟩
  refine (zq_iload_n dX2_cool_7 rfl).mpr ?_
  refine (zq_isub dX2_cool_8).mpr ?_
  refine (zq_max dX2_cool_9 mr_2_54).mpr ⟨(Nat.le_of_ble_eq_true rfl), ?_⟩
  refine (zq_putI (f := 131) dX2_cool_12 fl_2_22 (by decide) rfl rfl rfl).mpr ⟨g1, ?_⟩
  exact (zq_ret dX2_cool_15 rfl).mpr h
theorem bX2_dry_0 {a0 : Nat} {a1 : Int} (h : (mC m a0 = 3) ∧ Q (.inl none) (sI m 130 a0 (if 0 < (wr ((mI m 130 a0) - a1)) then (wr ((mI m 130 a0) - a1)) else 0))) : zC xs xl (d + 1) 25 [zR a0, zI a1] m Q := by
  refine zk_25 ?_
  refine (zq_aload_n dX2_dry_0 rfl).mpr ?_
  refine (zq_iconst (v := 0) dX2_dry_1 (by decide)).mpr ?_
  refine (zq_aload_n dX2_dry_2 rfl).mpr ?_
  obtain ⟨g1, h⟩ := h
  refine (zq_getI2 (f := 130) (v := (mI m 130 a0)) dX2_dry_3 fl_2_19 (by decide) rfl rfl (by first | rfl | simp only [zm_Is, zm_Rs, zm_As, zm_Os, zm_In0, zm_Rn0])).mpr ⟨g1, ?_⟩
  refine (zq_iload_n dX2_dry_6 rfl).mpr ?_
  refine (zq_isub dX2_dry_7).mpr ?_
  refine (zq_max dX2_dry_8 mr_2_54).mpr ⟨(Nat.le_of_ble_eq_true rfl), ?_⟩
  refine (zq_putI (f := 130) dX2_dry_11 fl_2_19 (by decide) rfl rfl rfl).mpr ⟨g1, ?_⟩
  exact (zq_ret dX2_dry_14 rfl).mpr h
theorem bX2_bendTowards_0 {a0 : Nat} {a1 : Nat} (h : (mC m a0 = 3) ∧ (mC m a1 = 1) ∧ ((0 : Int) < mN m (mR m 134 a0)) ∧ (mC m (mR m 134 a0) = 20) ∧ ((1 : Int) < mN m (mR m 134 a0)) ∧ ((2 : Int) < mN m (mR m 134 a0)) ∧ zC xs xl d 27 [zR a0] (sA (sA (sA m (mR m 134 a0) 0 (mI m 1 a1)) (mR m 134 a0) 1 (mI m 2 a1)) (mR m 134 a0) 2 (mI m 3 a1)) (fun r m7 => ∃ v8 : Int, r = .inl (some (zI v8)) ∧ ((wr (100 * v8)) ≠ 0) ∧ (((wr (Int.tdiv (wr ((mI m 131 a0) * (wr ((mI m 130 a0) + 20)))) (wr (100 * v8)))) ≠ 0 → zW xs xl d cX2_bendTowards 2 (some .int) false [] 84 [zR a0, zR a1, zI (wr (Int.tdiv (wr ((mI m 131 a0) * (wr ((mI m 130 a0) + 20)))) (wr (100 * v8)))), zI 0] [] m7 Q) ∧ (¬ ((wr (Int.tdiv (wr ((mI m 131 a0) * (wr ((mI m 130 a0) + 20)))) (wr (100 * v8)))) ≠ 0) → (mC m7 a0 = 3) ∧ zC xs xl d 28 [zR a0] m7 (fun r m10 => ∃ v11 : Int, r = .inl (some (zI v11)) ∧ ((v11 ≠ 0 → zW xs xl d cX2_bendTowards 2 (some .int) false [] 84 [zR a0, zR a1, zI (wr (Int.tdiv (wr ((mI m 131 a0) * (wr ((mI m 130 a0) + 20)))) (wr (100 * v8)))), zI 0] [] m10 Q) ∧ (¬ (v11 ≠ 0) → (mC m10 a0 = 3) ∧ (((wr ((mI m10 132 a0) + 1)) < 3 → zW xs xl d cX2_bendTowards 2 (some .int) false [] 117 [zR a0, zR a1, zI (wr (Int.tdiv (wr ((mI m 131 a0) * (wr ((mI m 130 a0) + 20)))) (wr (100 * v8)))), zU] [] (sI m10 132 a0 (wr ((mI m10 132 a0) + 1))) Q) ∧ (¬ ((wr ((mI m10 132 a0) + 1)) < 3) → Q (.inl (some (zI 2))) (sI m10 132 a0 (wr ((mI m10 132 a0) + 1)))))))))))) : zC xs xl (d + 1) 26 [zR a0, zR a1] m Q := by
  refine zk_26 ?_
  refine (zq_aload_n dX2_bendTowards_0 rfl).mpr ?_
  obtain ⟨g1, h⟩ := h
  refine (zq_getR2 (f := 134) (v := (mR m 134 a0)) dX2_bendTowards_1 fl_2_32 (by decide) rfl rfl (by first | rfl | simp only [zm_Is, zm_Rs, zm_As, zm_Os, zm_In0, zm_Rn0])).mpr ⟨g1, ?_⟩
  refine (zq_iconst (v := 0) dX2_bendTowards_4 (by decide)).mpr ?_
  refine (zq_aload_n dX2_bendTowards_5 rfl).mpr ?_
  obtain ⟨g2, h⟩ := h
  refine (zq_getI2 (f := 1) (v := (mI m 1 a1)) dX2_bendTowards_6 fl_2_57 (by decide) rfl rfl (by first | rfl | simp only [zm_Is, zm_Rs, zm_As, zm_Os, zm_In0, zm_Rn0])).mpr ⟨g2, ?_⟩
  obtain ⟨g3, h⟩ := h
  obtain ⟨g4, h⟩ := h
  refine (zq_iast dX2_bendTowards_9).mpr ⟨⟨g4, ⟨by decide, g3⟩⟩, ?_⟩
  refine (zq_aload_n dX2_bendTowards_10 rfl).mpr ?_
  refine (zq_getR2 (f := 134) (v := (mR m 134 a0)) dX2_bendTowards_11 fl_2_32 (by decide) rfl rfl (by first | rfl | simp only [zm_Is, zm_Rs, zm_As, zm_Os, zm_In0, zm_Rn0])).mpr ⟨g1, ?_⟩
  refine (zq_iconst (v := 1) dX2_bendTowards_14 (by decide)).mpr ?_
  refine (zq_aload_n dX2_bendTowards_15 rfl).mpr ?_
  refine (zq_getI2 (f := 2) (v := (mI m 2 a1)) dX2_bendTowards_16 fl_2_62 (by decide) rfl rfl (by first | rfl | simp only [zm_Is, zm_Rs, zm_As, zm_Os, zm_In0, zm_Rn0])).mpr ⟨g2, ?_⟩
  obtain ⟨g5, h⟩ := h
  refine (zq_iast dX2_bendTowards_19).mpr ⟨⟨g4, ⟨by decide, g5⟩⟩, ?_⟩
  refine (zq_aload_n dX2_bendTowards_20 rfl).mpr ?_
  refine (zq_getR2 (f := 134) (v := (mR m 134 a0)) dX2_bendTowards_21 fl_2_32 (by decide) rfl rfl (by first | rfl | simp only [zm_Is, zm_Rs, zm_As, zm_Os, zm_In0, zm_Rn0])).mpr ⟨g1, ?_⟩
  refine (zq_iconst (v := 2) dX2_bendTowards_24 (by decide)).mpr ?_
  refine (zq_aload_n dX2_bendTowards_25 rfl).mpr ?_
  refine (zq_getI2 (f := 3) (v := (mI m 3 a1)) dX2_bendTowards_26 fl_2_65 (by decide) rfl rfl (by first | rfl | simp only [zm_Is, zm_Rs, zm_As, zm_Os, zm_In0, zm_Rn0])).mpr ⟨g2, ?_⟩
  obtain ⟨g6, h⟩ := h
  refine (zq_iast dX2_bendTowards_29).mpr ⟨⟨g4, ⟨by decide, g6⟩⟩, ?_⟩
  refine (zq_aload_n dX2_bendTowards_30 rfl).mpr ?_
  refine (zq_getI2 (f := 131) (v := (mI m 131 a0)) dX2_bendTowards_31 fl_2_22 (by decide) rfl rfl (by first | rfl | simp only [zm_Is, zm_Rs, zm_As, zm_Os, zm_In0, zm_Rn0])).mpr ⟨g1, ?_⟩
  refine (zq_aload_n dX2_bendTowards_34 rfl).mpr ?_
  refine (zq_getI2 (f := 130) (v := (mI m 130 a0)) dX2_bendTowards_35 fl_2_19 (by decide) rfl rfl (by first | rfl | simp only [zm_Is, zm_Rs, zm_As, zm_Os, zm_In0, zm_Rn0])).mpr ⟨g1, ?_⟩
  refine (zq_bipush (v := 20) dX2_bendTowards_38 (by decide)).mpr ?_
  refine (zq_iadd dX2_bendTowards_40).mpr ?_
  refine (zq_imul dX2_bendTowards_41).mpr ?_
  refine (zq_bipush (v := 100) dX2_bendTowards_42 (by decide)).mpr ?_
  refine (zq_aload_n dX2_bendTowards_44 rfl).mpr ?_
  refine zq_virtualI (n := 0) dX2_bendTowards_45 mr_2_68 zn_27 rfl rfl rfl (zrcv_R zo_27 (by decide) g1) (Nat.le_of_ble_eq_true rfl) ?_
  refine h.mono (fun r m7 h => ?_)
  obtain ⟨v8, rfl, h⟩ := h
  refine ⟨_, rfl, ?_⟩
  refine (zq_imul dX2_bendTowards_48).mpr ?_
  obtain ⟨g9, h⟩ := h
  refine (zq_idiv dX2_bendTowards_49).mpr ⟨g9, ?_⟩
  refine (zq_istore_n (l := [zR a0, zR a1, zI (wr (Int.tdiv (wr ((mI m 131 a0) * (wr ((mI m 130 a0) + 20)))) (wr (100 * v8)))), zU]) dX2_bendTowards_50 (Nat.le_of_ble_eq_true rfl) rfl).mpr ?_
  refine (zq_iload_n dX2_bendTowards_51 rfl).mpr ?_
  refine (zq_if_ne (t := 82) dX2_bendTowards_52 rfl).mpr ⟨fun c => ?_, fun c => ?_⟩
  · replace h := h.1 c
    refine (zq_iconst (v := 0) dX2_bendTowards_82 (by decide)).mpr ?_
    refine (zq_istore_n (l := [zR a0, zR a1, zI (wr (Int.tdiv (wr ((mI m 131 a0) * (wr ((mI m 130 a0) + 20)))) (wr (100 * v8)))), zI 0]) dX2_bendTowards_83 (Nat.le_of_ble_eq_true rfl) rfl).mpr ?_
    exact h
  · replace h := h.2 c
    refine (zq_aload_n dX2_bendTowards_55 rfl).mpr ?_
    obtain ⟨g12, h⟩ := h
    refine zq_virtualI (n := 0) dX2_bendTowards_56 mr_2_72 zn_28 rfl rfl rfl (zrcv_R zo_28 (by decide) g12) (Nat.le_of_ble_eq_true rfl) ?_
    refine h.mono (fun r m10 h => ?_)
    obtain ⟨v11, rfl, h⟩ := h
    refine ⟨_, rfl, ?_⟩
    refine (zq_if_ne (t := 82) dX2_bendTowards_59 rfl).mpr ⟨fun c => ?_, fun c => ?_⟩
    · replace h := h.1 c
      refine (zq_iconst (v := 0) dX2_bendTowards_82 (by decide)).mpr ?_
      refine (zq_istore_n (l := [zR a0, zR a1, zI (wr (Int.tdiv (wr ((mI m 131 a0) * (wr ((mI m 130 a0) + 20)))) (wr (100 * v8)))), zI 0]) dX2_bendTowards_83 (Nat.le_of_ble_eq_true rfl) rfl).mpr ?_
      exact h
    · replace h := h.2 c
      refine (zq_aload_n dX2_bendTowards_62 rfl).mpr ?_
      refine (zq_dupR dX2_bendTowards_63).mpr ?_
      obtain ⟨g13, h⟩ := h
      refine (zq_getI2 (f := 132) (v := (mI m10 132 a0)) dX2_bendTowards_64 fl_2_25 (by decide) rfl rfl (by first | rfl | simp only [zm_Is, zm_Rs, zm_As, zm_Os, zm_In0, zm_Rn0])).mpr ⟨g13, ?_⟩
      refine (zq_iconst (v := 1) dX2_bendTowards_67 (by decide)).mpr ?_
      refine (zq_iadd dX2_bendTowards_68).mpr ?_
      refine (zq_putI (f := 132) dX2_bendTowards_69 fl_2_25 (by decide) rfl rfl rfl).mpr ⟨g13, ?_⟩
      refine (zq_aload_n dX2_bendTowards_72 rfl).mpr ?_
      refine (zq_getI2 (f := 132) (v := (wr ((mI m10 132 a0) + 1))) dX2_bendTowards_73 fl_2_25 (by decide) rfl rfl (by first | rfl | simp only [zm_Is, zm_Rs, zm_As, zm_Os, zm_In0, zm_Rn0])).mpr ⟨g13, ?_⟩
      refine (zq_iconst (v := 3) dX2_bendTowards_76 (by decide)).mpr ?_
      refine (zq_icmp_lt (t := 117) dX2_bendTowards_77 rfl).mpr ⟨fun c => ?_, fun c => ?_⟩
      · replace h := h.1 c
        exact h
      · replace h := h.2 c
        refine (zq_iconst (v := 2) dX2_bendTowards_80 (by decide)).mpr ?_
        exact (zq_iret dX2_bendTowards_81 rfl).mpr ⟨trivial, h⟩
theorem bX2_bendTowards_84 {a0 : Nat} {a1 : Nat} {a2 : Int} {a3 : Int} (h : ((3 ≤ a3 → zW xs xl d cX2_bendTowards 2 (some .int) false [] 117 [zR a0, zR a1, zI a2, zI a3] [] m Q) ∧ (¬ (3 ≤ a3) → (mC m a0 = 3) ∧ (mC m (mR m 133 a0) = 20) ∧ (0 ≤ a3 ∧ a3 < mN m (mR m 133 a0)) ∧ (mC m (mR m 134 a0) = 20) ∧ (0 ≤ a3 ∧ a3 < mN m (mR m 134 a0)) ∧ zC xs xl d 128 [zI (mA m (mR m 133 a0) (Int.toNat a3)), zI (mA m (mR m 134 a0) (Int.toNat a3)), zI a2] m (fun r m6 => ∃ v7 : Int, r = .inl (some (zI v7)) ∧ (0 ≤ a3 ∧ a3 < mN m6 (mR m 133 a0)) ∧ (mC m6 (mR m 133 a0) = 20) ∧ zW xs xl d cX2_bendTowards 2 (some .int) false [] 84 [zR a0, zR a1, zI a2, zI (wr (a3 + 1))] [] (sA m6 (mR m 133 a0) (Int.toNat a3) v7) Q)))) : zW xs xl d cX2_bendTowards 2 (some .int) false [] 84 [zR a0, zR a1, zI a2, zI a3] [] m Q := by
  refine (zq_iload_n dX2_bendTowards_84 rfl).mpr ?_
  refine (zq_iconst (v := 3) dX2_bendTowards_85 (by decide)).mpr ?_
  refine (zq_icmp_ge (t := 117) dX2_bendTowards_86 rfl).mpr ⟨fun c => ?_, fun c => ?_⟩
  · replace h := h.1 c
    exact h
  · replace h := h.2 c
    refine (zq_aload_n dX2_bendTowards_89 rfl).mpr ?_
    obtain ⟨g1, h⟩ := h
    refine (zq_getR2 (f := 133) (v := (mR m 133 a0)) dX2_bendTowards_90 fl_2_28 (by decide) rfl rfl (by first | rfl | simp only [zm_Is, zm_Rs, zm_As, zm_Os, zm_In0, zm_Rn0])).mpr ⟨g1, ?_⟩
    refine (zq_iload_n dX2_bendTowards_93 rfl).mpr ?_
    refine (zq_aload_n dX2_bendTowards_94 rfl).mpr ?_
    refine (zq_getR2 (f := 133) (v := (mR m 133 a0)) dX2_bendTowards_95 fl_2_28 (by decide) rfl rfl (by first | rfl | simp only [zm_Is, zm_Rs, zm_As, zm_Os, zm_In0, zm_Rn0])).mpr ⟨g1, ?_⟩
    refine (zq_iload_n dX2_bendTowards_98 rfl).mpr ?_
    obtain ⟨g2, h⟩ := h
    obtain ⟨g3, h⟩ := h
    refine (zq_iald2 (v := (mA m (mR m 133 a0) (Int.toNat a3))) dX2_bendTowards_99 (by first | rfl | simp only [zm_Is, zm_Rs, zm_As, zm_Os, zm_In0, zm_Rn0])).mpr ⟨⟨g2, g3⟩, ?_⟩
    refine (zq_aload_n dX2_bendTowards_100 rfl).mpr ?_
    refine (zq_getR2 (f := 134) (v := (mR m 134 a0)) dX2_bendTowards_101 fl_2_32 (by decide) rfl rfl (by first | rfl | simp only [zm_Is, zm_Rs, zm_As, zm_Os, zm_In0, zm_Rn0])).mpr ⟨g1, ?_⟩
    refine (zq_iload_n dX2_bendTowards_104 rfl).mpr ?_
    obtain ⟨g4, h⟩ := h
    obtain ⟨g5, h⟩ := h
    refine (zq_iald2 (v := (mA m (mR m 134 a0) (Int.toNat a3))) dX2_bendTowards_105 (by first | rfl | simp only [zm_Is, zm_Rs, zm_As, zm_Os, zm_In0, zm_Rn0])).mpr ⟨⟨g4, g5⟩, ?_⟩
    refine (zq_iload_n dX2_bendTowards_106 rfl).mpr ?_
    refine zq_staticI (n := 3) dX2_bendTowards_107 mr_2_76 zn_128 rfl rfl (Nat.le_of_ble_eq_true rfl) (Nat.le_of_ble_eq_true rfl) ?_
    refine h.mono (fun r m6 h => ?_)
    obtain ⟨v7, rfl, h⟩ := h
    refine ⟨_, rfl, ?_⟩
    obtain ⟨g8, h⟩ := h
    obtain ⟨g9, h⟩ := h
    refine (zq_iast dX2_bendTowards_110).mpr ⟨⟨g9, g8⟩, ?_⟩
    refine (zq_iinc (l := [zR a0, zR a1, zI a2, zI (wr (a3 + 1))]) dX2_bendTowards_111 rfl rfl).mpr ?_
    refine (zq_goto (t := 84) dX2_bendTowards_114 rfl).mpr ?_
    exact h
theorem bX2_bendTowards_117 {a0 : Nat} {a1 : Nat} {a2 : Int} {a3 : zV} (h : (mC m a0 = 3) ∧ zC xs xl d 24 [zR a0, zI 10] m (fun r m1 => r = .inl none ∧ (mC m1 a0 = 3) ∧ zC xs xl d 25 [zR a0, zI 1] m1 (fun r m4 => r = .inl none ∧ (mC m4 a0 = 3) ∧ zC xs xl d 28 [zR a0] m4 (fun r m7 => ∃ v8 : Int, r = .inl (some (zI v8)) ∧ ((v8 = 0 → Q (.inl (some (zI 0))) m7) ∧ (¬ (v8 = 0) → Q (.inl (some (zI 1))) m7)))))) : zW xs xl d cX2_bendTowards 2 (some .int) false [] 117 [zR a0, zR a1, zI a2, a3] [] m Q := by
  refine (zq_aload_n dX2_bendTowards_117 rfl).mpr ?_
  refine (zq_bipush (v := 10) dX2_bendTowards_118 (by decide)).mpr ?_
  obtain ⟨g3, h⟩ := h
  refine zq_virtualV (n := 1) dX2_bendTowards_120 mr_2_47 zn_24 rfl rfl rfl (zrcv_R zo_24 (by decide) g3) (Nat.le_of_ble_eq_true rfl) ?_
  refine h.mono (fun r m1 h => ?_)
  obtain ⟨rfl, h⟩ := h
  refine ⟨rfl, ?_⟩
  refine (zq_aload_n dX2_bendTowards_123 rfl).mpr ?_
  refine (zq_iconst (v := 1) dX2_bendTowards_124 (by decide)).mpr ?_
  obtain ⟨g6, h⟩ := h
  refine zq_virtualV (n := 1) dX2_bendTowards_125 mr_2_51 zn_25 rfl rfl rfl (zrcv_R zo_25 (by decide) g6) (Nat.le_of_ble_eq_true rfl) ?_
  refine h.mono (fun r m4 h => ?_)
  obtain ⟨rfl, h⟩ := h
  refine ⟨rfl, ?_⟩
  refine (zq_aload_n dX2_bendTowards_128 rfl).mpr ?_
  obtain ⟨g9, h⟩ := h
  refine zq_virtualI (n := 0) dX2_bendTowards_129 mr_2_72 zn_28 rfl rfl rfl (zrcv_R zo_28 (by decide) g9) (Nat.le_of_ble_eq_true rfl) ?_
  refine h.mono (fun r m7 h => ?_)
  obtain ⟨v8, rfl, h⟩ := h
  refine ⟨_, rfl, ?_⟩
  refine (zq_if_eq (t := 139) dX2_bendTowards_132 rfl).mpr ⟨fun c => ?_, fun c => ?_⟩
  · replace h := h.1 c
    refine (zq_iconst (v := 0) dX2_bendTowards_139 (by decide)).mpr ?_
    exact (zq_iret dX2_bendTowards_140 rfl).mpr ⟨trivial, h⟩
  · replace h := h.2 c
    refine (zq_iconst (v := 1) dX2_bendTowards_135 (by decide)).mpr ?_
    refine (zq_goto (t := 140) dX2_bendTowards_136 rfl).mpr ?_
    exact (zq_iret dX2_bendTowards_140 rfl).mpr ⟨trivial, h⟩
end ZB0
