section ZB4
variable {xs : Nat → Int} {xl d : Nat} {m : zM} {Q : zRes → zM → Prop}
theorem bX10_foresee_0 {a0 : Nat} {a1 : Int} {a2 : Int} (h : ((a1 < 1 → Q (.inr 1) (nwX m)) ∧ (¬ (a1 < 1) → ((a1 ≤ 200 → zC xs xl d 127 [zI a2, zI 4] m (fun r m1 => ∃ v2 : Int, r = .inl (some (zI v2)) ∧ ((v2 ≠ 0 → (mC m1 a0 = 11) ∧ (mC m1 (mR m1 644 a0) = 10) ∧ zC xs xl d 101 [zR (mR m1 644 a0), zR (mR m1 643 a0)] m1 (fun r m4 => r = .inl none ∧ zW xs xl d cX10_foresee 10 (some .int) false [] 56 [zR a0, zI a1, zI a2, zI (-1), zI 0] [] m4 Q)) ∧ (¬ (v2 ≠ 0) → Q (.inr 2) (nwX m1))))) ∧ (¬ (a1 ≤ 200) → Q (.inr 1) (nwX m)))))) : zC xs xl (d + 1) 123 [zR a0, zI a1, zI a2] m Q := by
  refine zk_123 ?_
  refine (zq_iload_n dX10_foresee_0 rfl).mpr ?_
  refine (zq_iconst dX10_foresee_1 (by decide)).mpr ?_
  refine (zq_icmp_lt (t := 12) dX10_foresee_2 rfl).mpr ⟨fun c => ?_, fun c => ?_⟩
  · replace h := h.1 c
    exact (zq_throw dX10_foresee_12 nx_10_57 xr_10_57 dX10_foresee_15 dX10_foresee_16 dX10_foresee_18 dX10_foresee_21 (by decide)).mpr h
  · replace h := h.2 c
    refine (zq_iload_n dX10_foresee_5 rfl).mpr ?_
    refine (zq_sipush dX10_foresee_6 (by decide)).mpr ?_
    refine (zq_icmp_le (t := 22) dX10_foresee_9 rfl).mpr ⟨fun c => ?_, fun c => ?_⟩
    · replace h := h.1 c
      refine (zq_iload_n dX10_foresee_22 rfl).mpr ?_
      refine (zq_iconst dX10_foresee_23 (by decide)).mpr ?_
      refine zq_staticI (n := 2) dX10_foresee_24 mr_10_62 zn_127 rfl rfl (Nat.le_of_ble_eq_true rfl) (Nat.le_of_ble_eq_true rfl) ?_
      refine h.mono (fun r m1 h => ?_)
      obtain ⟨v2, rfl, h⟩ := h
      refine ⟨_, rfl, ?_⟩
      refine (zq_if_ne (t := 40) dX10_foresee_27 rfl).mpr ⟨fun c => ?_, fun c => ?_⟩
      · replace h := h.1 c
        refine (zq_aload_n dX10_foresee_40 rfl).mpr ?_
        obtain ⟨g3, h⟩ := h
        refine (zq_getR2 (f := 644) (v := (mR m1 644 a0)) dX10_foresee_41 fl_10_38 (by decide) rfl rfl (by first | rfl | simp only [zm_Is, zm_Rs, zm_As, zm_Os, zm_In0, zm_Rn0])).mpr ⟨g3, ?_⟩
        refine (zq_aload_n dX10_foresee_44 rfl).mpr ?_
        refine (zq_getR2 (f := 643) (v := (mR m1 643 a0)) dX10_foresee_45 fl_10_34 (by decide) rfl rfl (by first | rfl | simp only [zm_Is, zm_Rs, zm_As, zm_Os, zm_In0, zm_Rn0])).mpr ⟨g3, ?_⟩
        obtain ⟨g6, h⟩ := h
        refine zq_virtualV (n := 1) dX10_foresee_48 mr_10_258 zn_101 rfl rfl rfl (zrcv_R zo_101 (by decide) g6) (Nat.le_of_ble_eq_true rfl) ?_
        refine h.mono (fun r m4 h => ?_)
        obtain ⟨rfl, h⟩ := h
        refine ⟨rfl, ?_⟩
        refine (zq_iconst dX10_foresee_51 (by decide)).mpr ?_
        refine (zq_istore_n dX10_foresee_52 (by simp) rfl).mpr ?_
        refine (zq_iconst dX10_foresee_53 (by decide)).mpr ?_
        refine (zq_istore dX10_foresee_54 (by simp) rfl).mpr ?_
        exact h
      · replace h := h.2 c
        exact (zq_throw dX10_foresee_30 nx_10_66 xr_10_66 dX10_foresee_33 dX10_foresee_34 dX10_foresee_36 dX10_foresee_39 (by decide)).mpr h
    · replace h := h.2 c
      exact (zq_throw dX10_foresee_12 nx_10_57 xr_10_57 dX10_foresee_15 dX10_foresee_16 dX10_foresee_18 dX10_foresee_21 (by decide)).mpr h
theorem bX10_foresee_56 {a0 : Nat} {a1 : Int} {a2 : Int} {a3 : Int} {a4 : Int} (h : ((a1 ≤ a4 → ((a2 = 0 → (mC m a0 = 11) ∧ (mC m (mR m 644 a0) = 10) ∧ (mC m (mR m 643 a0) = 10) ∧ Q (.inl (some (zI (wr ((mI m 583 (mR m 644 a0)) - (mI m 583 (mR m 643 a0))))))) m) ∧ (a2 ≠ 0 → ((a2 = 1 → (mC m a0 = 11) ∧ (mC m (mR m 644 a0) = 10) ∧ (mC m (mR m 643 a0) = 10) ∧ Q (.inl (some (zI (wr ((mI m 584 (mR m 644 a0)) - (mI m 584 (mR m 643 a0))))))) m) ∧ (a2 ≠ 1 → ((a2 = 2 → (mC m a0 = 11) ∧ (mC m (mR m 644 a0) = 10) ∧ zC xs xl d 95 [zR (mR m 644 a0)] m (fun r m8 => ∃ v9 : Int, r = .inl (some (zI v9)) ∧ Q (.inl (some (zI v9))) m8)) ∧ (a2 ≠ 2 → Q (.inl (some (zI a3))) m))))))) ∧ (¬ (a1 ≤ a4) → (mC m a0 = 11) ∧ (mC m (mR m 644 a0) = 10) ∧ zC xs xl d 85 [zR (mR m 644 a0)] m (fun r m12 => r = .inl none ∧ ((0 ≤ a3 → zW xs xl d cX10_foresee 10 (some .int) false [] 56 [zR a0, zI a1, zI a2, zI a3, zI (wr (a4 + 1))] [] m12 Q) ∧ (¬ (0 ≤ a3) → (mC m12 a0 = 11) ∧ (mC m12 (mR m12 644 a0) = 10) ∧ (mC m12 (mR m12 643 a0) = 10) ∧ (((mI m12 583 (mR m12 644 a0)) ≤ (mI m12 583 (mR m12 643 a0)) → zW xs xl d cX10_foresee 10 (some .int) false [] 56 [zR a0, zI a1, zI a2, zI a3, zI (wr (a4 + 1))] [] m12 Q) ∧ (¬ ((mI m12 583 (mR m12 644 a0)) ≤ (mI m12 583 (mR m12 643 a0))) → zW xs xl d cX10_foresee 10 (some .int) false [] 56 [zR a0, zI a1, zI a2, zI (mI m12 576 (mR m12 644 a0)), zI (wr (a4 + 1))] [] m12 Q)))))))) : zW xs xl d cX10_foresee 10 (some .int) false [] 56 [zR a0, zI a1, zI a2, zI a3, zI a4] [] m Q := by
  refine (zq_iload dX10_foresee_56 rfl).mpr ?_
  refine (zq_iload_n dX10_foresee_58 rfl).mpr ?_
  refine (zq_icmp_ge (t := 104) dX10_foresee_59 rfl).mpr ⟨fun c => ?_, fun c => ?_⟩
  · replace h := h.1 c
    refine (zq_iload_n dX10_foresee_104 rfl).mpr ?_
    refine (zq_tab (td := 172) (r := [132, 148, 164]) dX10_foresee_105 rfl rfl rfl).mpr ?_
    refine ⟨fun c => ?_, fun c => ?_⟩
    · replace h := h.1 c
      refine (zq_aload_n dX10_foresee_132 rfl).mpr ?_
      obtain ⟨g1, h⟩ := h
      refine (zq_getR2 (f := 644) (v := (mR m 644 a0)) dX10_foresee_133 fl_10_38 (by decide) rfl rfl (by first | rfl | simp only [zm_Is, zm_Rs, zm_As, zm_Os, zm_In0, zm_Rn0])).mpr ⟨g1, ?_⟩
      obtain ⟨g2, h⟩ := h
      refine (zq_getI2 (f := 583) (v := (mI m 583 (mR m 644 a0))) dX10_foresee_136 fl_10_238 (by decide) rfl rfl (by first | rfl | simp only [zm_Is, zm_Rs, zm_As, zm_Os, zm_In0, zm_Rn0])).mpr ⟨g2, ?_⟩
      refine (zq_aload_n dX10_foresee_139 rfl).mpr ?_
      refine (zq_getR2 (f := 643) (v := (mR m 643 a0)) dX10_foresee_140 fl_10_34 (by decide) rfl rfl (by first | rfl | simp only [zm_Is, zm_Rs, zm_As, zm_Os, zm_In0, zm_Rn0])).mpr ⟨g1, ?_⟩
      obtain ⟨g3, h⟩ := h
      refine (zq_getI2 (f := 583) (v := (mI m 583 (mR m 643 a0))) dX10_foresee_143 fl_10_238 (by decide) rfl rfl (by first | rfl | simp only [zm_Is, zm_Rs, zm_As, zm_Os, zm_In0, zm_Rn0])).mpr ⟨g3, ?_⟩
      refine (zq_isub dX10_foresee_146).mpr ?_
      exact (zq_iret dX10_foresee_147 rfl).mpr ⟨trivial, h⟩
    · replace h := h.2 c
      refine ⟨fun c => ?_, fun c => ?_⟩
      · replace h := h.1 c
        refine (zq_aload_n dX10_foresee_148 rfl).mpr ?_
        obtain ⟨g4, h⟩ := h
        refine (zq_getR2 (f := 644) (v := (mR m 644 a0)) dX10_foresee_149 fl_10_38 (by decide) rfl rfl (by first | rfl | simp only [zm_Is, zm_Rs, zm_As, zm_Os, zm_In0, zm_Rn0])).mpr ⟨g4, ?_⟩
        obtain ⟨g5, h⟩ := h
        refine (zq_getI2 (f := 584) (v := (mI m 584 (mR m 644 a0))) dX10_foresee_152 fl_10_262 (by decide) rfl rfl (by first | rfl | simp only [zm_Is, zm_Rs, zm_As, zm_Os, zm_In0, zm_Rn0])).mpr ⟨g5, ?_⟩
        refine (zq_aload_n dX10_foresee_155 rfl).mpr ?_
        refine (zq_getR2 (f := 643) (v := (mR m 643 a0)) dX10_foresee_156 fl_10_34 (by decide) rfl rfl (by first | rfl | simp only [zm_Is, zm_Rs, zm_As, zm_Os, zm_In0, zm_Rn0])).mpr ⟨g4, ?_⟩
        obtain ⟨g6, h⟩ := h
        refine (zq_getI2 (f := 584) (v := (mI m 584 (mR m 643 a0))) dX10_foresee_159 fl_10_262 (by decide) rfl rfl (by first | rfl | simp only [zm_Is, zm_Rs, zm_As, zm_Os, zm_In0, zm_Rn0])).mpr ⟨g6, ?_⟩
        refine (zq_isub dX10_foresee_162).mpr ?_
        exact (zq_iret dX10_foresee_163 rfl).mpr ⟨trivial, h⟩
      · replace h := h.2 c
        refine ⟨fun c => ?_, fun c => ?_⟩
        · replace h := h.1 c
          refine (zq_aload_n dX10_foresee_164 rfl).mpr ?_
          obtain ⟨g7, h⟩ := h
          refine (zq_getR2 (f := 644) (v := (mR m 644 a0)) dX10_foresee_165 fl_10_38 (by decide) rfl rfl (by first | rfl | simp only [zm_Is, zm_Rs, zm_As, zm_Os, zm_In0, zm_Rn0])).mpr ⟨g7, ?_⟩
          obtain ⟨g10, h⟩ := h
          refine zq_virtualI (n := 0) dX10_foresee_168 mr_10_233 zn_95 rfl rfl rfl (zrcv_R zo_95 (by decide) g10) (Nat.le_of_ble_eq_true rfl) ?_
          refine h.mono (fun r m8 h => ?_)
          obtain ⟨v9, rfl, h⟩ := h
          refine ⟨_, rfl, ?_⟩
          exact (zq_iret dX10_foresee_171 rfl).mpr ⟨trivial, h⟩
        · replace h := h.2 c
          refine (zq_iload_n dX10_foresee_172 rfl).mpr ?_
          exact (zq_iret dX10_foresee_173 rfl).mpr ⟨trivial, h⟩
  · replace h := h.2 c
    refine (zq_aload_n dX10_foresee_62 rfl).mpr ?_
    obtain ⟨g11, h⟩ := h
    refine (zq_getR2 (f := 644) (v := (mR m 644 a0)) dX10_foresee_63 fl_10_38 (by decide) rfl rfl (by first | rfl | simp only [zm_Is, zm_Rs, zm_As, zm_Os, zm_In0, zm_Rn0])).mpr ⟨g11, ?_⟩
    obtain ⟨g14, h⟩ := h
    refine zq_virtualV (n := 0) dX10_foresee_66 mr_10_241 zn_85 rfl rfl rfl (zrcv_R zo_85 (by decide) g14) (Nat.le_of_ble_eq_true rfl) ?_
    refine h.mono (fun r m12 h => ?_)
    obtain ⟨rfl, h⟩ := h
    refine ⟨rfl, ?_⟩
    refine (zq_iload_n dX10_foresee_69 rfl).mpr ?_
    refine (zq_if_ge (t := 98) dX10_foresee_70 rfl).mpr ⟨fun c => ?_, fun c => ?_⟩
    · replace h := h.1 c
      refine (zq_iinc dX10_foresee_98 rfl rfl).mpr ?_
      refine (zq_goto (t := 56) dX10_foresee_101 rfl).mpr ?_
      exact h
    · replace h := h.2 c
      refine (zq_aload_n dX10_foresee_73 rfl).mpr ?_
      obtain ⟨g15, h⟩ := h
      refine (zq_getR2 (f := 644) (v := (mR m12 644 a0)) dX10_foresee_74 fl_10_38 (by decide) rfl rfl (by first | rfl | simp only [zm_Is, zm_Rs, zm_As, zm_Os, zm_In0, zm_Rn0])).mpr ⟨g15, ?_⟩
      obtain ⟨g16, h⟩ := h
      refine (zq_getI2 (f := 583) (v := (mI m12 583 (mR m12 644 a0))) dX10_foresee_77 fl_10_238 (by decide) rfl rfl (by first | rfl | simp only [zm_Is, zm_Rs, zm_As, zm_Os, zm_In0, zm_Rn0])).mpr ⟨g16, ?_⟩
      refine (zq_aload_n dX10_foresee_80 rfl).mpr ?_
      refine (zq_getR2 (f := 643) (v := (mR m12 643 a0)) dX10_foresee_81 fl_10_34 (by decide) rfl rfl (by first | rfl | simp only [zm_Is, zm_Rs, zm_As, zm_Os, zm_In0, zm_Rn0])).mpr ⟨g15, ?_⟩
      obtain ⟨g17, h⟩ := h
      refine (zq_getI2 (f := 583) (v := (mI m12 583 (mR m12 643 a0))) dX10_foresee_84 fl_10_238 (by decide) rfl rfl (by first | rfl | simp only [zm_Is, zm_Rs, zm_As, zm_Os, zm_In0, zm_Rn0])).mpr ⟨g17, ?_⟩
      refine (zq_icmp_le (t := 98) dX10_foresee_87 rfl).mpr ⟨fun c => ?_, fun c => ?_⟩
      · replace h := h.1 c
        refine (zq_iinc dX10_foresee_98 rfl rfl).mpr ?_
        refine (zq_goto (t := 56) dX10_foresee_101 rfl).mpr ?_
        exact h
      · replace h := h.2 c
        refine (zq_aload_n dX10_foresee_90 rfl).mpr ?_
        refine (zq_getR2 (f := 644) (v := (mR m12 644 a0)) dX10_foresee_91 fl_10_38 (by decide) rfl rfl (by first | rfl | simp only [zm_Is, zm_Rs, zm_As, zm_Os, zm_In0, zm_Rn0])).mpr ⟨g15, ?_⟩
        refine (zq_getI2 (f := 576) (v := (mI m12 576 (mR m12 644 a0))) dX10_foresee_94 fl_10_180 (by decide) rfl rfl (by first | rfl | simp only [zm_Is, zm_Rs, zm_As, zm_Os, zm_In0, zm_Rn0])).mpr ⟨g16, ?_⟩
        refine (zq_istore_n dX10_foresee_97 (by simp) rfl).mpr ?_
        refine (zq_iinc dX10_foresee_98 rfl rfl).mpr ?_
        refine (zq_goto (t := 56) dX10_foresee_101 rfl).mpr ?_
        exact h
theorem bX10_flaw_0 {a0 : Nat} (h : zW xs xl d cX10_flaw 10 (some .double) false [] 6 [zR a0, zI 0, zI 0, zI 0] [] m Q) : zC xs xl (d + 1) 124 [zR a0] m Q := by
  refine zk_124 ?_
  refine (zq_iconst dX10_flaw_0 (by decide)).mpr ?_
  refine (zq_istore_n dX10_flaw_1 (by simp) rfl).mpr ?_
  refine (zq_iconst dX10_flaw_2 (by decide)).mpr ?_
  refine (zq_istore_n dX10_flaw_3 (by simp) rfl).mpr ?_
  refine (zq_iconst dX10_flaw_4 (by decide)).mpr ?_
  refine (zq_istore_n dX10_flaw_5 (by simp) rfl).mpr ?_
  exact h
theorem bX10_flaw_6 {a0 : Nat} {a1 : Int} {a2 : Int} {a3 : Int} (h : (mC m a0 = 11) ∧ (mC m (mR m 643 a0) = 10) ∧ zC xs xl d 94 [zR (mR m 643 a0)] m (fun r m2 => ∃ v3 : Int, r = .inl (some (zI v3)) ∧ ((v3 ≤ a3 → ((a2 ≠ 0 → (vf_n64 (FP.ddiv (FP.i2d (Int32.ofInt a1)) (FP.i2d (Int32.ofInt a2)))) ∧ Q (.inl (some (zD (FP.ddiv (FP.i2d (Int32.ofInt a1)) (FP.i2d (Int32.ofInt a2)))))) m2) ∧ (¬ (a2 ≠ 0) → Q (.inl (some (zD FP.dconst0))) m2))) ∧ (¬ (v3 ≤ a3) → (mC m2 a0 = 11) ∧ (mC m2 (mR m2 643 a0) = 10) ∧ (29 ≤ mC m2 (mR m2 582 (mR m2 643 a0)) ∧ mC m2 (mR m2 582 (mR m2 643 a0)) < 43) ∧ (0 ≤ a3 ∧ a3 < mN m2 (mR m2 582 (mR m2 643 a0))) ∧ (mC m2 (mO m2 (mR m2 582 (mR m2 643 a0)) (Int.toNat a3)) = 20) ∧ (2 < mN m2 (mO m2 (mR m2 582 (mR m2 643 a0)) (Int.toNat a3))) ∧ (3 < mN m2 (mO m2 (mR m2 582 (mR m2 643 a0)) (Int.toNat a3))) ∧ zW xs xl d cX10_flaw 10 (some .double) false [] 6 [zR a0, zI (wr (a1 + (mA m2 (mO m2 (mR m2 582 (mR m2 643 a0)) (Int.toNat a3)) 3))), zI (wr (a2 + (mA m2 (mO m2 (mR m2 582 (mR m2 643 a0)) (Int.toNat a3)) 2))), zI (wr (a3 + 1))] [] m2 Q)))) : zW xs xl d cX10_flaw 10 (some .double) false [] 6 [zR a0, zI a1, zI a2, zI a3] [] m Q := by
  refine (zq_iload_n dX10_flaw_6 rfl).mpr ?_
  refine (zq_aload_n dX10_flaw_7 rfl).mpr ?_
  obtain ⟨g1, h⟩ := h
  refine (zq_getR2 (f := 643) (v := (mR m 643 a0)) dX10_flaw_8 fl_10_34 (by decide) rfl rfl (by first | rfl | simp only [zm_Is, zm_Rs, zm_As, zm_Os, zm_In0, zm_Rn0])).mpr ⟨g1, ?_⟩
  obtain ⟨g4, h⟩ := h
  refine zq_virtualI (n := 0) dX10_flaw_11 mr_10_249 zn_94 rfl rfl rfl (zrcv_R zo_94 (by decide) g4) (Nat.le_of_ble_eq_true rfl) ?_
  refine h.mono (fun r m2 h => ?_)
  obtain ⟨v3, rfl, h⟩ := h
  refine ⟨_, rfl, ?_⟩
  refine (zq_icmp_ge (t := 51) dX10_flaw_14 rfl).mpr ⟨fun c => ?_, fun c => ?_⟩
  · replace h := h.1 c
    refine (zq_iload_n dX10_flaw_51 rfl).mpr ?_
    refine (zq_if_ne (t := 59) dX10_flaw_52 rfl).mpr ⟨fun c => ?_, fun c => ?_⟩
    · replace h := h.1 c
      refine (zq_iload_n dX10_flaw_59 rfl).mpr ?_
      refine (zq_i2d dX10_flaw_60).mpr ?_
      refine (zq_iload_n dX10_flaw_61 rfl).mpr ?_
      refine (zq_i2d dX10_flaw_62).mpr ?_
      obtain ⟨g5, h⟩ := h
      refine (zq_ddiv dX10_flaw_63).mpr ⟨g5, ?_⟩
      exact (zq_dret dX10_flaw_64 rfl).mpr h
    · replace h := h.2 c
      refine (zq_dconst dX10_flaw_55).mpr ?_
      refine (zq_goto (t := 64) dX10_flaw_56 rfl).mpr ?_
      exact (zq_dret dX10_flaw_64 rfl).mpr h
  · replace h := h.2 c
    refine (zq_iload_n dX10_flaw_17 rfl).mpr ?_
    refine (zq_aload_n dX10_flaw_18 rfl).mpr ?_
    obtain ⟨g6, h⟩ := h
    refine (zq_getR2 (f := 643) (v := (mR m2 643 a0)) dX10_flaw_19 fl_10_34 (by decide) rfl rfl (by first | rfl | simp only [zm_Is, zm_Rs, zm_As, zm_Os, zm_In0, zm_Rn0])).mpr ⟨g6, ?_⟩
    obtain ⟨g7, h⟩ := h
    refine (zq_getR2 (f := 582) (v := (mR m2 582 (mR m2 643 a0))) dX10_flaw_22 fl_10_254 (by decide) rfl rfl (by first | rfl | simp only [zm_Is, zm_Rs, zm_As, zm_Os, zm_In0, zm_Rn0])).mpr ⟨g7, ?_⟩
    refine (zq_iload_n dX10_flaw_25 rfl).mpr ?_
    obtain ⟨g8, h⟩ := h
    obtain ⟨g9, h⟩ := h
    refine (zq_aald2 (v := (mO m2 (mR m2 582 (mR m2 643 a0)) (Int.toNat a3))) dX10_flaw_26 (by first | rfl | simp only [zm_Is, zm_Rs, zm_As, zm_Os, zm_In0, zm_Rn0])).mpr ⟨⟨g8.1, g8.2, g9⟩, ?_⟩
    refine (zq_iconst dX10_flaw_27 (by decide)).mpr ?_
    obtain ⟨g10, h⟩ := h
    obtain ⟨g11, h⟩ := h
    refine (zq_iald2 (v := (mA m2 (mO m2 (mR m2 582 (mR m2 643 a0)) (Int.toNat a3)) 2)) dX10_flaw_28 (by first | rfl | simp only [zm_Is, zm_Rs, zm_As, zm_Os, zm_In0, zm_Rn0])).mpr ⟨⟨g10, ⟨by decide, g11⟩⟩, ?_⟩
    refine (zq_iadd dX10_flaw_29).mpr ?_
    refine (zq_istore_n dX10_flaw_30 (by simp) rfl).mpr ?_
    refine (zq_iload_n dX10_flaw_31 rfl).mpr ?_
    refine (zq_aload_n dX10_flaw_32 rfl).mpr ?_
    refine (zq_getR2 (f := 643) (v := (mR m2 643 a0)) dX10_flaw_33 fl_10_34 (by decide) rfl rfl (by first | rfl | simp only [zm_Is, zm_Rs, zm_As, zm_Os, zm_In0, zm_Rn0])).mpr ⟨g6, ?_⟩
    refine (zq_getR2 (f := 582) (v := (mR m2 582 (mR m2 643 a0))) dX10_flaw_36 fl_10_254 (by decide) rfl rfl (by first | rfl | simp only [zm_Is, zm_Rs, zm_As, zm_Os, zm_In0, zm_Rn0])).mpr ⟨g7, ?_⟩
    refine (zq_iload_n dX10_flaw_39 rfl).mpr ?_
    refine (zq_aald2 (v := (mO m2 (mR m2 582 (mR m2 643 a0)) (Int.toNat a3))) dX10_flaw_40 (by first | rfl | simp only [zm_Is, zm_Rs, zm_As, zm_Os, zm_In0, zm_Rn0])).mpr ⟨⟨g8.1, g8.2, g9⟩, ?_⟩
    refine (zq_iconst dX10_flaw_41 (by decide)).mpr ?_
    obtain ⟨g12, h⟩ := h
    refine (zq_iald2 (v := (mA m2 (mO m2 (mR m2 582 (mR m2 643 a0)) (Int.toNat a3)) 3)) dX10_flaw_42 (by first | rfl | simp only [zm_Is, zm_Rs, zm_As, zm_Os, zm_In0, zm_Rn0])).mpr ⟨⟨g10, ⟨by decide, g12⟩⟩, ?_⟩
    refine (zq_iadd dX10_flaw_43).mpr ?_
    refine (zq_istore_n dX10_flaw_44 (by simp) rfl).mpr ?_
    refine (zq_iinc dX10_flaw_45 rfl rfl).mpr ?_
    refine (zq_goto (t := 6) dX10_flaw_48 rfl).mpr ?_
    exact h
theorem bX10_digest_0 {a0 : Nat} (h : zW xs xl d cX10_digest 10 (some .long) false [] 6 [zR a0, zL 467, zU, zI 0, zU] [] m Q) : zC xs xl (d + 1) 125 [zR a0] m Q := by
  refine zk_125 ?_
  refine (zq_ldc2 dX10_digest_0 cq_10_265).mpr ?_
  refine (zq_lstore_n dX10_digest_3 (by simp) rfl).mpr ?_
  refine (zq_iconst dX10_digest_4 (by decide)).mpr ?_
  refine (zq_istore_n dX10_digest_5 (by simp) rfl).mpr ?_
  exact h
theorem bX10_digest_6 {a0 : Nat} {a1 : Int} {a2 : zV} {a3 : Int} {a4 : zV} (h : ((9 ≤ a3 → zW xs xl d cX10_digest 10 (some .long) false [] 36 [zR a0, zL a1, a2, zI 0, a4] [] m Q) ∧ (¬ (9 ≤ a3) → (mC m a0 = 11) ∧ (mC m (mR m 643 a0) = 10) ∧ zC xs xl d 100 [zR (mR m 643 a0), zI a3] m (fun r m2 => ∃ v3 : Int, r = .inl (some (zI v3)) ∧ zW xs xl d cX10_digest 10 (some .long) false [] 6 [zR a0, zL (wl ((wl (a1 * 31)) + v3)), zU, zI (wr (a3 + 1)), a4] [] m2 Q)))) : zW xs xl d cX10_digest 10 (some .long) false [] 6 [zR a0, zL a1, a2, zI a3, a4] [] m Q := by
  refine (zq_iload_n dX10_digest_6 rfl).mpr ?_
  refine (zq_bipush dX10_digest_7 (by decide)).mpr ?_
  refine (zq_icmp_ge (t := 34) dX10_digest_9 rfl).mpr ⟨fun c => ?_, fun c => ?_⟩
  · replace h := h.1 c
    refine (zq_iconst dX10_digest_34 (by decide)).mpr ?_
    refine (zq_istore_n dX10_digest_35 (by simp) rfl).mpr ?_
    exact h
  · replace h := h.2 c
    refine (zq_lload_n dX10_digest_12 rfl).mpr ?_
    refine (zq_ldc2 dX10_digest_13 cq_10_267).mpr ?_
    refine (zq_lmul dX10_digest_16).mpr ?_
    refine (zq_aload_n dX10_digest_17 rfl).mpr ?_
    obtain ⟨g1, h⟩ := h
    refine (zq_getR2 (f := 643) (v := (mR m 643 a0)) dX10_digest_18 fl_10_34 (by decide) rfl rfl (by first | rfl | simp only [zm_Is, zm_Rs, zm_As, zm_Os, zm_In0, zm_Rn0])).mpr ⟨g1, ?_⟩
    refine (zq_iload_n dX10_digest_21 rfl).mpr ?_
    obtain ⟨g4, h⟩ := h
    refine zq_virtualI (n := 1) dX10_digest_22 mr_10_246 zn_100 rfl rfl rfl (zrcv_R zo_100 (by decide) g4) (Nat.le_of_ble_eq_true rfl) ?_
    refine h.mono (fun r m2 h => ?_)
    obtain ⟨v3, rfl, h⟩ := h
    refine ⟨_, rfl, ?_⟩
    refine (zq_i2l dX10_digest_25).mpr ?_
    refine (zq_ladd dX10_digest_26).mpr ?_
    refine (zq_lstore_n dX10_digest_27 (by simp) rfl).mpr ?_
    refine (zq_iinc dX10_digest_28 rfl rfl).mpr ?_
    refine (zq_goto (t := 6) dX10_digest_31 rfl).mpr ?_
    exact h
theorem bX10_digest_36 {a0 : Nat} {a1 : Int} {a2 : zV} {a3 : Int} {a4 : zV} (h : ((6 ≤ a3 → zW xs xl d cX10_digest 10 (some .long) false [] 84 [zR a0, zL a1, a2, zI 0, a4] [] m Q) ∧ (¬ (6 ≤ a3) → zW xs xl d cX10_digest 10 (some .long) false [] 45 [zR a0, zL a1, a2, zI a3, zI 0] [] m Q))) : zW xs xl d cX10_digest 10 (some .long) false [] 36 [zR a0, zL a1, a2, zI a3, a4] [] m Q := by
  refine (zq_iload_n dX10_digest_36 rfl).mpr ?_
  refine (zq_bipush dX10_digest_37 (by decide)).mpr ?_
  refine (zq_icmp_ge (t := 82) dX10_digest_39 rfl).mpr ⟨fun c => ?_, fun c => ?_⟩
  · replace h := h.1 c
    refine (zq_iconst dX10_digest_82 (by decide)).mpr ?_
    refine (zq_istore_n dX10_digest_83 (by simp) rfl).mpr ?_
    exact h
  · replace h := h.2 c
    refine (zq_iconst dX10_digest_42 (by decide)).mpr ?_
    refine (zq_istore dX10_digest_43 (by simp) rfl).mpr ?_
    exact h
theorem bX10_digest_45 {a0 : Nat} {a1 : Int} {a2 : zV} {a3 : Int} {a4 : Int} (h : ((4 ≤ a4 → zW xs xl d cX10_digest 10 (some .long) false [] 36 [zR a0, zL a1, a2, zI (wr (a3 + 1)), zI a4] [] m Q) ∧ (¬ (4 ≤ a4) → (mC m a0 = 11) ∧ (29 ≤ mC m (mR m 642 a0) ∧ mC m (mR m 642 a0) < 43) ∧ (0 ≤ a3 ∧ a3 < mN m (mR m 642 a0)) ∧ (mC m (mO m (mR m 642 a0) (Int.toNat a3)) = 4) ∧ zC xs xl d 34 [zR (mO m (mR m 642 a0) (Int.toNat a3)), zI a4] m (fun r m4 => ∃ v5 : Int, r = .inl (some (zI v5)) ∧ zW xs xl d cX10_digest 10 (some .long) false [] 45 [zR a0, zL (wl ((wl (a1 * 31)) + v5)), zU, zI a3, zI (wr (a4 + 1))] [] m4 Q)))) : zW xs xl d cX10_digest 10 (some .long) false [] 45 [zR a0, zL a1, a2, zI a3, zI a4] [] m Q := by
  refine (zq_iload dX10_digest_45 rfl).mpr ?_
  refine (zq_iconst dX10_digest_47 (by decide)).mpr ?_
  refine (zq_icmp_ge (t := 76) dX10_digest_48 rfl).mpr ⟨fun c => ?_, fun c => ?_⟩
  · replace h := h.1 c
    refine (zq_iinc dX10_digest_76 rfl rfl).mpr ?_
    refine (zq_goto (t := 36) dX10_digest_79 rfl).mpr ?_
    exact h
  · replace h := h.2 c
    refine (zq_lload_n dX10_digest_51 rfl).mpr ?_
    refine (zq_ldc2 dX10_digest_52 cq_10_267).mpr ?_
    refine (zq_lmul dX10_digest_55).mpr ?_
    refine (zq_aload_n dX10_digest_56 rfl).mpr ?_
    obtain ⟨g1, h⟩ := h
    refine (zq_getR2 (f := 642) (v := (mR m 642 a0)) dX10_digest_57 fl_10_27 (by decide) rfl rfl (by first | rfl | simp only [zm_Is, zm_Rs, zm_As, zm_Os, zm_In0, zm_Rn0])).mpr ⟨g1, ?_⟩
    refine (zq_iload_n dX10_digest_60 rfl).mpr ?_
    obtain ⟨g2, h⟩ := h
    obtain ⟨g3, h⟩ := h
    refine (zq_aald2 (v := (mO m (mR m 642 a0) (Int.toNat a3))) dX10_digest_61 (by first | rfl | simp only [zm_Is, zm_Rs, zm_As, zm_Os, zm_In0, zm_Rn0])).mpr ⟨⟨g2.1, g2.2, g3⟩, ?_⟩
    refine (zq_iload dX10_digest_62 rfl).mpr ?_
    obtain ⟨g6, h⟩ := h
    refine zq_virtualI (n := 1) dX10_digest_64 mr_10_84 zn_34 rfl rfl rfl (zrcv_R zo_34 (by decide) g6) (Nat.le_of_ble_eq_true rfl) ?_
    refine h.mono (fun r m4 h => ?_)
    obtain ⟨v5, rfl, h⟩ := h
    refine ⟨_, rfl, ?_⟩
    refine (zq_i2l dX10_digest_67).mpr ?_
    refine (zq_ladd dX10_digest_68).mpr ?_
    refine (zq_lstore_n dX10_digest_69 (by simp) rfl).mpr ?_
    refine (zq_iinc dX10_digest_70 rfl rfl).mpr ?_
    refine (zq_goto (t := 45) dX10_digest_73 rfl).mpr ?_
    exact h
theorem bX10_digest_84 {a0 : Nat} {a1 : Int} {a2 : zV} {a3 : Int} {a4 : zV} (h : (mC m a0 = 11) ∧ (mC m (mR m 643 a0) = 10) ∧ (mC m (mR m 577 (mR m 643 a0)) = 8) ∧ (((mI m 449 (mR m 577 (mR m 643 a0))) ≤ a3 → zW xs xl d cX10_digest 10 (some .long) false [] 146 [zR a0, zL a1, a2, zI 0, a4] [] m Q) ∧ (¬ ((mI m 449 (mR m 577 (mR m 643 a0))) ≤ a3) → zW xs xl d cX10_digest 10 (some .long) false [] 101 [zR a0, zL a1, a2, zI a3, zI 0] [] m Q))) : zW xs xl d cX10_digest 10 (some .long) false [] 84 [zR a0, zL a1, a2, zI a3, a4] [] m Q := by
  refine (zq_iload_n dX10_digest_84 rfl).mpr ?_
  refine (zq_aload_n dX10_digest_85 rfl).mpr ?_
  obtain ⟨g1, h⟩ := h
  refine (zq_getR2 (f := 643) (v := (mR m 643 a0)) dX10_digest_86 fl_10_34 (by decide) rfl rfl (by first | rfl | simp only [zm_Is, zm_Rs, zm_As, zm_Os, zm_In0, zm_Rn0])).mpr ⟨g1, ?_⟩
  obtain ⟨g2, h⟩ := h
  refine (zq_getR2 (f := 577) (v := (mR m 577 (mR m 643 a0))) dX10_digest_89 fl_10_90 (by decide) rfl rfl (by first | rfl | simp only [zm_Is, zm_Rs, zm_As, zm_Os, zm_In0, zm_Rn0])).mpr ⟨g2, ?_⟩
  obtain ⟨g3, h⟩ := h
  refine (zq_getI2 (f := 449) (v := (mI m 449 (mR m 577 (mR m 643 a0)))) dX10_digest_92 fl_10_94 (by decide) rfl rfl (by first | rfl | simp only [zm_Is, zm_Rs, zm_As, zm_Os, zm_In0, zm_Rn0])).mpr ⟨g3, ?_⟩
  refine (zq_icmp_ge (t := 144) dX10_digest_95 rfl).mpr ⟨fun c => ?_, fun c => ?_⟩
  · replace h := h.1 c
    refine (zq_iconst dX10_digest_144 (by decide)).mpr ?_
    refine (zq_istore_n dX10_digest_145 (by simp) rfl).mpr ?_
    exact h
  · replace h := h.2 c
    refine (zq_iconst dX10_digest_98 (by decide)).mpr ?_
    refine (zq_istore dX10_digest_99 (by simp) rfl).mpr ?_
    exact h
theorem bX10_digest_101 {a0 : Nat} {a1 : Int} {a2 : zV} {a3 : Int} {a4 : Int} (h : ((5 ≤ a4 → zW xs xl d cX10_digest 10 (some .long) false [] 84 [zR a0, zL a1, a2, zI (wr (a3 + 1)), zI a4] [] m Q) ∧ (¬ (5 ≤ a4) → (mC m a0 = 11) ∧ (mC m (mR m 643 a0) = 10) ∧ (mC m (mR m 577 (mR m 643 a0)) = 8) ∧ (29 ≤ mC m (mR m 448 (mR m 577 (mR m 643 a0))) ∧ mC m (mR m 448 (mR m 577 (mR m 643 a0))) < 43) ∧ (0 ≤ a3 ∧ a3 < mN m (mR m 448 (mR m 577 (mR m 643 a0)))) ∧ (mC m (mO m (mR m 448 (mR m 577 (mR m 643 a0))) (Int.toNat a3)) = 5) ∧ zC xs xl d 43 [zR (mO m (mR m 448 (mR m 577 (mR m 643 a0))) (Int.toNat a3)), zI a4] m (fun r m6 => ∃ v7 : Int, r = .inl (some (zI v7)) ∧ zW xs xl d cX10_digest 10 (some .long) false [] 101 [zR a0, zL (wl ((wl (a1 * 31)) + v7)), zU, zI a3, zI (wr (a4 + 1))] [] m6 Q)))) : zW xs xl d cX10_digest 10 (some .long) false [] 101 [zR a0, zL a1, a2, zI a3, zI a4] [] m Q := by
  refine (zq_iload dX10_digest_101 rfl).mpr ?_
  refine (zq_iconst dX10_digest_103 (by decide)).mpr ?_
  refine (zq_icmp_ge (t := 138) dX10_digest_104 rfl).mpr ⟨fun c => ?_, fun c => ?_⟩
  · replace h := h.1 c
    refine (zq_iinc dX10_digest_138 rfl rfl).mpr ?_
    refine (zq_goto (t := 84) dX10_digest_141 rfl).mpr ?_
    exact h
  · replace h := h.2 c
    refine (zq_lload_n dX10_digest_107 rfl).mpr ?_
    refine (zq_ldc2 dX10_digest_108 cq_10_267).mpr ?_
    refine (zq_lmul dX10_digest_111).mpr ?_
    refine (zq_aload_n dX10_digest_112 rfl).mpr ?_
    obtain ⟨g1, h⟩ := h
    refine (zq_getR2 (f := 643) (v := (mR m 643 a0)) dX10_digest_113 fl_10_34 (by decide) rfl rfl (by first | rfl | simp only [zm_Is, zm_Rs, zm_As, zm_Os, zm_In0, zm_Rn0])).mpr ⟨g1, ?_⟩
    obtain ⟨g2, h⟩ := h
    refine (zq_getR2 (f := 577) (v := (mR m 577 (mR m 643 a0))) dX10_digest_116 fl_10_90 (by decide) rfl rfl (by first | rfl | simp only [zm_Is, zm_Rs, zm_As, zm_Os, zm_In0, zm_Rn0])).mpr ⟨g2, ?_⟩
    obtain ⟨g3, h⟩ := h
    refine (zq_getR2 (f := 448) (v := (mR m 448 (mR m 577 (mR m 643 a0)))) dX10_digest_119 fl_10_107 (by decide) rfl rfl (by first | rfl | simp only [zm_Is, zm_Rs, zm_As, zm_Os, zm_In0, zm_Rn0])).mpr ⟨g3, ?_⟩
    refine (zq_iload_n dX10_digest_122 rfl).mpr ?_
    obtain ⟨g4, h⟩ := h
    obtain ⟨g5, h⟩ := h
    refine (zq_aald2 (v := (mO m (mR m 448 (mR m 577 (mR m 643 a0))) (Int.toNat a3))) dX10_digest_123 (by first | rfl | simp only [zm_Is, zm_Rs, zm_As, zm_Os, zm_In0, zm_Rn0])).mpr ⟨⟨g4.1, g4.2, g5⟩, ?_⟩
    refine (zq_iload dX10_digest_124 rfl).mpr ?_
    obtain ⟨g8, h⟩ := h
    refine zq_virtualI (n := 1) dX10_digest_126 mr_10_130 zn_43 rfl rfl rfl (zrcv_R zo_43 (by decide) g8) (Nat.le_of_ble_eq_true rfl) ?_
    refine h.mono (fun r m6 h => ?_)
    obtain ⟨v7, rfl, h⟩ := h
    refine ⟨_, rfl, ?_⟩
    refine (zq_i2l dX10_digest_129).mpr ?_
    refine (zq_ladd dX10_digest_130).mpr ?_
    refine (zq_lstore_n dX10_digest_131 (by simp) rfl).mpr ?_
    refine (zq_iinc dX10_digest_132 rfl rfl).mpr ?_
    refine (zq_goto (t := 101) dX10_digest_135 rfl).mpr ?_
    exact h
theorem bX10_digest_146 {a0 : Nat} {a1 : Int} {a2 : zV} {a3 : Int} {a4 : zV} (h : ((5 ≤ a3 → zW xs xl d cX10_digest 10 (some .long) false [] 192 [zR a0, zL a1, a2, zI 0, a4] [] m Q) ∧ (¬ (5 ≤ a3) → zW xs xl d cX10_digest 10 (some .long) false [] 154 [zR a0, zL a1, a2, zI a3, zI 0] [] m Q))) : zW xs xl d cX10_digest 10 (some .long) false [] 146 [zR a0, zL a1, a2, zI a3, a4] [] m Q := by
  refine (zq_iload_n dX10_digest_146 rfl).mpr ?_
  refine (zq_iconst dX10_digest_147 (by decide)).mpr ?_
  refine (zq_icmp_ge (t := 190) dX10_digest_148 rfl).mpr ⟨fun c => ?_, fun c => ?_⟩
  · replace h := h.1 c
    refine (zq_iconst dX10_digest_190 (by decide)).mpr ?_
    refine (zq_istore_n dX10_digest_191 (by simp) rfl).mpr ?_
    exact h
  · replace h := h.2 c
    refine (zq_iconst dX10_digest_151 (by decide)).mpr ?_
    refine (zq_istore dX10_digest_152 (by simp) rfl).mpr ?_
    exact h
theorem bX10_digest_154 {a0 : Nat} {a1 : Int} {a2 : zV} {a3 : Int} {a4 : Int} (h : ((3 ≤ a4 → zW xs xl d cX10_digest 10 (some .long) false [] 146 [zR a0, zL a1, a2, zI (wr (a3 + 1)), zI a4] [] m Q) ∧ (¬ (3 ≤ a4) → (mC m a0 = 11) ∧ (mC m (mR m 643 a0) = 10) ∧ zC xs xl d 99 [zR (mR m 643 a0), zI a3, zI a4] m (fun r m2 => ∃ v3 : Int, r = .inl (some (zI v3)) ∧ zW xs xl d cX10_digest 10 (some .long) false [] 154 [zR a0, zL (wl ((wl (a1 * 31)) + v3)), zU, zI a3, zI (wr (a4 + 1))] [] m2 Q)))) : zW xs xl d cX10_digest 10 (some .long) false [] 154 [zR a0, zL a1, a2, zI a3, zI a4] [] m Q := by
  refine (zq_iload dX10_digest_154 rfl).mpr ?_
  refine (zq_iconst dX10_digest_156 (by decide)).mpr ?_
  refine (zq_icmp_ge (t := 184) dX10_digest_157 rfl).mpr ⟨fun c => ?_, fun c => ?_⟩
  · replace h := h.1 c
    refine (zq_iinc dX10_digest_184 rfl rfl).mpr ?_
    refine (zq_goto (t := 146) dX10_digest_187 rfl).mpr ?_
    exact h
  · replace h := h.2 c
    refine (zq_lload_n dX10_digest_160 rfl).mpr ?_
    refine (zq_ldc2 dX10_digest_161 cq_10_267).mpr ?_
    refine (zq_lmul dX10_digest_164).mpr ?_
    refine (zq_aload_n dX10_digest_165 rfl).mpr ?_
    obtain ⟨g1, h⟩ := h
    refine (zq_getR2 (f := 643) (v := (mR m 643 a0)) dX10_digest_166 fl_10_34 (by decide) rfl rfl (by first | rfl | simp only [zm_Is, zm_Rs, zm_As, zm_Os, zm_In0, zm_Rn0])).mpr ⟨g1, ?_⟩
    refine (zq_iload_n dX10_digest_169 rfl).mpr ?_
    refine (zq_iload dX10_digest_170 rfl).mpr ?_
    obtain ⟨g4, h⟩ := h
    refine zq_virtualI (n := 2) dX10_digest_172 mr_10_153 zn_99 rfl rfl rfl (zrcv_R zo_99 (by decide) g4) (Nat.le_of_ble_eq_true rfl) ?_
    refine h.mono (fun r m2 h => ?_)
    obtain ⟨v3, rfl, h⟩ := h
    refine ⟨_, rfl, ?_⟩
    refine (zq_i2l dX10_digest_175).mpr ?_
    refine (zq_ladd dX10_digest_176).mpr ?_
    refine (zq_lstore_n dX10_digest_177 (by simp) rfl).mpr ?_
    refine (zq_iinc dX10_digest_178 rfl rfl).mpr ?_
    refine (zq_goto (t := 154) dX10_digest_181 rfl).mpr ?_
    exact h
theorem bX10_digest_192 {a0 : Nat} {a1 : Int} {a2 : zV} {a3 : Int} {a4 : zV} (h : (mC m a0 = 11) ∧ (mC m (mR m 643 a0) = 10) ∧ (((mI m 581 (mR m 643 a0)) ≤ a3 → zW xs xl d cX10_digest 10 (some .long) false [] 225 [zR a0, zL a1, a2, zI 0, a4] [] m Q) ∧ (¬ ((mI m 581 (mR m 643 a0)) ≤ a3) → (29 ≤ mC m (mR m 580 (mR m 643 a0)) ∧ mC m (mR m 580 (mR m 643 a0)) < 43) ∧ (0 ≤ a3 ∧ a3 < mN m (mR m 580 (mR m 643 a0))) ∧ zC xs xl d 126 [zL a1, zR (mO m (mR m 580 (mR m 643 a0)) (Int.toNat a3))] m (fun r m5 => ∃ v6 : Int, r = .inl (some (zL v6)) ∧ zW xs xl d cX10_digest 10 (some .long) false [] 192 [zR a0, zL v6, zU, zI (wr (a3 + 1)), a4] [] m5 Q)))) : zW xs xl d cX10_digest 10 (some .long) false [] 192 [zR a0, zL a1, a2, zI a3, a4] [] m Q := by
  refine (zq_iload_n dX10_digest_192 rfl).mpr ?_
  refine (zq_aload_n dX10_digest_193 rfl).mpr ?_
  obtain ⟨g1, h⟩ := h
  refine (zq_getR2 (f := 643) (v := (mR m 643 a0)) dX10_digest_194 fl_10_34 (by decide) rfl rfl (by first | rfl | simp only [zm_Is, zm_Rs, zm_As, zm_Os, zm_In0, zm_Rn0])).mpr ⟨g1, ?_⟩
  obtain ⟨g2, h⟩ := h
  refine (zq_getI2 (f := 581) (v := (mI m 581 (mR m 643 a0))) dX10_digest_197 fl_10_156 (by decide) rfl rfl (by first | rfl | simp only [zm_Is, zm_Rs, zm_As, zm_Os, zm_In0, zm_Rn0])).mpr ⟨g2, ?_⟩
  refine (zq_icmp_ge (t := 223) dX10_digest_200 rfl).mpr ⟨fun c => ?_, fun c => ?_⟩
  · replace h := h.1 c
    refine (zq_iconst dX10_digest_223 (by decide)).mpr ?_
    refine (zq_istore_n dX10_digest_224 (by simp) rfl).mpr ?_
    exact h
  · replace h := h.2 c
    refine (zq_lload_n dX10_digest_203 rfl).mpr ?_
    refine (zq_aload_n dX10_digest_204 rfl).mpr ?_
    refine (zq_getR2 (f := 643) (v := (mR m 643 a0)) dX10_digest_205 fl_10_34 (by decide) rfl rfl (by first | rfl | simp only [zm_Is, zm_Rs, zm_As, zm_Os, zm_In0, zm_Rn0])).mpr ⟨g1, ?_⟩
    refine (zq_getR2 (f := 580) (v := (mR m 580 (mR m 643 a0))) dX10_digest_208 fl_10_168 (by decide) rfl rfl (by first | rfl | simp only [zm_Is, zm_Rs, zm_As, zm_Os, zm_In0, zm_Rn0])).mpr ⟨g2, ?_⟩
    refine (zq_iload_n dX10_digest_211 rfl).mpr ?_
    obtain ⟨g3, h⟩ := h
    obtain ⟨g4, h⟩ := h
    refine (zq_aald2 (v := (mO m (mR m 580 (mR m 643 a0)) (Int.toNat a3))) dX10_digest_212 (by first | rfl | simp only [zm_Is, zm_Rs, zm_As, zm_Os, zm_In0, zm_Rn0])).mpr ⟨⟨g3.1, g3.2, g4⟩, ?_⟩
    refine zq_staticL (n := 2) dX10_digest_213 mr_10_269 zn_126 rfl rfl (Nat.le_of_ble_eq_true rfl) (Nat.le_of_ble_eq_true rfl) ?_
    refine h.mono (fun r m5 h => ?_)
    obtain ⟨v6, rfl, h⟩ := h
    refine ⟨_, rfl, ?_⟩
    refine (zq_lstore_n dX10_digest_216 (by simp) rfl).mpr ?_
    refine (zq_iinc dX10_digest_217 rfl rfl).mpr ?_
    refine (zq_goto (t := 192) dX10_digest_220 rfl).mpr ?_
    exact h
theorem bX10_digest_225 {a0 : Nat} {a1 : Int} {a2 : zV} {a3 : Int} {a4 : zV} (h : (mC m a0 = 11) ∧ (mC m (mR m 643 a0) = 10) ∧ zC xs xl d 94 [zR (mR m 643 a0)] m (fun r m2 => ∃ v3 : Int, r = .inl (some (zI v3)) ∧ ((v3 ≤ a3 → Q (.inl (some (zL a1))) m2) ∧ (¬ (v3 ≤ a3) → zW xs xl d cX10_digest 10 (some .long) false [] 239 [zR a0, zL a1, a2, zI a3, zI 0] [] m2 Q)))) : zW xs xl d cX10_digest 10 (some .long) false [] 225 [zR a0, zL a1, a2, zI a3, a4] [] m Q := by
  refine (zq_iload_n dX10_digest_225 rfl).mpr ?_
  refine (zq_aload_n dX10_digest_226 rfl).mpr ?_
  obtain ⟨g1, h⟩ := h
  refine (zq_getR2 (f := 643) (v := (mR m 643 a0)) dX10_digest_227 fl_10_34 (by decide) rfl rfl (by first | rfl | simp only [zm_Is, zm_Rs, zm_As, zm_Os, zm_In0, zm_Rn0])).mpr ⟨g1, ?_⟩
  obtain ⟨g4, h⟩ := h
  refine zq_virtualI (n := 0) dX10_digest_230 mr_10_249 zn_94 rfl rfl rfl (zrcv_R zo_94 (by decide) g4) (Nat.le_of_ble_eq_true rfl) ?_
  refine h.mono (fun r m2 h => ?_)
  obtain ⟨v3, rfl, h⟩ := h
  refine ⟨_, rfl, ?_⟩
  refine (zq_icmp_ge (t := 278) dX10_digest_233 rfl).mpr ⟨fun c => ?_, fun c => ?_⟩
  · replace h := h.1 c
    refine (zq_lload_n dX10_digest_278 rfl).mpr ?_
    exact (zq_lret dX10_digest_279 rfl).mpr h
  · replace h := h.2 c
    refine (zq_iconst dX10_digest_236 (by decide)).mpr ?_
    refine (zq_istore dX10_digest_237 (by simp) rfl).mpr ?_
    exact h
theorem bX10_digest_239 {a0 : Nat} {a1 : Int} {a2 : zV} {a3 : Int} {a4 : Int} (h : ((6 ≤ a4 → zW xs xl d cX10_digest 10 (some .long) false [] 225 [zR a0, zL a1, a2, zI (wr (a3 + 1)), zI a4] [] m Q) ∧ (¬ (6 ≤ a4) → (mC m a0 = 11) ∧ (mC m (mR m 643 a0) = 10) ∧ (29 ≤ mC m (mR m 582 (mR m 643 a0)) ∧ mC m (mR m 582 (mR m 643 a0)) < 43) ∧ (0 ≤ a3 ∧ a3 < mN m (mR m 582 (mR m 643 a0))) ∧ (mC m (mO m (mR m 582 (mR m 643 a0)) (Int.toNat a3)) = 20) ∧ (0 ≤ a4 ∧ a4 < mN m (mO m (mR m 582 (mR m 643 a0)) (Int.toNat a3))) ∧ zW xs xl d cX10_digest 10 (some .long) false [] 239 [zR a0, zL (wl ((wl (a1 * 31)) + (mA m (mO m (mR m 582 (mR m 643 a0)) (Int.toNat a3)) (Int.toNat a4)))), zU, zI a3, zI (wr (a4 + 1))] [] m Q))) : zW xs xl d cX10_digest 10 (some .long) false [] 239 [zR a0, zL a1, a2, zI a3, zI a4] [] m Q := by
  refine (zq_iload dX10_digest_239 rfl).mpr ?_
  refine (zq_bipush dX10_digest_241 (by decide)).mpr ?_
  refine (zq_icmp_ge (t := 272) dX10_digest_243 rfl).mpr ⟨fun c => ?_, fun c => ?_⟩
  · replace h := h.1 c
    refine (zq_iinc dX10_digest_272 rfl rfl).mpr ?_
    refine (zq_goto (t := 225) dX10_digest_275 rfl).mpr ?_
    exact h
  · replace h := h.2 c
    refine (zq_lload_n dX10_digest_246 rfl).mpr ?_
    refine (zq_ldc2 dX10_digest_247 cq_10_267).mpr ?_
    refine (zq_lmul dX10_digest_250).mpr ?_
    refine (zq_aload_n dX10_digest_251 rfl).mpr ?_
    obtain ⟨g1, h⟩ := h
    refine (zq_getR2 (f := 643) (v := (mR m 643 a0)) dX10_digest_252 fl_10_34 (by decide) rfl rfl (by first | rfl | simp only [zm_Is, zm_Rs, zm_As, zm_Os, zm_In0, zm_Rn0])).mpr ⟨g1, ?_⟩
    obtain ⟨g2, h⟩ := h
    refine (zq_getR2 (f := 582) (v := (mR m 582 (mR m 643 a0))) dX10_digest_255 fl_10_254 (by decide) rfl rfl (by first | rfl | simp only [zm_Is, zm_Rs, zm_As, zm_Os, zm_In0, zm_Rn0])).mpr ⟨g2, ?_⟩
    refine (zq_iload_n dX10_digest_258 rfl).mpr ?_
    obtain ⟨g3, h⟩ := h
    obtain ⟨g4, h⟩ := h
    refine (zq_aald2 (v := (mO m (mR m 582 (mR m 643 a0)) (Int.toNat a3))) dX10_digest_259 (by first | rfl | simp only [zm_Is, zm_Rs, zm_As, zm_Os, zm_In0, zm_Rn0])).mpr ⟨⟨g3.1, g3.2, g4⟩, ?_⟩
    refine (zq_iload dX10_digest_260 rfl).mpr ?_
    obtain ⟨g5, h⟩ := h
    obtain ⟨g6, h⟩ := h
    refine (zq_iald2 (v := (mA m (mO m (mR m 582 (mR m 643 a0)) (Int.toNat a3)) (Int.toNat a4))) dX10_digest_262 (by first | rfl | simp only [zm_Is, zm_Rs, zm_As, zm_Os, zm_In0, zm_Rn0])).mpr ⟨⟨g5, g6⟩, ?_⟩
    refine (zq_i2l dX10_digest_263).mpr ?_
    refine (zq_ladd dX10_digest_264).mpr ?_
    refine (zq_lstore_n dX10_digest_265 (by simp) rfl).mpr ?_
    refine (zq_iinc dX10_digest_266 rfl rfl).mpr ?_
    refine (zq_goto (t := 239) dX10_digest_269 rfl).mpr ?_
    exact h
theorem bX10_digestOfSlip_0 {a0 : Int} {a2 : Nat} (h : zW xs xl d cX10_digestOfSlip 10 (some .long) false [] 5 [zL a0, zU, zR a2, zL a0, zU, zI 0] [] m Q) : zC xs xl (d + 1) 126 [zL a0, zR a2] m Q := by
  refine zk_126 ?_
  refine (zq_lload_n dX10_digestOfSlip_0 rfl).mpr ?_
  refine (zq_lstore_n dX10_digestOfSlip_1 (by simp) rfl).mpr ?_
  refine (zq_iconst dX10_digestOfSlip_2 (by decide)).mpr ?_
  refine (zq_istore dX10_digestOfSlip_3 (by simp) rfl).mpr ?_
  exact h
theorem bX10_digestOfSlip_5 {a0 : Int} {a1 : zV} {a2 : Nat} {a3 : Int} {a4 : zV} {a5 : Int} (h : ((15 ≤ a5 → zW xs xl d cX10_digestOfSlip 10 (some .long) false [] 35 [zL a0, a1, zR a2, zL a3, a4, zI 0] [] m Q) ∧ (¬ (15 ≤ a5) → (mC m a2 = 7) ∧ zC xs xl d 72 [zR a2, zI a5] m (fun r m1 => ∃ v2 : Int, r = .inl (some (zI v2)) ∧ zW xs xl d cX10_digestOfSlip 10 (some .long) false [] 5 [zL a0, a1, zR a2, zL (wl ((wl (a3 * 31)) + v2)), zU, zI (wr (a5 + 1))] [] m1 Q)))) : zW xs xl d cX10_digestOfSlip 10 (some .long) false [] 5 [zL a0, a1, zR a2, zL a3, a4, zI a5] [] m Q := by
  refine (zq_iload dX10_digestOfSlip_5 rfl).mpr ?_
  refine (zq_bipush dX10_digestOfSlip_7 (by decide)).mpr ?_
  refine (zq_icmp_ge (t := 32) dX10_digestOfSlip_9 rfl).mpr ⟨fun c => ?_, fun c => ?_⟩
  · replace h := h.1 c
    refine (zq_iconst dX10_digestOfSlip_32 (by decide)).mpr ?_
    refine (zq_istore dX10_digestOfSlip_33 (by simp) rfl).mpr ?_
    exact h
  · replace h := h.2 c
    refine (zq_lload_n dX10_digestOfSlip_12 rfl).mpr ?_
    refine (zq_ldc2 dX10_digestOfSlip_13 cq_10_267).mpr ?_
    refine (zq_lmul dX10_digestOfSlip_16).mpr ?_
    refine (zq_aload_n dX10_digestOfSlip_17 rfl).mpr ?_
    refine (zq_iload dX10_digestOfSlip_18 rfl).mpr ?_
    obtain ⟨g3, h⟩ := h
    refine zq_virtualI (n := 1) dX10_digestOfSlip_20 mr_10_218 zn_72 rfl rfl rfl (zrcv_R zo_72 (by decide) g3) (Nat.le_of_ble_eq_true rfl) ?_
    refine h.mono (fun r m1 h => ?_)
    obtain ⟨v2, rfl, h⟩ := h
    refine ⟨_, rfl, ?_⟩
    refine (zq_i2l dX10_digestOfSlip_23).mpr ?_
    refine (zq_ladd dX10_digestOfSlip_24).mpr ?_
    refine (zq_lstore_n dX10_digestOfSlip_25 (by simp) rfl).mpr ?_
    refine (zq_iinc dX10_digestOfSlip_26 rfl rfl).mpr ?_
    refine (zq_goto (t := 5) dX10_digestOfSlip_29 rfl).mpr ?_
    exact h
theorem bX10_digestOfSlip_35 {a0 : Int} {a1 : zV} {a2 : Nat} {a3 : Int} {a4 : zV} {a5 : Int} (h : ((3 ≤ a5 → zW xs xl d cX10_digestOfSlip 10 (some .long) false [] 68 [zL a0, a1, zR a2, zL a3, a4, zI 0] [] m Q) ∧ (¬ (3 ≤ a5) → (mC m a2 = 7) ∧ (mC m (mR m 395 a2) = 3) ∧ (mC m (mR m 133 (mR m 395 a2)) = 20) ∧ (0 ≤ a5 ∧ a5 < mN m (mR m 133 (mR m 395 a2))) ∧ zW xs xl d cX10_digestOfSlip 10 (some .long) false [] 35 [zL a0, a1, zR a2, zL (wl ((wl (a3 * 31)) + (mA m (mR m 133 (mR m 395 a2)) (Int.toNat a5)))), zU, zI (wr (a5 + 1))] [] m Q))) : zW xs xl d cX10_digestOfSlip 10 (some .long) false [] 35 [zL a0, a1, zR a2, zL a3, a4, zI a5] [] m Q := by
  refine (zq_iload dX10_digestOfSlip_35 rfl).mpr ?_
  refine (zq_iconst dX10_digestOfSlip_37 (by decide)).mpr ?_
  refine (zq_icmp_ge (t := 65) dX10_digestOfSlip_38 rfl).mpr ⟨fun c => ?_, fun c => ?_⟩
  · replace h := h.1 c
    refine (zq_iconst dX10_digestOfSlip_65 (by decide)).mpr ?_
    refine (zq_istore dX10_digestOfSlip_66 (by simp) rfl).mpr ?_
    exact h
  · replace h := h.2 c
    refine (zq_lload_n dX10_digestOfSlip_41 rfl).mpr ?_
    refine (zq_ldc2 dX10_digestOfSlip_42 cq_10_267).mpr ?_
    refine (zq_lmul dX10_digestOfSlip_45).mpr ?_
    refine (zq_aload_n dX10_digestOfSlip_46 rfl).mpr ?_
    obtain ⟨g1, h⟩ := h
    refine (zq_getR2 (f := 395) (v := (mR m 395 a2)) dX10_digestOfSlip_47 fl_10_221 (by decide) rfl rfl (by first | rfl | simp only [zm_Is, zm_Rs, zm_As, zm_Os, zm_In0, zm_Rn0])).mpr ⟨g1, ?_⟩
    obtain ⟨g2, h⟩ := h
    refine (zq_getR2 (f := 133) (v := (mR m 133 (mR m 395 a2))) dX10_digestOfSlip_50 fl_10_230 (by decide) rfl rfl (by first | rfl | simp only [zm_Is, zm_Rs, zm_As, zm_Os, zm_In0, zm_Rn0])).mpr ⟨g2, ?_⟩
    refine (zq_iload dX10_digestOfSlip_53 rfl).mpr ?_
    obtain ⟨g3, h⟩ := h
    obtain ⟨g4, h⟩ := h
    refine (zq_iald2 (v := (mA m (mR m 133 (mR m 395 a2)) (Int.toNat a5))) dX10_digestOfSlip_55 (by first | rfl | simp only [zm_Is, zm_Rs, zm_As, zm_Os, zm_In0, zm_Rn0])).mpr ⟨⟨g3, g4⟩, ?_⟩
    refine (zq_i2l dX10_digestOfSlip_56).mpr ?_
    refine (zq_ladd dX10_digestOfSlip_57).mpr ?_
    refine (zq_lstore_n dX10_digestOfSlip_58 (by simp) rfl).mpr ?_
    refine (zq_iinc dX10_digestOfSlip_59 rfl rfl).mpr ?_
    refine (zq_goto (t := 35) dX10_digestOfSlip_62 rfl).mpr ?_
    exact h
theorem bX10_digestOfSlip_68 {a0 : Int} {a1 : zV} {a2 : Nat} {a3 : Int} {a4 : zV} {a5 : Int} (h : ((3 ≤ a5 → Q (.inl (some (zL a3))) m) ∧ (¬ (3 ≤ a5) → (mC m a2 = 7) ∧ (mC m (mR m 395 a2) = 3) ∧ (mC m (mR m 134 (mR m 395 a2)) = 20) ∧ (0 ≤ a5 ∧ a5 < mN m (mR m 134 (mR m 395 a2))) ∧ zW xs xl d cX10_digestOfSlip 10 (some .long) false [] 68 [zL a0, a1, zR a2, zL (wl ((wl (a3 * 31)) + (mA m (mR m 134 (mR m 395 a2)) (Int.toNat a5)))), zU, zI (wr (a5 + 1))] [] m Q))) : zW xs xl d cX10_digestOfSlip 10 (some .long) false [] 68 [zL a0, a1, zR a2, zL a3, a4, zI a5] [] m Q := by
  refine (zq_iload dX10_digestOfSlip_68 rfl).mpr ?_
  refine (zq_iconst dX10_digestOfSlip_70 (by decide)).mpr ?_
  refine (zq_icmp_ge (t := 98) dX10_digestOfSlip_71 rfl).mpr ⟨fun c => ?_, fun c => ?_⟩
  · replace h := h.1 c
    refine (zq_lload_n dX10_digestOfSlip_98 rfl).mpr ?_
    exact (zq_lret dX10_digestOfSlip_99 rfl).mpr h
  · replace h := h.2 c
    refine (zq_lload_n dX10_digestOfSlip_74 rfl).mpr ?_
    refine (zq_ldc2 dX10_digestOfSlip_75 cq_10_267).mpr ?_
    refine (zq_lmul dX10_digestOfSlip_78).mpr ?_
    refine (zq_aload_n dX10_digestOfSlip_79 rfl).mpr ?_
    obtain ⟨g1, h⟩ := h
    refine (zq_getR2 (f := 395) (v := (mR m 395 a2)) dX10_digestOfSlip_80 fl_10_221 (by decide) rfl rfl (by first | rfl | simp only [zm_Is, zm_Rs, zm_As, zm_Os, zm_In0, zm_Rn0])).mpr ⟨g1, ?_⟩
    obtain ⟨g2, h⟩ := h
    refine (zq_getR2 (f := 134) (v := (mR m 134 (mR m 395 a2))) dX10_digestOfSlip_83 fl_10_225 (by decide) rfl rfl (by first | rfl | simp only [zm_Is, zm_Rs, zm_As, zm_Os, zm_In0, zm_Rn0])).mpr ⟨g2, ?_⟩
    refine (zq_iload dX10_digestOfSlip_86 rfl).mpr ?_
    obtain ⟨g3, h⟩ := h
    obtain ⟨g4, h⟩ := h
    refine (zq_iald2 (v := (mA m (mR m 134 (mR m 395 a2)) (Int.toNat a5))) dX10_digestOfSlip_88 (by first | rfl | simp only [zm_Is, zm_Rs, zm_As, zm_Os, zm_In0, zm_Rn0])).mpr ⟨⟨g3, g4⟩, ?_⟩
    refine (zq_i2l dX10_digestOfSlip_89).mpr ?_
    refine (zq_ladd dX10_digestOfSlip_90).mpr ?_
    refine (zq_lstore_n dX10_digestOfSlip_91 (by simp) rfl).mpr ?_
    refine (zq_iinc dX10_digestOfSlip_92 rfl rfl).mpr ?_
    refine (zq_goto (t := 68) dX10_digestOfSlip_95 rfl).mpr ?_
    exact h
theorem bX10_isBelow_0 {a0 : Int} {a1 : Int} (h : ((a0 < 0 → Q (.inl (some (zI 0))) m) ∧ (¬ (a0 < 0) → ((a1 ≤ a0 → Q (.inl (some (zI 0))) m) ∧ (¬ (a1 ≤ a0) → Q (.inl (some (zI 1))) m))))) : zC xs xl (d + 1) 127 [zI a0, zI a1] m Q := by
  refine zk_127 ?_
  refine (zq_iload_n dX10_isBelow_0 rfl).mpr ?_
  refine (zq_if_lt (t := 13) dX10_isBelow_1 rfl).mpr ⟨fun c => ?_, fun c => ?_⟩
  · replace h := h.1 c
    refine (zq_iconst dX10_isBelow_13 (by decide)).mpr ?_
    exact (zq_iret dX10_isBelow_14 rfl).mpr ⟨by decide, h⟩
  · replace h := h.2 c
    refine (zq_iload_n dX10_isBelow_4 rfl).mpr ?_
    refine (zq_iload_n dX10_isBelow_5 rfl).mpr ?_
    refine (zq_icmp_ge (t := 13) dX10_isBelow_6 rfl).mpr ⟨fun c => ?_, fun c => ?_⟩
    · replace h := h.1 c
      refine (zq_iconst dX10_isBelow_13 (by decide)).mpr ?_
      exact (zq_iret dX10_isBelow_14 rfl).mpr ⟨by decide, h⟩
    · replace h := h.2 c
      refine (zq_iconst dX10_isBelow_9 (by decide)).mpr ?_
      refine (zq_goto (t := 14) dX10_isBelow_10 rfl).mpr ?_
      exact (zq_iret dX10_isBelow_14 rfl).mpr ⟨by decide, h⟩
theorem bX10_nearer_0 {a0 : Int} {a1 : Int} {a2 : Int} (h : ((a2 < (if 0 ≤ (wr (a1 - a0)) then (wr (a1 - a0)) else wr (0 - (wr (a1 - a0)))) → ((a1 ≤ a0 → Q (.inl (some (zI (wr (a0 - a2))))) m) ∧ (¬ (a1 ≤ a0) → Q (.inl (some (zI (wr (a0 + a2))))) m))) ∧ (¬ (a2 < (if 0 ≤ (wr (a1 - a0)) then (wr (a1 - a0)) else wr (0 - (wr (a1 - a0))))) → Q (.inl (some (zI a1))) m))) : zC xs xl (d + 1) 128 [zI a0, zI a1, zI a2] m Q := by
  refine zk_128 ?_
  refine (zq_iload_n dX10_nearer_0 rfl).mpr ?_
  refine (zq_iload_n dX10_nearer_1 rfl).mpr ?_
  refine (zq_isub dX10_nearer_2).mpr ?_
  refine (zq_abs dX10_nearer_3 mr_10_273).mpr ⟨(Nat.le_of_ble_eq_true rfl), ?_⟩
  refine (zq_iload_n dX10_nearer_6 rfl).mpr ?_
  refine (zq_icmp_gt (t := 12) dX10_nearer_7 rfl).mpr ⟨fun c => ?_, fun c => ?_⟩
  · replace h := h.1 c
    refine (zq_iload_n dX10_nearer_12 rfl).mpr ?_
    refine (zq_iload_n dX10_nearer_13 rfl).mpr ?_
    refine (zq_icmp_ge (t := 23) dX10_nearer_14 rfl).mpr ⟨fun c => ?_, fun c => ?_⟩
    · replace h := h.1 c
      refine (zq_iload_n dX10_nearer_23 rfl).mpr ?_
      refine (zq_iload_n dX10_nearer_24 rfl).mpr ?_
      refine (zq_isub dX10_nearer_25).mpr ?_
      exact (zq_iret dX10_nearer_26 rfl).mpr ⟨trivial, h⟩
    · replace h := h.2 c
      refine (zq_iload_n dX10_nearer_17 rfl).mpr ?_
      refine (zq_iload_n dX10_nearer_18 rfl).mpr ?_
      refine (zq_iadd dX10_nearer_19).mpr ?_
      refine (zq_goto (t := 26) dX10_nearer_20 rfl).mpr ?_
      exact (zq_iret dX10_nearer_26 rfl).mpr ⟨trivial, h⟩
  · replace h := h.2 c
    refine (zq_iload_n dX10_nearer_10 rfl).mpr ?_
    exact (zq_iret dX10_nearer_11 rfl).mpr ⟨trivial, h⟩
theorem bX11_init_0 {a0 : Nat} (h : (a0 ≠ 0) ∧ (mC (nwA m 20 60) a0 = 12) ∧ (mC (nwA (sR (nwA m 20 60) 706 a0 (mz m)) 20 60) a0 = 12) ∧ (mC (nwA (sR (nwA (sR (nwA m 20 60) 706 a0 (mz m)) 20 60) 707 a0 (mz m + 1)) 20 60) a0 = 12) ∧ (mC (nwA (sR (nwA (sR (nwA (sR (nwA m 20 60) 706 a0 (mz m)) 20 60) 707 a0 (mz m + 1)) 20 60) 708 a0 (mz m + 2)) 20 60) a0 = 12) ∧ (mC (nwA (sR (nwA (sR (nwA (sR (nwA (sR (nwA m 20 60) 706 a0 (mz m)) 20 60) 707 a0 (mz m + 1)) 20 60) 708 a0 (mz m + 2)) 20 60) 709 a0 (mz m + 3)) 20 480) a0 = 12) ∧ (mC (nwA (sR (nwA (sR (nwA (sR (nwA (sR (nwA (sR (nwA m 20 60) 706 a0 (mz m)) 20 60) 707 a0 (mz m + 1)) 20 60) 708 a0 (mz m + 2)) 20 60) 709 a0 (mz m + 3)) 20 480) 710 a0 (mz m + 4)) 20 5) a0 = 12) ∧ (0 < mN (nwA (sR (nwA (sR (nwA (sR (nwA (sR (nwA (sR (nwA (sR (nwA m 20 60) 706 a0 (mz m)) 20 60) 707 a0 (mz m + 1)) 20 60) 708 a0 (mz m + 2)) 20 60) 709 a0 (mz m + 3)) 20 480) 710 a0 (mz m + 4)) 20 5) 711 a0 (mz m + 5)) 20 6) (mz m + 6)) ∧ (mC (nwA (sR (nwA (sR (nwA (sR (nwA (sR (nwA (sR (nwA (sR (nwA m 20 60) 706 a0 (mz m)) 20 60) 707 a0 (mz m + 1)) 20 60) 708 a0 (mz m + 2)) 20 60) 709 a0 (mz m + 3)) 20 480) 710 a0 (mz m + 4)) 20 5) 711 a0 (mz m + 5)) 20 6) (mz m + 6) = 20) ∧ (1 < mN (nwA (sR (nwA (sR (nwA (sR (nwA (sR (nwA (sR (nwA (sR (nwA m 20 60) 706 a0 (mz m)) 20 60) 707 a0 (mz m + 1)) 20 60) 708 a0 (mz m + 2)) 20 60) 709 a0 (mz m + 3)) 20 480) 710 a0 (mz m + 4)) 20 5) 711 a0 (mz m + 5)) 20 6) (mz m + 6)) ∧ (2 < mN (nwA (sR (nwA (sR (nwA (sR (nwA (sR (nwA (sR (nwA (sR (nwA m 20 60) 706 a0 (mz m)) 20 60) 707 a0 (mz m + 1)) 20 60) 708 a0 (mz m + 2)) 20 60) 709 a0 (mz m + 3)) 20 480) 710 a0 (mz m + 4)) 20 5) 711 a0 (mz m + 5)) 20 6) (mz m + 6)) ∧ (3 < mN (nwA (sR (nwA (sR (nwA (sR (nwA (sR (nwA (sR (nwA (sR (nwA m 20 60) 706 a0 (mz m)) 20 60) 707 a0 (mz m + 1)) 20 60) 708 a0 (mz m + 2)) 20 60) 709 a0 (mz m + 3)) 20 480) 710 a0 (mz m + 4)) 20 5) 711 a0 (mz m + 5)) 20 6) (mz m + 6)) ∧ (4 < mN (nwA (sR (nwA (sR (nwA (sR (nwA (sR (nwA (sR (nwA (sR (nwA m 20 60) 706 a0 (mz m)) 20 60) 707 a0 (mz m + 1)) 20 60) 708 a0 (mz m + 2)) 20 60) 709 a0 (mz m + 3)) 20 480) 710 a0 (mz m + 4)) 20 5) 711 a0 (mz m + 5)) 20 6) (mz m + 6)) ∧ (5 < mN (nwA (sR (nwA (sR (nwA (sR (nwA (sR (nwA (sR (nwA (sR (nwA m 20 60) 706 a0 (mz m)) 20 60) 707 a0 (mz m + 1)) 20 60) 708 a0 (mz m + 2)) 20 60) 709 a0 (mz m + 3)) 20 480) 710 a0 (mz m + 4)) 20 5) 711 a0 (mz m + 5)) 20 6) (mz m + 6)) ∧ (mC (nwA (sR (nwA (sR (nwA (sR (nwA (sR (nwA (sR (nwA (sR (nwA m 20 60) 706 a0 (mz m)) 20 60) 707 a0 (mz m + 1)) 20 60) 708 a0 (mz m + 2)) 20 60) 709 a0 (mz m + 3)) 20 480) 710 a0 (mz m + 4)) 20 5) 711 a0 (mz m + 5)) 20 6) a0 = 12) ∧ (mC (nwA (sR (sA (sA (sA (sA (sA (sA (nwA (sR (nwA (sR (nwA (sR (nwA (sR (nwA (sR (nwA (sR (nwA m 20 60) 706 a0 (mz m)) 20 60) 707 a0 (mz m + 1)) 20 60) 708 a0 (mz m + 2)) 20 60) 709 a0 (mz m + 3)) 20 480) 710 a0 (mz m + 4)) 20 5) 711 a0 (mz m + 5)) 20 6) (mz m + 6) 0 (-1)) (mz m + 6) 1 (-1)) (mz m + 6) 2 (-1)) (mz m + 6) 3 (-1)) (mz m + 6) 4 (-1)) (mz m + 6) 5 (-1)) 713 a0 (mz m + 6)) 21 6) a0 = 12) ∧ (mC (nwA (sR (nwA (sR (sA (sA (sA (sA (sA (sA (nwA (sR (nwA (sR (nwA (sR (nwA (sR (nwA (sR (nwA (sR (nwA m 20 60) 706 a0 (mz m)) 20 60) 707 a0 (mz m + 1)) 20 60) 708 a0 (mz m + 2)) 20 60) 709 a0 (mz m + 3)) 20 480) 710 a0 (mz m + 4)) 20 5) 711 a0 (mz m + 5)) 20 6) (mz m + 6) 0 (-1)) (mz m + 6) 1 (-1)) (mz m + 6) 2 (-1)) (mz m + 6) 3 (-1)) (mz m + 6) 4 (-1)) (mz m + 6) 5 (-1)) 713 a0 (mz m + 6)) 21 6) 714 a0 (mz m + 7)) 20 6) a0 = 12) ∧ (mC (nwA (sR (nwA (sR (nwA (sR (sA (sA (sA (sA (sA (sA (nwA (sR (nwA (sR (nwA (sR (nwA (sR (nwA (sR (nwA (sR (nwA m 20 60) 706 a0 (mz m)) 20 60) 707 a0 (mz m + 1)) 20 60) 708 a0 (mz m + 2)) 20 60) 709 a0 (mz m + 3)) 20 480) 710 a0 (mz m + 4)) 20 5) 711 a0 (mz m + 5)) 20 6) (mz m + 6) 0 (-1)) (mz m + 6) 1 (-1)) (mz m + 6) 2 (-1)) (mz m + 6) 3 (-1)) (mz m + 6) 4 (-1)) (mz m + 6) 5 (-1)) 713 a0 (mz m + 6)) 21 6) 714 a0 (mz m + 7)) 20 6) 715 a0 (mz m + 8)) 20 6) a0 = 12) ∧ (mC (nwA (sR (nwA (sR (nwA (sR (nwA (sR (sA (sA (sA (sA (sA (sA (nwA (sR (nwA (sR (nwA (sR (nwA (sR (nwA (sR (nwA (sR (nwA m 20 60) 706 a0 (mz m)) 20 60) 707 a0 (mz m + 1)) 20 60) 708 a0 (mz m + 2)) 20 60) 709 a0 (mz m + 3)) 20 480) 710 a0 (mz m + 4)) 20 5) 711 a0 (mz m + 5)) 20 6) (mz m + 6) 0 (-1)) (mz m + 6) 1 (-1)) (mz m + 6) 2 (-1)) (mz m + 6) 3 (-1)) (mz m + 6) 4 (-1)) (mz m + 6) 5 (-1)) 713 a0 (mz m + 6)) 21 6) 714 a0 (mz m + 7)) 20 6) 715 a0 (mz m + 8)) 20 6) 716 a0 (mz m + 9)) 20 1440) a0 = 12) ∧ (mC (nwA (sR (nwA (sR (nwA (sR (nwA (sR (nwA (sR (sA (sA (sA (sA (sA (sA (nwA (sR (nwA (sR (nwA (sR (nwA (sR (nwA (sR (nwA (sR (nwA m 20 60) 706 a0 (mz m)) 20 60) 707 a0 (mz m + 1)) 20 60) 708 a0 (mz m + 2)) 20 60) 709 a0 (mz m + 3)) 20 480) 710 a0 (mz m + 4)) 20 5) 711 a0 (mz m + 5)) 20 6) (mz m + 6) 0 (-1)) (mz m + 6) 1 (-1)) (mz m + 6) 2 (-1)) (mz m + 6) 3 (-1)) (mz m + 6) 4 (-1)) (mz m + 6) 5 (-1)) 713 a0 (mz m + 6)) 21 6) 714 a0 (mz m + 7)) 20 6) 715 a0 (mz m + 8)) 20 6) 716 a0 (mz m + 9)) 20 1440) 717 a0 (mz m + 10)) 20 6) a0 = 12) ∧ (mC (nwA (sR (nwA (sR (nwA (sR (nwA (sR (nwA (sR (nwA (sR (sA (sA (sA (sA (sA (sA (nwA (sR (nwA (sR (nwA (sR (nwA (sR (nwA (sR (nwA (sR (nwA m 20 60) 706 a0 (mz m)) 20 60) 707 a0 (mz m + 1)) 20 60) 708 a0 (mz m + 2)) 20 60) 709 a0 (mz m + 3)) 20 480) 710 a0 (mz m + 4)) 20 5) 711 a0 (mz m + 5)) 20 6) (mz m + 6) 0 (-1)) (mz m + 6) 1 (-1)) (mz m + 6) 2 (-1)) (mz m + 6) 3 (-1)) (mz m + 6) 4 (-1)) (mz m + 6) 5 (-1)) 713 a0 (mz m + 6)) 21 6) 714 a0 (mz m + 7)) 20 6) 715 a0 (mz m + 8)) 20 6) 716 a0 (mz m + 9)) 20 1440) 717 a0 (mz m + 10)) 20 6) 718 a0 (mz m + 11)) 20 6) a0 = 12) ∧ (mC (nwA (sR (nwA (sR (nwA (sR (nwA (sR (nwA (sR (nwA (sR (nwA (sR (sA (sA (sA (sA (sA (sA (nwA (sR (nwA (sR (nwA (sR (nwA (sR (nwA (sR (nwA (sR (nwA m 20 60) 706 a0 (mz m)) 20 60) 707 a0 (mz m + 1)) 20 60) 708 a0 (mz m + 2)) 20 60) 709 a0 (mz m + 3)) 20 480) 710 a0 (mz m + 4)) 20 5) 711 a0 (mz m + 5)) 20 6) (mz m + 6) 0 (-1)) (mz m + 6) 1 (-1)) (mz m + 6) 2 (-1)) (mz m + 6) 3 (-1)) (mz m + 6) 4 (-1)) (mz m + 6) 5 (-1)) 713 a0 (mz m + 6)) 21 6) 714 a0 (mz m + 7)) 20 6) 715 a0 (mz m + 8)) 20 6) 716 a0 (mz m + 9)) 20 1440) 717 a0 (mz m + 10)) 20 6) 718 a0 (mz m + 11)) 20 6) 719 a0 (mz m + 12)) 20 6) a0 = 12) ∧ (mC (nwA (sR (nwA (sR (nwA (sR (nwA (sR (nwA (sR (nwA (sR (nwA (sR (nwA (sR (sA (sA (sA (sA (sA (sA (nwA (sR (nwA (sR (nwA (sR (nwA (sR (nwA (sR (nwA (sR (nwA m 20 60) 706 a0 (mz m)) 20 60) 707 a0 (mz m + 1)) 20 60) 708 a0 (mz m + 2)) 20 60) 709 a0 (mz m + 3)) 20 480) 710 a0 (mz m + 4)) 20 5) 711 a0 (mz m + 5)) 20 6) (mz m + 6) 0 (-1)) (mz m + 6) 1 (-1)) (mz m + 6) 2 (-1)) (mz m + 6) 3 (-1)) (mz m + 6) 4 (-1)) (mz m + 6) 5 (-1)) 713 a0 (mz m + 6)) 21 6) 714 a0 (mz m + 7)) 20 6) 715 a0 (mz m + 8)) 20 6) 716 a0 (mz m + 9)) 20 1440) 717 a0 (mz m + 10)) 20 6) 718 a0 (mz m + 11)) 20 6) 719 a0 (mz m + 12)) 20 6) 720 a0 (mz m + 13)) 20 6) a0 = 12) ∧ (mC (nwA (sR (nwA (sR (nwA (sR (nwA (sR (nwA (sR (nwA (sR (nwA (sR (nwA (sR (nwA (sR (sA (sA (sA (sA (sA (sA (nwA (sR (nwA (sR (nwA (sR (nwA (sR (nwA (sR (nwA (sR (nwA m 20 60) 706 a0 (mz m)) 20 60) 707 a0 (mz m + 1)) 20 60) 708 a0 (mz m + 2)) 20 60) 709 a0 (mz m + 3)) 20 480) 710 a0 (mz m + 4)) 20 5) 711 a0 (mz m + 5)) 20 6) (mz m + 6) 0 (-1)) (mz m + 6) 1 (-1)) (mz m + 6) 2 (-1)) (mz m + 6) 3 (-1)) (mz m + 6) 4 (-1)) (mz m + 6) 5 (-1)) 713 a0 (mz m + 6)) 21 6) 714 a0 (mz m + 7)) 20 6) 715 a0 (mz m + 8)) 20 6) 716 a0 (mz m + 9)) 20 1440) 717 a0 (mz m + 10)) 20 6) 718 a0 (mz m + 11)) 20 6) 719 a0 (mz m + 12)) 20 6) 720 a0 (mz m + 13)) 20 6) 721 a0 (mz m + 14)) 20 6) a0 = 12) ∧ (mC (nwA (sR (nwA (sR (nwA (sR (nwA (sR (nwA (sR (nwA (sR (nwA (sR (nwA (sR (nwA (sR (nwA (sR (sA (sA (sA (sA (sA (sA (nwA (sR (nwA (sR (nwA (sR (nwA (sR (nwA (sR (nwA (sR (nwA m 20 60) 706 a0 (mz m)) 20 60) 707 a0 (mz m + 1)) 20 60) 708 a0 (mz m + 2)) 20 60) 709 a0 (mz m + 3)) 20 480) 710 a0 (mz m + 4)) 20 5) 711 a0 (mz m + 5)) 20 6) (mz m + 6) 0 (-1)) (mz m + 6) 1 (-1)) (mz m + 6) 2 (-1)) (mz m + 6) 3 (-1)) (mz m + 6) 4 (-1)) (mz m + 6) 5 (-1)) 713 a0 (mz m + 6)) 21 6) 714 a0 (mz m + 7)) 20 6) 715 a0 (mz m + 8)) 20 6) 716 a0 (mz m + 9)) 20 1440) 717 a0 (mz m + 10)) 20 6) 718 a0 (mz m + 11)) 20 6) 719 a0 (mz m + 12)) 20 6) 720 a0 (mz m + 13)) 20 6) 721 a0 (mz m + 14)) 20 6) 722 a0 (mz m + 15)) 20 6) a0 = 12) ∧ (0 < mN (nwA (sR (nwA (sR (nwA (sR (nwA (sR (nwA (sR (nwA (sR (nwA (sR (nwA (sR (nwA (sR (nwA (sR (nwA (sR (sA (sA (sA (sA (sA (sA (nwA (sR (nwA (sR (nwA (sR (nwA (sR (nwA (sR (nwA (sR (nwA m 20 60) 706 a0 (mz m)) 20 60) 707 a0 (mz m + 1)) 20 60) 708 a0 (mz m + 2)) 20 60) 709 a0 (mz m + 3)) 20 480) 710 a0 (mz m + 4)) 20 5) 711 a0 (mz m + 5)) 20 6) (mz m + 6) 0 (-1)) (mz m + 6) 1 (-1)) (mz m + 6) 2 (-1)) (mz m + 6) 3 (-1)) (mz m + 6) 4 (-1)) (mz m + 6) 5 (-1)) 713 a0 (mz m + 6)) 21 6) 714 a0 (mz m + 7)) 20 6) 715 a0 (mz m + 8)) 20 6) 716 a0 (mz m + 9)) 20 1440) 717 a0 (mz m + 10)) 20 6) 718 a0 (mz m + 11)) 20 6) 719 a0 (mz m + 12)) 20 6) 720 a0 (mz m + 13)) 20 6) 721 a0 (mz m + 14)) 20 6) 722 a0 (mz m + 15)) 20 6) 723 a0 (mz m + 16)) 20 6) (mz m + 17)) ∧ (mC (nwA (sR (nwA (sR (nwA (sR (nwA (sR (nwA (sR (nwA (sR (nwA (sR (nwA (sR (nwA (sR (nwA (sR (nwA (sR (sA (sA (sA (sA (sA (sA (nwA (sR (nwA (sR (nwA (sR (nwA (sR (nwA (sR (nwA (sR (nwA m 20 60) 706 a0 (mz m)) 20 60) 707 a0 (mz m + 1)) 20 60) 708 a0 (mz m + 2)) 20 60) 709 a0 (mz m + 3)) 20 480) 710 a0 (mz m + 4)) 20 5) 711 a0 (mz m + 5)) 20 6) (mz m + 6) 0 (-1)) (mz m + 6) 1 (-1)) (mz m + 6) 2 (-1)) (mz m + 6) 3 (-1)) (mz m + 6) 4 (-1)) (mz m + 6) 5 (-1)) 713 a0 (mz m + 6)) 21 6) 714 a0 (mz m + 7)) 20 6) 715 a0 (mz m + 8)) 20 6) 716 a0 (mz m + 9)) 20 1440) 717 a0 (mz m + 10)) 20 6) 718 a0 (mz m + 11)) 20 6) 719 a0 (mz m + 12)) 20 6) 720 a0 (mz m + 13)) 20 6) 721 a0 (mz m + 14)) 20 6) 722 a0 (mz m + 15)) 20 6) 723 a0 (mz m + 16)) 20 6) (mz m + 17) = 20) ∧ (1 < mN (nwA (sR (nwA (sR (nwA (sR (nwA (sR (nwA (sR (nwA (sR (nwA (sR (nwA (sR (nwA (sR (nwA (sR (nwA (sR (sA (sA (sA (sA (sA (sA (nwA (sR (nwA (sR (nwA (sR (nwA (sR (nwA (sR (nwA (sR (nwA m 20 60) 706 a0 (mz m)) 20 60) 707 a0 (mz m + 1)) 20 60) 708 a0 (mz m + 2)) 20 60) 709 a0 (mz m + 3)) 20 480) 710 a0 (mz m + 4)) 20 5) 711 a0 (mz m + 5)) 20 6) (mz m + 6) 0 (-1)) (mz m + 6) 1 (-1)) (mz m + 6) 2 (-1)) (mz m + 6) 3 (-1)) (mz m + 6) 4 (-1)) (mz m + 6) 5 (-1)) 713 a0 (mz m + 6)) 21 6) 714 a0 (mz m + 7)) 20 6) 715 a0 (mz m + 8)) 20 6) 716 a0 (mz m + 9)) 20 1440) 717 a0 (mz m + 10)) 20 6) 718 a0 (mz m + 11)) 20 6) 719 a0 (mz m + 12)) 20 6) 720 a0 (mz m + 13)) 20 6) 721 a0 (mz m + 14)) 20 6) 722 a0 (mz m + 15)) 20 6) 723 a0 (mz m + 16)) 20 6) (mz m + 17)) ∧ (2 < mN (nwA (sR (nwA (sR (nwA (sR (nwA (sR (nwA (sR (nwA (sR (nwA (sR (nwA (sR (nwA (sR (nwA (sR (nwA (sR (sA (sA (sA (sA (sA (sA (nwA (sR (nwA (sR (nwA (sR (nwA (sR (nwA (sR (nwA (sR (nwA m 20 60) 706 a0 (mz m)) 20 60) 707 a0 (mz m + 1)) 20 60) 708 a0 (mz m + 2)) 20 60) 709 a0 (mz m + 3)) 20 480) 710 a0 (mz m + 4)) 20 5) 711 a0 (mz m + 5)) 20 6) (mz m + 6) 0 (-1)) (mz m + 6) 1 (-1)) (mz m + 6) 2 (-1)) (mz m + 6) 3 (-1)) (mz m + 6) 4 (-1)) (mz m + 6) 5 (-1)) 713 a0 (mz m + 6)) 21 6) 714 a0 (mz m + 7)) 20 6) 715 a0 (mz m + 8)) 20 6) 716 a0 (mz m + 9)) 20 1440) 717 a0 (mz m + 10)) 20 6) 718 a0 (mz m + 11)) 20 6) 719 a0 (mz m + 12)) 20 6) 720 a0 (mz m + 13)) 20 6) 721 a0 (mz m + 14)) 20 6) 722 a0 (mz m + 15)) 20 6) 723 a0 (mz m + 16)) 20 6) (mz m + 17)) ∧ (3 < mN (nwA (sR (nwA (sR (nwA (sR (nwA (sR (nwA (sR (nwA (sR (nwA (sR (nwA (sR (nwA (sR (nwA (sR (nwA (sR (sA (sA (sA (sA (sA (sA (nwA (sR (nwA (sR (nwA (sR (nwA (sR (nwA (sR (nwA (sR (nwA m 20 60) 706 a0 (mz m)) 20 60) 707 a0 (mz m + 1)) 20 60) 708 a0 (mz m + 2)) 20 60) 709 a0 (mz m + 3)) 20 480) 710 a0 (mz m + 4)) 20 5) 711 a0 (mz m + 5)) 20 6) (mz m + 6) 0 (-1)) (mz m + 6) 1 (-1)) (mz m + 6) 2 (-1)) (mz m + 6) 3 (-1)) (mz m + 6) 4 (-1)) (mz m + 6) 5 (-1)) 713 a0 (mz m + 6)) 21 6) 714 a0 (mz m + 7)) 20 6) 715 a0 (mz m + 8)) 20 6) 716 a0 (mz m + 9)) 20 1440) 717 a0 (mz m + 10)) 20 6) 718 a0 (mz m + 11)) 20 6) 719 a0 (mz m + 12)) 20 6) 720 a0 (mz m + 13)) 20 6) 721 a0 (mz m + 14)) 20 6) 722 a0 (mz m + 15)) 20 6) 723 a0 (mz m + 16)) 20 6) (mz m + 17)) ∧ (4 < mN (nwA (sR (nwA (sR (nwA (sR (nwA (sR (nwA (sR (nwA (sR (nwA (sR (nwA (sR (nwA (sR (nwA (sR (nwA (sR (sA (sA (sA (sA (sA (sA (nwA (sR (nwA (sR (nwA (sR (nwA (sR (nwA (sR (nwA (sR (nwA m 20 60) 706 a0 (mz m)) 20 60) 707 a0 (mz m + 1)) 20 60) 708 a0 (mz m + 2)) 20 60) 709 a0 (mz m + 3)) 20 480) 710 a0 (mz m + 4)) 20 5) 711 a0 (mz m + 5)) 20 6) (mz m + 6) 0 (-1)) (mz m + 6) 1 (-1)) (mz m + 6) 2 (-1)) (mz m + 6) 3 (-1)) (mz m + 6) 4 (-1)) (mz m + 6) 5 (-1)) 713 a0 (mz m + 6)) 21 6) 714 a0 (mz m + 7)) 20 6) 715 a0 (mz m + 8)) 20 6) 716 a0 (mz m + 9)) 20 1440) 717 a0 (mz m + 10)) 20 6) 718 a0 (mz m + 11)) 20 6) 719 a0 (mz m + 12)) 20 6) 720 a0 (mz m + 13)) 20 6) 721 a0 (mz m + 14)) 20 6) 722 a0 (mz m + 15)) 20 6) 723 a0 (mz m + 16)) 20 6) (mz m + 17)) ∧ (5 < mN (nwA (sR (nwA (sR (nwA (sR (nwA (sR (nwA (sR (nwA (sR (nwA (sR (nwA (sR (nwA (sR (nwA (sR (nwA (sR (sA (sA (sA (sA (sA (sA (nwA (sR (nwA (sR (nwA (sR (nwA (sR (nwA (sR (nwA (sR (nwA m 20 60) 706 a0 (mz m)) 20 60) 707 a0 (mz m + 1)) 20 60) 708 a0 (mz m + 2)) 20 60) 709 a0 (mz m + 3)) 20 480) 710 a0 (mz m + 4)) 20 5) 711 a0 (mz m + 5)) 20 6) (mz m + 6) 0 (-1)) (mz m + 6) 1 (-1)) (mz m + 6) 2 (-1)) (mz m + 6) 3 (-1)) (mz m + 6) 4 (-1)) (mz m + 6) 5 (-1)) 713 a0 (mz m + 6)) 21 6) 714 a0 (mz m + 7)) 20 6) 715 a0 (mz m + 8)) 20 6) 716 a0 (mz m + 9)) 20 1440) 717 a0 (mz m + 10)) 20 6) 718 a0 (mz m + 11)) 20 6) 719 a0 (mz m + 12)) 20 6) 720 a0 (mz m + 13)) 20 6) 721 a0 (mz m + 14)) 20 6) 722 a0 (mz m + 15)) 20 6) 723 a0 (mz m + 16)) 20 6) (mz m + 17)) ∧ (mC (nwA (sR (nwA (sR (nwA (sR (nwA (sR (nwA (sR (nwA (sR (nwA (sR (nwA (sR (nwA (sR (nwA (sR (nwA (sR (sA (sA (sA (sA (sA (sA (nwA (sR (nwA (sR (nwA (sR (nwA (sR (nwA (sR (nwA (sR (nwA m 20 60) 706 a0 (mz m)) 20 60) 707 a0 (mz m + 1)) 20 60) 708 a0 (mz m + 2)) 20 60) 709 a0 (mz m + 3)) 20 480) 710 a0 (mz m + 4)) 20 5) 711 a0 (mz m + 5)) 20 6) (mz m + 6) 0 (-1)) (mz m + 6) 1 (-1)) (mz m + 6) 2 (-1)) (mz m + 6) 3 (-1)) (mz m + 6) 4 (-1)) (mz m + 6) 5 (-1)) 713 a0 (mz m + 6)) 21 6) 714 a0 (mz m + 7)) 20 6) 715 a0 (mz m + 8)) 20 6) 716 a0 (mz m + 9)) 20 1440) 717 a0 (mz m + 10)) 20 6) 718 a0 (mz m + 11)) 20 6) 719 a0 (mz m + 12)) 20 6) 720 a0 (mz m + 13)) 20 6) 721 a0 (mz m + 14)) 20 6) 722 a0 (mz m + 15)) 20 6) 723 a0 (mz m + 16)) 20 6) a0 = 12) ∧ (mC (nwA (sR (sA (sA (sA (sA (sA (sA (nwA (sR (nwA (sR (nwA (sR (nwA (sR (nwA (sR (nwA (sR (nwA (sR (nwA (sR (nwA (sR (nwA (sR (nwA (sR (sA (sA (sA (sA (sA (sA (nwA (sR (nwA (sR (nwA (sR (nwA (sR (nwA (sR (nwA (sR (nwA m 20 60) 706 a0 (mz m)) 20 60) 707 a0 (mz m + 1)) 20 60) 708 a0 (mz m + 2)) 20 60) 709 a0 (mz m + 3)) 20 480) 710 a0 (mz m + 4)) 20 5) 711 a0 (mz m + 5)) 20 6) (mz m + 6) 0 (-1)) (mz m + 6) 1 (-1)) (mz m + 6) 2 (-1)) (mz m + 6) 3 (-1)) (mz m + 6) 4 (-1)) (mz m + 6) 5 (-1)) 713 a0 (mz m + 6)) 21 6) 714 a0 (mz m + 7)) 20 6) 715 a0 (mz m + 8)) 20 6) 716 a0 (mz m + 9)) 20 1440) 717 a0 (mz m + 10)) 20 6) 718 a0 (mz m + 11)) 20 6) 719 a0 (mz m + 12)) 20 6) 720 a0 (mz m + 13)) 20 6) 721 a0 (mz m + 14)) 20 6) 722 a0 (mz m + 15)) 20 6) 723 a0 (mz m + 16)) 20 6) (mz m + 17) 0 (-1)) (mz m + 17) 1 (-1)) (mz m + 17) 2 (-1)) (mz m + 17) 3 (-1)) (mz m + 17) 4 (-1)) (mz m + 17) 5 (-1)) 724 a0 (mz m + 17)) 20 6) a0 = 12) ∧ (0 < mN (nwA (sR (nwA (sR (sA (sA (sA (sA (sA (sA (nwA (sR (nwA (sR (nwA (sR (nwA (sR (nwA (sR (nwA (sR (nwA (sR (nwA (sR (nwA (sR (nwA (sR (nwA (sR (sA (sA (sA (sA (sA (sA (nwA (sR (nwA (sR (nwA (sR (nwA (sR (nwA (sR (nwA (sR (nwA m 20 60) 706 a0 (mz m)) 20 60) 707 a0 (mz m + 1)) 20 60) 708 a0 (mz m + 2)) 20 60) 709 a0 (mz m + 3)) 20 480) 710 a0 (mz m + 4)) 20 5) 711 a0 (mz m + 5)) 20 6) (mz m + 6) 0 (-1)) (mz m + 6) 1 (-1)) (mz m + 6) 2 (-1)) (mz m + 6) 3 (-1)) (mz m + 6) 4 (-1)) (mz m + 6) 5 (-1)) 713 a0 (mz m + 6)) 21 6) 714 a0 (mz m + 7)) 20 6) 715 a0 (mz m + 8)) 20 6) 716 a0 (mz m + 9)) 20 1440) 717 a0 (mz m + 10)) 20 6) 718 a0 (mz m + 11)) 20 6) 719 a0 (mz m + 12)) 20 6) 720 a0 (mz m + 13)) 20 6) 721 a0 (mz m + 14)) 20 6) 722 a0 (mz m + 15)) 20 6) 723 a0 (mz m + 16)) 20 6) (mz m + 17) 0 (-1)) (mz m + 17) 1 (-1)) (mz m + 17) 2 (-1)) (mz m + 17) 3 (-1)) (mz m + 17) 4 (-1)) (mz m + 17) 5 (-1)) 724 a0 (mz m + 17)) 20 6) 725 a0 (mz m + 18)) 20 6) (mz m + 19)) ∧ (mC (nwA (sR (nwA (sR (sA (sA (sA (sA (sA (sA (nwA (sR (nwA (sR (nwA (sR (nwA (sR (nwA (sR (nwA (sR (nwA (sR (nwA (sR (nwA (sR (nwA (sR (nwA (sR (sA (sA (sA (sA (sA (sA (nwA (sR (nwA (sR (nwA (sR (nwA (sR (nwA (sR (nwA (sR (nwA m 20 60) 706 a0 (mz m)) 20 60) 707 a0 (mz m + 1)) 20 60) 708 a0 (mz m + 2)) 20 60) 709 a0 (mz m + 3)) 20 480) 710 a0 (mz m + 4)) 20 5) 711 a0 (mz m + 5)) 20 6) (mz m + 6) 0 (-1)) (mz m + 6) 1 (-1)) (mz m + 6) 2 (-1)) (mz m + 6) 3 (-1)) (mz m + 6) 4 (-1)) (mz m + 6) 5 (-1)) 713 a0 (mz m + 6)) 21 6) 714 a0 (mz m + 7)) 20 6) 715 a0 (mz m + 8)) 20 6) 716 a0 (mz m + 9)) 20 1440) 717 a0 (mz m + 10)) 20 6) 718 a0 (mz m + 11)) 20 6) 719 a0 (mz m + 12)) 20 6) 720 a0 (mz m + 13)) 20 6) 721 a0 (mz m + 14)) 20 6) 722 a0 (mz m + 15)) 20 6) 723 a0 (mz m + 16)) 20 6) (mz m + 17) 0 (-1)) (mz m + 17) 1 (-1)) (mz m + 17) 2 (-1)) (mz m + 17) 3 (-1)) (mz m + 17) 4 (-1)) (mz m + 17) 5 (-1)) 724 a0 (mz m + 17)) 20 6) 725 a0 (mz m + 18)) 20 6) (mz m + 19) = 20) ∧ (1 < mN (nwA (sR (nwA (sR (sA (sA (sA (sA (sA (sA (nwA (sR (nwA (sR (nwA (sR (nwA (sR (nwA (sR (nwA (sR (nwA (sR (nwA (sR (nwA (sR (nwA (sR (nwA (sR (sA (sA (sA (sA (sA (sA (nwA (sR (nwA (sR (nwA (sR (nwA (sR (nwA (sR (nwA (sR (nwA m 20 60) 706 a0 (mz m)) 20 60) 707 a0 (mz m + 1)) 20 60) 708 a0 (mz m + 2)) 20 60) 709 a0 (mz m + 3)) 20 480) 710 a0 (mz m + 4)) 20 5) 711 a0 (mz m + 5)) 20 6) (mz m + 6) 0 (-1)) (mz m + 6) 1 (-1)) (mz m + 6) 2 (-1)) (mz m + 6) 3 (-1)) (mz m + 6) 4 (-1)) (mz m + 6) 5 (-1)) 713 a0 (mz m + 6)) 21 6) 714 a0 (mz m + 7)) 20 6) 715 a0 (mz m + 8)) 20 6) 716 a0 (mz m + 9)) 20 1440) 717 a0 (mz m + 10)) 20 6) 718 a0 (mz m + 11)) 20 6) 719 a0 (mz m + 12)) 20 6) 720 a0 (mz m + 13)) 20 6) 721 a0 (mz m + 14)) 20 6) 722 a0 (mz m + 15)) 20 6) 723 a0 (mz m + 16)) 20 6) (mz m + 17) 0 (-1)) (mz m + 17) 1 (-1)) (mz m + 17) 2 (-1)) (mz m + 17) 3 (-1)) (mz m + 17) 4 (-1)) (mz m + 17) 5 (-1)) 724 a0 (mz m + 17)) 20 6) 725 a0 (mz m + 18)) 20 6) (mz m + 19)) ∧ (2 < mN (nwA (sR (nwA (sR (sA (sA (sA (sA (sA (sA (nwA (sR (nwA (sR (nwA (sR (nwA (sR (nwA (sR (nwA (sR (nwA (sR (nwA (sR (nwA (sR (nwA (sR (nwA (sR (sA (sA (sA (sA (sA (sA (nwA (sR (nwA (sR (nwA (sR (nwA (sR (nwA (sR (nwA (sR (nwA m 20 60) 706 a0 (mz m)) 20 60) 707 a0 (mz m + 1)) 20 60) 708 a0 (mz m + 2)) 20 60) 709 a0 (mz m + 3)) 20 480) 710 a0 (mz m + 4)) 20 5) 711 a0 (mz m + 5)) 20 6) (mz m + 6) 0 (-1)) (mz m + 6) 1 (-1)) (mz m + 6) 2 (-1)) (mz m + 6) 3 (-1)) (mz m + 6) 4 (-1)) (mz m + 6) 5 (-1)) 713 a0 (mz m + 6)) 21 6) 714 a0 (mz m + 7)) 20 6) 715 a0 (mz m + 8)) 20 6) 716 a0 (mz m + 9)) 20 1440) 717 a0 (mz m + 10)) 20 6) 718 a0 (mz m + 11)) 20 6) 719 a0 (mz m + 12)) 20 6) 720 a0 (mz m + 13)) 20 6) 721 a0 (mz m + 14)) 20 6) 722 a0 (mz m + 15)) 20 6) 723 a0 (mz m + 16)) 20 6) (mz m + 17) 0 (-1)) (mz m + 17) 1 (-1)) (mz m + 17) 2 (-1)) (mz m + 17) 3 (-1)) (mz m + 17) 4 (-1)) (mz m + 17) 5 (-1)) 724 a0 (mz m + 17)) 20 6) 725 a0 (mz m + 18)) 20 6) (mz m + 19)) ∧ (3 < mN (nwA (sR (nwA (sR (sA (sA (sA (sA (sA (sA (nwA (sR (nwA (sR (nwA (sR (nwA (sR (nwA (sR (nwA (sR (nwA (sR (nwA (sR (nwA (sR (nwA (sR (nwA (sR (sA (sA (sA (sA (sA (sA (nwA (sR (nwA (sR (nwA (sR (nwA (sR (nwA (sR (nwA (sR (nwA m 20 60) 706 a0 (mz m)) 20 60) 707 a0 (mz m + 1)) 20 60) 708 a0 (mz m + 2)) 20 60) 709 a0 (mz m + 3)) 20 480) 710 a0 (mz m + 4)) 20 5) 711 a0 (mz m + 5)) 20 6) (mz m + 6) 0 (-1)) (mz m + 6) 1 (-1)) (mz m + 6) 2 (-1)) (mz m + 6) 3 (-1)) (mz m + 6) 4 (-1)) (mz m + 6) 5 (-1)) 713 a0 (mz m + 6)) 21 6) 714 a0 (mz m + 7)) 20 6) 715 a0 (mz m + 8)) 20 6) 716 a0 (mz m + 9)) 20 1440) 717 a0 (mz m + 10)) 20 6) 718 a0 (mz m + 11)) 20 6) 719 a0 (mz m + 12)) 20 6) 720 a0 (mz m + 13)) 20 6) 721 a0 (mz m + 14)) 20 6) 722 a0 (mz m + 15)) 20 6) 723 a0 (mz m + 16)) 20 6) (mz m + 17) 0 (-1)) (mz m + 17) 1 (-1)) (mz m + 17) 2 (-1)) (mz m + 17) 3 (-1)) (mz m + 17) 4 (-1)) (mz m + 17) 5 (-1)) 724 a0 (mz m + 17)) 20 6) 725 a0 (mz m + 18)) 20 6) (mz m + 19)) ∧ (4 < mN (nwA (sR (nwA (sR (sA (sA (sA (sA (sA (sA (nwA (sR (nwA (sR (nwA (sR (nwA (sR (nwA (sR (nwA (sR (nwA (sR (nwA (sR (nwA (sR (nwA (sR (nwA (sR (sA (sA (sA (sA (sA (sA (nwA (sR (nwA (sR (nwA (sR (nwA (sR (nwA (sR (nwA (sR (nwA m 20 60) 706 a0 (mz m)) 20 60) 707 a0 (mz m + 1)) 20 60) 708 a0 (mz m + 2)) 20 60) 709 a0 (mz m + 3)) 20 480) 710 a0 (mz m + 4)) 20 5) 711 a0 (mz m + 5)) 20 6) (mz m + 6) 0 (-1)) (mz m + 6) 1 (-1)) (mz m + 6) 2 (-1)) (mz m + 6) 3 (-1)) (mz m + 6) 4 (-1)) (mz m + 6) 5 (-1)) 713 a0 (mz m + 6)) 21 6) 714 a0 (mz m + 7)) 20 6) 715 a0 (mz m + 8)) 20 6) 716 a0 (mz m + 9)) 20 1440) 717 a0 (mz m + 10)) 20 6) 718 a0 (mz m + 11)) 20 6) 719 a0 (mz m + 12)) 20 6) 720 a0 (mz m + 13)) 20 6) 721 a0 (mz m + 14)) 20 6) 722 a0 (mz m + 15)) 20 6) 723 a0 (mz m + 16)) 20 6) (mz m + 17) 0 (-1)) (mz m + 17) 1 (-1)) (mz m + 17) 2 (-1)) (mz m + 17) 3 (-1)) (mz m + 17) 4 (-1)) (mz m + 17) 5 (-1)) 724 a0 (mz m + 17)) 20 6) 725 a0 (mz m + 18)) 20 6) (mz m + 19)) ∧ (5 < mN (nwA (sR (nwA (sR (sA (sA (sA (sA (sA (sA (nwA (sR (nwA (sR (nwA (sR (nwA (sR (nwA (sR (nwA (sR (nwA (sR (nwA (sR (nwA (sR (nwA (sR (nwA (sR (sA (sA (sA (sA (sA (sA (nwA (sR (nwA (sR (nwA (sR (nwA (sR (nwA (sR (nwA (sR (nwA m 20 60) 706 a0 (mz m)) 20 60) 707 a0 (mz m + 1)) 20 60) 708 a0 (mz m + 2)) 20 60) 709 a0 (mz m + 3)) 20 480) 710 a0 (mz m + 4)) 20 5) 711 a0 (mz m + 5)) 20 6) (mz m + 6) 0 (-1)) (mz m + 6) 1 (-1)) (mz m + 6) 2 (-1)) (mz m + 6) 3 (-1)) (mz m + 6) 4 (-1)) (mz m + 6) 5 (-1)) 713 a0 (mz m + 6)) 21 6) 714 a0 (mz m + 7)) 20 6) 715 a0 (mz m + 8)) 20 6) 716 a0 (mz m + 9)) 20 1440) 717 a0 (mz m + 10)) 20 6) 718 a0 (mz m + 11)) 20 6) 719 a0 (mz m + 12)) 20 6) 720 a0 (mz m + 13)) 20 6) 721 a0 (mz m + 14)) 20 6) 722 a0 (mz m + 15)) 20 6) 723 a0 (mz m + 16)) 20 6) (mz m + 17) 0 (-1)) (mz m + 17) 1 (-1)) (mz m + 17) 2 (-1)) (mz m + 17) 3 (-1)) (mz m + 17) 4 (-1)) (mz m + 17) 5 (-1)) 724 a0 (mz m + 17)) 20 6) 725 a0 (mz m + 18)) 20 6) (mz m + 19)) ∧ (mC (nwA (sR (nwA (sR (sA (sA (sA (sA (sA (sA (nwA (sR (nwA (sR (nwA (sR (nwA (sR (nwA (sR (nwA (sR (nwA (sR (nwA (sR (nwA (sR (nwA (sR (nwA (sR (sA (sA (sA (sA (sA (sA (nwA (sR (nwA (sR (nwA (sR (nwA (sR (nwA (sR (nwA (sR (nwA m 20 60) 706 a0 (mz m)) 20 60) 707 a0 (mz m + 1)) 20 60) 708 a0 (mz m + 2)) 20 60) 709 a0 (mz m + 3)) 20 480) 710 a0 (mz m + 4)) 20 5) 711 a0 (mz m + 5)) 20 6) (mz m + 6) 0 (-1)) (mz m + 6) 1 (-1)) (mz m + 6) 2 (-1)) (mz m + 6) 3 (-1)) (mz m + 6) 4 (-1)) (mz m + 6) 5 (-1)) 713 a0 (mz m + 6)) 21 6) 714 a0 (mz m + 7)) 20 6) 715 a0 (mz m + 8)) 20 6) 716 a0 (mz m + 9)) 20 1440) 717 a0 (mz m + 10)) 20 6) 718 a0 (mz m + 11)) 20 6) 719 a0 (mz m + 12)) 20 6) 720 a0 (mz m + 13)) 20 6) 721 a0 (mz m + 14)) 20 6) 722 a0 (mz m + 15)) 20 6) 723 a0 (mz m + 16)) 20 6) (mz m + 17) 0 (-1)) (mz m + 17) 1 (-1)) (mz m + 17) 2 (-1)) (mz m + 17) 3 (-1)) (mz m + 17) 4 (-1)) (mz m + 17) 5 (-1)) 724 a0 (mz m + 17)) 20 6) 725 a0 (mz m + 18)) 20 6) a0 = 12) ∧ (0 < mN (nwA (sR (sA (sA (sA (sA (sA (sA (nwA (sR (nwA (sR (sA (sA (sA (sA (sA (sA (nwA (sR (nwA (sR (nwA (sR (nwA (sR (nwA (sR (nwA (sR (nwA (sR (nwA (sR (nwA (sR (nwA (sR (nwA (sR (sA (sA (sA (sA (sA (sA (nwA (sR (nwA (sR (nwA (sR (nwA (sR (nwA (sR (nwA (sR (nwA m 20 60) 706 a0 (mz m)) 20 60) 707 a0 (mz m + 1)) 20 60) 708 a0 (mz m + 2)) 20 60) 709 a0 (mz m + 3)) 20 480) 710 a0 (mz m + 4)) 20 5) 711 a0 (mz m + 5)) 20 6) (mz m + 6) 0 (-1)) (mz m + 6) 1 (-1)) (mz m + 6) 2 (-1)) (mz m + 6) 3 (-1)) (mz m + 6) 4 (-1)) (mz m + 6) 5 (-1)) 713 a0 (mz m + 6)) 21 6) 714 a0 (mz m + 7)) 20 6) 715 a0 (mz m + 8)) 20 6) 716 a0 (mz m + 9)) 20 1440) 717 a0 (mz m + 10)) 20 6) 718 a0 (mz m + 11)) 20 6) 719 a0 (mz m + 12)) 20 6) 720 a0 (mz m + 13)) 20 6) 721 a0 (mz m + 14)) 20 6) 722 a0 (mz m + 15)) 20 6) 723 a0 (mz m + 16)) 20 6) (mz m + 17) 0 (-1)) (mz m + 17) 1 (-1)) (mz m + 17) 2 (-1)) (mz m + 17) 3 (-1)) (mz m + 17) 4 (-1)) (mz m + 17) 5 (-1)) 724 a0 (mz m + 17)) 20 6) 725 a0 (mz m + 18)) 20 6) (mz m + 19) 0 (-1)) (mz m + 19) 1 (-1)) (mz m + 19) 2 (-1)) (mz m + 19) 3 (-1)) (mz m + 19) 4 (-1)) (mz m + 19) 5 (-1)) 726 a0 (mz m + 19)) 20 6) (mz m + 20)) ∧ (mC (nwA (sR (sA (sA (sA (sA (sA (sA (nwA (sR (nwA (sR (sA (sA (sA (sA (sA (sA (nwA (sR (nwA (sR (nwA (sR (nwA (sR (nwA (sR (nwA (sR (nwA (sR (nwA (sR (nwA (sR (nwA (sR (nwA (sR (sA (sA (sA (sA (sA (sA (nwA (sR (nwA (sR (nwA (sR (nwA (sR (nwA (sR (nwA (sR (nwA m 20 60) 706 a0 (mz m)) 20 60) 707 a0 (mz m + 1)) 20 60) 708 a0 (mz m + 2)) 20 60) 709 a0 (mz m + 3)) 20 480) 710 a0 (mz m + 4)) 20 5) 711 a0 (mz m + 5)) 20 6) (mz m + 6) 0 (-1)) (mz m + 6) 1 (-1)) (mz m + 6) 2 (-1)) (mz m + 6) 3 (-1)) (mz m + 6) 4 (-1)) (mz m + 6) 5 (-1)) 713 a0 (mz m + 6)) 21 6) 714 a0 (mz m + 7)) 20 6) 715 a0 (mz m + 8)) 20 6) 716 a0 (mz m + 9)) 20 1440) 717 a0 (mz m + 10)) 20 6) 718 a0 (mz m + 11)) 20 6) 719 a0 (mz m + 12)) 20 6) 720 a0 (mz m + 13)) 20 6) 721 a0 (mz m + 14)) 20 6) 722 a0 (mz m + 15)) 20 6) 723 a0 (mz m + 16)) 20 6) (mz m + 17) 0 (-1)) (mz m + 17) 1 (-1)) (mz m + 17) 2 (-1)) (mz m + 17) 3 (-1)) (mz m + 17) 4 (-1)) (mz m + 17) 5 (-1)) 724 a0 (mz m + 17)) 20 6) 725 a0 (mz m + 18)) 20 6) (mz m + 19) 0 (-1)) (mz m + 19) 1 (-1)) (mz m + 19) 2 (-1)) (mz m + 19) 3 (-1)) (mz m + 19) 4 (-1)) (mz m + 19) 5 (-1)) 726 a0 (mz m + 19)) 20 6) (mz m + 20) = 20) ∧ (1 < mN (nwA (sR (sA (sA (sA (sA (sA (sA (nwA (sR (nwA (sR (sA (sA (sA (sA (sA (sA (nwA (sR (nwA (sR (nwA (sR (nwA (sR (nwA (sR (nwA (sR (nwA (sR (nwA (sR (nwA (sR (nwA (sR (nwA (sR (sA (sA (sA (sA (sA (sA (nwA (sR (nwA (sR (nwA (sR (nwA (sR (nwA (sR (nwA (sR (nwA m 20 60) 706 a0 (mz m)) 20 60) 707 a0 (mz m + 1)) 20 60) 708 a0 (mz m + 2)) 20 60) 709 a0 (mz m + 3)) 20 480) 710 a0 (mz m + 4)) 20 5) 711 a0 (mz m + 5)) 20 6) (mz m + 6) 0 (-1)) (mz m + 6) 1 (-1)) (mz m + 6) 2 (-1)) (mz m + 6) 3 (-1)) (mz m + 6) 4 (-1)) (mz m + 6) 5 (-1)) 713 a0 (mz m + 6)) 21 6) 714 a0 (mz m + 7)) 20 6) 715 a0 (mz m + 8)) 20 6) 716 a0 (mz m + 9)) 20 1440) 717 a0 (mz m + 10)) 20 6) 718 a0 (mz m + 11)) 20 6) 719 a0 (mz m + 12)) 20 6) 720 a0 (mz m + 13)) 20 6) 721 a0 (mz m + 14)) 20 6) 722 a0 (mz m + 15)) 20 6) 723 a0 (mz m + 16)) 20 6) (mz m + 17) 0 (-1)) (mz m + 17) 1 (-1)) (mz m + 17) 2 (-1)) (mz m + 17) 3 (-1)) (mz m + 17) 4 (-1)) (mz m + 17) 5 (-1)) 724 a0 (mz m + 17)) 20 6) 725 a0 (mz m + 18)) 20 6) (mz m + 19) 0 (-1)) (mz m + 19) 1 (-1)) (mz m + 19) 2 (-1)) (mz m + 19) 3 (-1)) (mz m + 19) 4 (-1)) (mz m + 19) 5 (-1)) 726 a0 (mz m + 19)) 20 6) (mz m + 20)) ∧ (2 < mN (nwA (sR (sA (sA (sA (sA (sA (sA (nwA (sR (nwA (sR (sA (sA (sA (sA (sA (sA (nwA (sR (nwA (sR (nwA (sR (nwA (sR (nwA (sR (nwA (sR (nwA (sR (nwA (sR (nwA (sR (nwA (sR (nwA (sR (sA (sA (sA (sA (sA (sA (nwA (sR (nwA (sR (nwA (sR (nwA (sR (nwA (sR (nwA (sR (nwA m 20 60) 706 a0 (mz m)) 20 60) 707 a0 (mz m + 1)) 20 60) 708 a0 (mz m + 2)) 20 60) 709 a0 (mz m + 3)) 20 480) 710 a0 (mz m + 4)) 20 5) 711 a0 (mz m + 5)) 20 6) (mz m + 6) 0 (-1)) (mz m + 6) 1 (-1)) (mz m + 6) 2 (-1)) (mz m + 6) 3 (-1)) (mz m + 6) 4 (-1)) (mz m + 6) 5 (-1)) 713 a0 (mz m + 6)) 21 6) 714 a0 (mz m + 7)) 20 6) 715 a0 (mz m + 8)) 20 6) 716 a0 (mz m + 9)) 20 1440) 717 a0 (mz m + 10)) 20 6) 718 a0 (mz m + 11)) 20 6) 719 a0 (mz m + 12)) 20 6) 720 a0 (mz m + 13)) 20 6) 721 a0 (mz m + 14)) 20 6) 722 a0 (mz m + 15)) 20 6) 723 a0 (mz m + 16)) 20 6) (mz m + 17) 0 (-1)) (mz m + 17) 1 (-1)) (mz m + 17) 2 (-1)) (mz m + 17) 3 (-1)) (mz m + 17) 4 (-1)) (mz m + 17) 5 (-1)) 724 a0 (mz m + 17)) 20 6) 725 a0 (mz m + 18)) 20 6) (mz m + 19) 0 (-1)) (mz m + 19) 1 (-1)) (mz m + 19) 2 (-1)) (mz m + 19) 3 (-1)) (mz m + 19) 4 (-1)) (mz m + 19) 5 (-1)) 726 a0 (mz m + 19)) 20 6) (mz m + 20)) ∧ (3 < mN (nwA (sR (sA (sA (sA (sA (sA (sA (nwA (sR (nwA (sR (sA (sA (sA (sA (sA (sA (nwA (sR (nwA (sR (nwA (sR (nwA (sR (nwA (sR (nwA (sR (nwA (sR (nwA (sR (nwA (sR (nwA (sR (nwA (sR (sA (sA (sA (sA (sA (sA (nwA (sR (nwA (sR (nwA (sR (nwA (sR (nwA (sR (nwA (sR (nwA m 20 60) 706 a0 (mz m)) 20 60) 707 a0 (mz m + 1)) 20 60) 708 a0 (mz m + 2)) 20 60) 709 a0 (mz m + 3)) 20 480) 710 a0 (mz m + 4)) 20 5) 711 a0 (mz m + 5)) 20 6) (mz m + 6) 0 (-1)) (mz m + 6) 1 (-1)) (mz m + 6) 2 (-1)) (mz m + 6) 3 (-1)) (mz m + 6) 4 (-1)) (mz m + 6) 5 (-1)) 713 a0 (mz m + 6)) 21 6) 714 a0 (mz m + 7)) 20 6) 715 a0 (mz m + 8)) 20 6) 716 a0 (mz m + 9)) 20 1440) 717 a0 (mz m + 10)) 20 6) 718 a0 (mz m + 11)) 20 6) 719 a0 (mz m + 12)) 20 6) 720 a0 (mz m + 13)) 20 6) 721 a0 (mz m + 14)) 20 6) 722 a0 (mz m + 15)) 20 6) 723 a0 (mz m + 16)) 20 6) (mz m + 17) 0 (-1)) (mz m + 17) 1 (-1)) (mz m + 17) 2 (-1)) (mz m + 17) 3 (-1)) (mz m + 17) 4 (-1)) (mz m + 17) 5 (-1)) 724 a0 (mz m + 17)) 20 6) 725 a0 (mz m + 18)) 20 6) (mz m + 19) 0 (-1)) (mz m + 19) 1 (-1)) (mz m + 19) 2 (-1)) (mz m + 19) 3 (-1)) (mz m + 19) 4 (-1)) (mz m + 19) 5 (-1)) 726 a0 (mz m + 19)) 20 6) (mz m + 20)) ∧ (4 < mN (nwA (sR (sA (sA (sA (sA (sA (sA (nwA (sR (nwA (sR (sA (sA (sA (sA (sA (sA (nwA (sR (nwA (sR (nwA (sR (nwA (sR (nwA (sR (nwA (sR (nwA (sR (nwA (sR (nwA (sR (nwA (sR (nwA (sR (sA (sA (sA (sA (sA (sA (nwA (sR (nwA (sR (nwA (sR (nwA (sR (nwA (sR (nwA (sR (nwA m 20 60) 706 a0 (mz m)) 20 60) 707 a0 (mz m + 1)) 20 60) 708 a0 (mz m + 2)) 20 60) 709 a0 (mz m + 3)) 20 480) 710 a0 (mz m + 4)) 20 5) 711 a0 (mz m + 5)) 20 6) (mz m + 6) 0 (-1)) (mz m + 6) 1 (-1)) (mz m + 6) 2 (-1)) (mz m + 6) 3 (-1)) (mz m + 6) 4 (-1)) (mz m + 6) 5 (-1)) 713 a0 (mz m + 6)) 21 6) 714 a0 (mz m + 7)) 20 6) 715 a0 (mz m + 8)) 20 6) 716 a0 (mz m + 9)) 20 1440) 717 a0 (mz m + 10)) 20 6) 718 a0 (mz m + 11)) 20 6) 719 a0 (mz m + 12)) 20 6) 720 a0 (mz m + 13)) 20 6) 721 a0 (mz m + 14)) 20 6) 722 a0 (mz m + 15)) 20 6) 723 a0 (mz m + 16)) 20 6) (mz m + 17) 0 (-1)) (mz m + 17) 1 (-1)) (mz m + 17) 2 (-1)) (mz m + 17) 3 (-1)) (mz m + 17) 4 (-1)) (mz m + 17) 5 (-1)) 724 a0 (mz m + 17)) 20 6) 725 a0 (mz m + 18)) 20 6) (mz m + 19) 0 (-1)) (mz m + 19) 1 (-1)) (mz m + 19) 2 (-1)) (mz m + 19) 3 (-1)) (mz m + 19) 4 (-1)) (mz m + 19) 5 (-1)) 726 a0 (mz m + 19)) 20 6) (mz m + 20)) ∧ (5 < mN (nwA (sR (sA (sA (sA (sA (sA (sA (nwA (sR (nwA (sR (sA (sA (sA (sA (sA (sA (nwA (sR (nwA (sR (nwA (sR (nwA (sR (nwA (sR (nwA (sR (nwA (sR (nwA (sR (nwA (sR (nwA (sR (nwA (sR (sA (sA (sA (sA (sA (sA (nwA (sR (nwA (sR (nwA (sR (nwA (sR (nwA (sR (nwA (sR (nwA m 20 60) 706 a0 (mz m)) 20 60) 707 a0 (mz m + 1)) 20 60) 708 a0 (mz m + 2)) 20 60) 709 a0 (mz m + 3)) 20 480) 710 a0 (mz m + 4)) 20 5) 711 a0 (mz m + 5)) 20 6) (mz m + 6) 0 (-1)) (mz m + 6) 1 (-1)) (mz m + 6) 2 (-1)) (mz m + 6) 3 (-1)) (mz m + 6) 4 (-1)) (mz m + 6) 5 (-1)) 713 a0 (mz m + 6)) 21 6) 714 a0 (mz m + 7)) 20 6) 715 a0 (mz m + 8)) 20 6) 716 a0 (mz m + 9)) 20 1440) 717 a0 (mz m + 10)) 20 6) 718 a0 (mz m + 11)) 20 6) 719 a0 (mz m + 12)) 20 6) 720 a0 (mz m + 13)) 20 6) 721 a0 (mz m + 14)) 20 6) 722 a0 (mz m + 15)) 20 6) 723 a0 (mz m + 16)) 20 6) (mz m + 17) 0 (-1)) (mz m + 17) 1 (-1)) (mz m + 17) 2 (-1)) (mz m + 17) 3 (-1)) (mz m + 17) 4 (-1)) (mz m + 17) 5 (-1)) 724 a0 (mz m + 17)) 20 6) 725 a0 (mz m + 18)) 20 6) (mz m + 19) 0 (-1)) (mz m + 19) 1 (-1)) (mz m + 19) 2 (-1)) (mz m + 19) 3 (-1)) (mz m + 19) 4 (-1)) (mz m + 19) 5 (-1)) 726 a0 (mz m + 19)) 20 6) (mz m + 20)) ∧ (mC (nwA (sR (sA (sA (sA (sA (sA (sA (nwA (sR (nwA (sR (sA (sA (sA (sA (sA (sA (nwA (sR (nwA (sR (nwA (sR (nwA (sR (nwA (sR (nwA (sR (nwA (sR (nwA (sR (nwA (sR (nwA (sR (nwA (sR (sA (sA (sA (sA (sA (sA (nwA (sR (nwA (sR (nwA (sR (nwA (sR (nwA (sR (nwA (sR (nwA m 20 60) 706 a0 (mz m)) 20 60) 707 a0 (mz m + 1)) 20 60) 708 a0 (mz m + 2)) 20 60) 709 a0 (mz m + 3)) 20 480) 710 a0 (mz m + 4)) 20 5) 711 a0 (mz m + 5)) 20 6) (mz m + 6) 0 (-1)) (mz m + 6) 1 (-1)) (mz m + 6) 2 (-1)) (mz m + 6) 3 (-1)) (mz m + 6) 4 (-1)) (mz m + 6) 5 (-1)) 713 a0 (mz m + 6)) 21 6) 714 a0 (mz m + 7)) 20 6) 715 a0 (mz m + 8)) 20 6) 716 a0 (mz m + 9)) 20 1440) 717 a0 (mz m + 10)) 20 6) 718 a0 (mz m + 11)) 20 6) 719 a0 (mz m + 12)) 20 6) 720 a0 (mz m + 13)) 20 6) 721 a0 (mz m + 14)) 20 6) 722 a0 (mz m + 15)) 20 6) 723 a0 (mz m + 16)) 20 6) (mz m + 17) 0 (-1)) (mz m + 17) 1 (-1)) (mz m + 17) 2 (-1)) (mz m + 17) 3 (-1)) (mz m + 17) 4 (-1)) (mz m + 17) 5 (-1)) 724 a0 (mz m + 17)) 20 6) 725 a0 (mz m + 18)) 20 6) (mz m + 19) 0 (-1)) (mz m + 19) 1 (-1)) (mz m + 19) 2 (-1)) (mz m + 19) 3 (-1)) (mz m + 19) 4 (-1)) (mz m + 19) 5 (-1)) 726 a0 (mz m + 19)) 20 6) a0 = 12) ∧ (mC (nwA (sR (sA (sA (sA (sA (sA (sA (nwA (sR (sA (sA (sA (sA (sA (sA (nwA (sR (nwA (sR (sA (sA (sA (sA (sA (sA (nwA (sR (nwA (sR (nwA (sR (nwA (sR (nwA (sR (nwA (sR (nwA (sR (nwA (sR (nwA (sR (nwA (sR (nwA (sR (sA (sA (sA (sA (sA (sA (nwA (sR (nwA (sR (nwA (sR (nwA (sR (nwA (sR (nwA (sR (nwA m 20 60) 706 a0 (mz m)) 20 60) 707 a0 (mz m + 1)) 20 60) 708 a0 (mz m + 2)) 20 60) 709 a0 (mz m + 3)) 20 480) 710 a0 (mz m + 4)) 20 5) 711 a0 (mz m + 5)) 20 6) (mz m + 6) 0 (-1)) (mz m + 6) 1 (-1)) (mz m + 6) 2 (-1)) (mz m + 6) 3 (-1)) (mz m + 6) 4 (-1)) (mz m + 6) 5 (-1)) 713 a0 (mz m + 6)) 21 6) 714 a0 (mz m + 7)) 20 6) 715 a0 (mz m + 8)) 20 6) 716 a0 (mz m + 9)) 20 1440) 717 a0 (mz m + 10)) 20 6) 718 a0 (mz m + 11)) 20 6) 719 a0 (mz m + 12)) 20 6) 720 a0 (mz m + 13)) 20 6) 721 a0 (mz m + 14)) 20 6) 722 a0 (mz m + 15)) 20 6) 723 a0 (mz m + 16)) 20 6) (mz m + 17) 0 (-1)) (mz m + 17) 1 (-1)) (mz m + 17) 2 (-1)) (mz m + 17) 3 (-1)) (mz m + 17) 4 (-1)) (mz m + 17) 5 (-1)) 724 a0 (mz m + 17)) 20 6) 725 a0 (mz m + 18)) 20 6) (mz m + 19) 0 (-1)) (mz m + 19) 1 (-1)) (mz m + 19) 2 (-1)) (mz m + 19) 3 (-1)) (mz m + 19) 4 (-1)) (mz m + 19) 5 (-1)) 726 a0 (mz m + 19)) 20 6) (mz m + 20) 0 (-1)) (mz m + 20) 1 (-1)) (mz m + 20) 2 (-1)) (mz m + 20) 3 (-1)) (mz m + 20) 4 (-1)) (mz m + 20) 5 (-1)) 727 a0 (mz m + 20)) 21 6) a0 = 12) ∧ (mC (nwA (sR (nwA (sR (sA (sA (sA (sA (sA (sA (nwA (sR (sA (sA (sA (sA (sA (sA (nwA (sR (nwA (sR (sA (sA (sA (sA (sA (sA (nwA (sR (nwA (sR (nwA (sR (nwA (sR (nwA (sR (nwA (sR (nwA (sR (nwA (sR (nwA (sR (nwA (sR (nwA (sR (sA (sA (sA (sA (sA (sA (nwA (sR (nwA (sR (nwA (sR (nwA (sR (nwA (sR (nwA (sR (nwA m 20 60) 706 a0 (mz m)) 20 60) 707 a0 (mz m + 1)) 20 60) 708 a0 (mz m + 2)) 20 60) 709 a0 (mz m + 3)) 20 480) 710 a0 (mz m + 4)) 20 5) 711 a0 (mz m + 5)) 20 6) (mz m + 6) 0 (-1)) (mz m + 6) 1 (-1)) (mz m + 6) 2 (-1)) (mz m + 6) 3 (-1)) (mz m + 6) 4 (-1)) (mz m + 6) 5 (-1)) 713 a0 (mz m + 6)) 21 6) 714 a0 (mz m + 7)) 20 6) 715 a0 (mz m + 8)) 20 6) 716 a0 (mz m + 9)) 20 1440) 717 a0 (mz m + 10)) 20 6) 718 a0 (mz m + 11)) 20 6) 719 a0 (mz m + 12)) 20 6) 720 a0 (mz m + 13)) 20 6) 721 a0 (mz m + 14)) 20 6) 722 a0 (mz m + 15)) 20 6) 723 a0 (mz m + 16)) 20 6) (mz m + 17) 0 (-1)) (mz m + 17) 1 (-1)) (mz m + 17) 2 (-1)) (mz m + 17) 3 (-1)) (mz m + 17) 4 (-1)) (mz m + 17) 5 (-1)) 724 a0 (mz m + 17)) 20 6) 725 a0 (mz m + 18)) 20 6) (mz m + 19) 0 (-1)) (mz m + 19) 1 (-1)) (mz m + 19) 2 (-1)) (mz m + 19) 3 (-1)) (mz m + 19) 4 (-1)) (mz m + 19) 5 (-1)) 726 a0 (mz m + 19)) 20 6) (mz m + 20) 0 (-1)) (mz m + 20) 1 (-1)) (mz m + 20) 2 (-1)) (mz m + 20) 3 (-1)) (mz m + 20) 4 (-1)) (mz m + 20) 5 (-1)) 727 a0 (mz m + 20)) 21 6) 728 a0 (mz m + 21)) 21 6) a0 = 12) ∧ (mC (nwA (sR (nwA (sR (nwA (sR (sA (sA (sA (sA (sA (sA (nwA (sR (sA (sA (sA (sA (sA (sA (nwA (sR (nwA (sR (sA (sA (sA (sA (sA (sA (nwA (sR (nwA (sR (nwA (sR (nwA (sR (nwA (sR (nwA (sR (nwA (sR (nwA (sR (nwA (sR (nwA (sR (nwA (sR (sA (sA (sA (sA (sA (sA (nwA (sR (nwA (sR (nwA (sR (nwA (sR (nwA (sR (nwA (sR (nwA m 20 60) 706 a0 (mz m)) 20 60) 707 a0 (mz m + 1)) 20 60) 708 a0 (mz m + 2)) 20 60) 709 a0 (mz m + 3)) 20 480) 710 a0 (mz m + 4)) 20 5) 711 a0 (mz m + 5)) 20 6) (mz m + 6) 0 (-1)) (mz m + 6) 1 (-1)) (mz m + 6) 2 (-1)) (mz m + 6) 3 (-1)) (mz m + 6) 4 (-1)) (mz m + 6) 5 (-1)) 713 a0 (mz m + 6)) 21 6) 714 a0 (mz m + 7)) 20 6) 715 a0 (mz m + 8)) 20 6) 716 a0 (mz m + 9)) 20 1440) 717 a0 (mz m + 10)) 20 6) 718 a0 (mz m + 11)) 20 6) 719 a0 (mz m + 12)) 20 6) 720 a0 (mz m + 13)) 20 6) 721 a0 (mz m + 14)) 20 6) 722 a0 (mz m + 15)) 20 6) 723 a0 (mz m + 16)) 20 6) (mz m + 17) 0 (-1)) (mz m + 17) 1 (-1)) (mz m + 17) 2 (-1)) (mz m + 17) 3 (-1)) (mz m + 17) 4 (-1)) (mz m + 17) 5 (-1)) 724 a0 (mz m + 17)) 20 6) 725 a0 (mz m + 18)) 20 6) (mz m + 19) 0 (-1)) (mz m + 19) 1 (-1)) (mz m + 19) 2 (-1)) (mz m + 19) 3 (-1)) (mz m + 19) 4 (-1)) (mz m + 19) 5 (-1)) 726 a0 (mz m + 19)) 20 6) (mz m + 20) 0 (-1)) (mz m + 20) 1 (-1)) (mz m + 20) 2 (-1)) (mz m + 20) 3 (-1)) (mz m + 20) 4 (-1)) (mz m + 20) 5 (-1)) 727 a0 (mz m + 20)) 21 6) 728 a0 (mz m + 21)) 21 6) 729 a0 (mz m + 22)) 20 6) a0 = 12) ∧ (mC (nwA (sR (nwA (sR (nwA (sR (nwA (sR (sA (sA (sA (sA (sA (sA (nwA (sR (sA (sA (sA (sA (sA (sA (nwA (sR (nwA (sR (sA (sA (sA (sA (sA (sA (nwA (sR (nwA (sR (nwA (sR (nwA (sR (nwA (sR (nwA (sR (nwA (sR (nwA (sR (nwA (sR (nwA (sR (nwA (sR (sA (sA (sA (sA (sA (sA (nwA (sR (nwA (sR (nwA (sR (nwA (sR (nwA (sR (nwA (sR (nwA m 20 60) 706 a0 (mz m)) 20 60) 707 a0 (mz m + 1)) 20 60) 708 a0 (mz m + 2)) 20 60) 709 a0 (mz m + 3)) 20 480) 710 a0 (mz m + 4)) 20 5) 711 a0 (mz m + 5)) 20 6) (mz m + 6) 0 (-1)) (mz m + 6) 1 (-1)) (mz m + 6) 2 (-1)) (mz m + 6) 3 (-1)) (mz m + 6) 4 (-1)) (mz m + 6) 5 (-1)) 713 a0 (mz m + 6)) 21 6) 714 a0 (mz m + 7)) 20 6) 715 a0 (mz m + 8)) 20 6) 716 a0 (mz m + 9)) 20 1440) 717 a0 (mz m + 10)) 20 6) 718 a0 (mz m + 11)) 20 6) 719 a0 (mz m + 12)) 20 6) 720 a0 (mz m + 13)) 20 6) 721 a0 (mz m + 14)) 20 6) 722 a0 (mz m + 15)) 20 6) 723 a0 (mz m + 16)) 20 6) (mz m + 17) 0 (-1)) (mz m + 17) 1 (-1)) (mz m + 17) 2 (-1)) (mz m + 17) 3 (-1)) (mz m + 17) 4 (-1)) (mz m + 17) 5 (-1)) 724 a0 (mz m + 17)) 20 6) 725 a0 (mz m + 18)) 20 6) (mz m + 19) 0 (-1)) (mz m + 19) 1 (-1)) (mz m + 19) 2 (-1)) (mz m + 19) 3 (-1)) (mz m + 19) 4 (-1)) (mz m + 19) 5 (-1)) 726 a0 (mz m + 19)) 20 6) (mz m + 20) 0 (-1)) (mz m + 20) 1 (-1)) (mz m + 20) 2 (-1)) (mz m + 20) 3 (-1)) (mz m + 20) 4 (-1)) (mz m + 20) 5 (-1)) 727 a0 (mz m + 20)) 21 6) 728 a0 (mz m + 21)) 21 6) 729 a0 (mz m + 22)) 20 6) 730 a0 (mz m + 23)) 20 6) a0 = 12) ∧ (mC (nwA (sR (nwA (sR (nwA (sR (nwA (sR (nwA (sR (sA (sA (sA (sA (sA (sA (nwA (sR (sA (sA (sA (sA (sA (sA (nwA (sR (nwA (sR (sA (sA (sA (sA (sA (sA (nwA (sR (nwA (sR (nwA (sR (nwA (sR (nwA (sR (nwA (sR (nwA (sR (nwA (sR (nwA (sR (nwA (sR (nwA (sR (sA (sA (sA (sA (sA (sA (nwA (sR (nwA (sR (nwA (sR (nwA (sR (nwA (sR (nwA (sR (nwA m 20 60) 706 a0 (mz m)) 20 60) 707 a0 (mz m + 1)) 20 60) 708 a0 (mz m + 2)) 20 60) 709 a0 (mz m + 3)) 20 480) 710 a0 (mz m + 4)) 20 5) 711 a0 (mz m + 5)) 20 6) (mz m + 6) 0 (-1)) (mz m + 6) 1 (-1)) (mz m + 6) 2 (-1)) (mz m + 6) 3 (-1)) (mz m + 6) 4 (-1)) (mz m + 6) 5 (-1)) 713 a0 (mz m + 6)) 21 6) 714 a0 (mz m + 7)) 20 6) 715 a0 (mz m + 8)) 20 6) 716 a0 (mz m + 9)) 20 1440) 717 a0 (mz m + 10)) 20 6) 718 a0 (mz m + 11)) 20 6) 719 a0 (mz m + 12)) 20 6) 720 a0 (mz m + 13)) 20 6) 721 a0 (mz m + 14)) 20 6) 722 a0 (mz m + 15)) 20 6) 723 a0 (mz m + 16)) 20 6) (mz m + 17) 0 (-1)) (mz m + 17) 1 (-1)) (mz m + 17) 2 (-1)) (mz m + 17) 3 (-1)) (mz m + 17) 4 (-1)) (mz m + 17) 5 (-1)) 724 a0 (mz m + 17)) 20 6) 725 a0 (mz m + 18)) 20 6) (mz m + 19) 0 (-1)) (mz m + 19) 1 (-1)) (mz m + 19) 2 (-1)) (mz m + 19) 3 (-1)) (mz m + 19) 4 (-1)) (mz m + 19) 5 (-1)) 726 a0 (mz m + 19)) 20 6) (mz m + 20) 0 (-1)) (mz m + 20) 1 (-1)) (mz m + 20) 2 (-1)) (mz m + 20) 3 (-1)) (mz m + 20) 4 (-1)) (mz m + 20) 5 (-1)) 727 a0 (mz m + 20)) 21 6) 728 a0 (mz m + 21)) 21 6) 729 a0 (mz m + 22)) 20 6) 730 a0 (mz m + 23)) 20 6) 731 a0 (mz m + 24)) 20 6) a0 = 12) ∧ (mC (nwA (sR (nwA (sR (nwA (sR (nwA (sR (nwA (sR (nwA (sR (sA (sA (sA (sA (sA (sA (nwA (sR (sA (sA (sA (sA (sA (sA (nwA (sR (nwA (sR (sA (sA (sA (sA (sA (sA (nwA (sR (nwA (sR (nwA (sR (nwA (sR (nwA (sR (nwA (sR (nwA (sR (nwA (sR (nwA (sR (nwA (sR (nwA (sR (sA (sA (sA (sA (sA (sA (nwA (sR (nwA (sR (nwA (sR (nwA (sR (nwA (sR (nwA (sR (nwA m 20 60) 706 a0 (mz m)) 20 60) 707 a0 (mz m + 1)) 20 60) 708 a0 (mz m + 2)) 20 60) 709 a0 (mz m + 3)) 20 480) 710 a0 (mz m + 4)) 20 5) 711 a0 (mz m + 5)) 20 6) (mz m + 6) 0 (-1)) (mz m + 6) 1 (-1)) (mz m + 6) 2 (-1)) (mz m + 6) 3 (-1)) (mz m + 6) 4 (-1)) (mz m + 6) 5 (-1)) 713 a0 (mz m + 6)) 21 6) 714 a0 (mz m + 7)) 20 6) 715 a0 (mz m + 8)) 20 6) 716 a0 (mz m + 9)) 20 1440) 717 a0 (mz m + 10)) 20 6) 718 a0 (mz m + 11)) 20 6) 719 a0 (mz m + 12)) 20 6) 720 a0 (mz m + 13)) 20 6) 721 a0 (mz m + 14)) 20 6) 722 a0 (mz m + 15)) 20 6) 723 a0 (mz m + 16)) 20 6) (mz m + 17) 0 (-1)) (mz m + 17) 1 (-1)) (mz m + 17) 2 (-1)) (mz m + 17) 3 (-1)) (mz m + 17) 4 (-1)) (mz m + 17) 5 (-1)) 724 a0 (mz m + 17)) 20 6) 725 a0 (mz m + 18)) 20 6) (mz m + 19) 0 (-1)) (mz m + 19) 1 (-1)) (mz m + 19) 2 (-1)) (mz m + 19) 3 (-1)) (mz m + 19) 4 (-1)) (mz m + 19) 5 (-1)) 726 a0 (mz m + 19)) 20 6) (mz m + 20) 0 (-1)) (mz m + 20) 1 (-1)) (mz m + 20) 2 (-1)) (mz m + 20) 3 (-1)) (mz m + 20) 4 (-1)) (mz m + 20) 5 (-1)) 727 a0 (mz m + 20)) 21 6) 728 a0 (mz m + 21)) 21 6) 729 a0 (mz m + 22)) 20 6) 730 a0 (mz m + 23)) 20 6) 731 a0 (mz m + 24)) 20 6) 732 a0 (mz m + 25)) 20 6) a0 = 12) ∧ (mC (nwA (sR (nwA (sR (nwA (sR (nwA (sR (nwA (sR (nwA (sR (nwA (sR (sA (sA (sA (sA (sA (sA (nwA (sR (sA (sA (sA (sA (sA (sA (nwA (sR (nwA (sR (sA (sA (sA (sA (sA (sA (nwA (sR (nwA (sR (nwA (sR (nwA (sR (nwA (sR (nwA (sR (nwA (sR (nwA (sR (nwA (sR (nwA (sR (nwA (sR (sA (sA (sA (sA (sA (sA (nwA (sR (nwA (sR (nwA (sR (nwA (sR (nwA (sR (nwA (sR (nwA m 20 60) 706 a0 (mz m)) 20 60) 707 a0 (mz m + 1)) 20 60) 708 a0 (mz m + 2)) 20 60) 709 a0 (mz m + 3)) 20 480) 710 a0 (mz m + 4)) 20 5) 711 a0 (mz m + 5)) 20 6) (mz m + 6) 0 (-1)) (mz m + 6) 1 (-1)) (mz m + 6) 2 (-1)) (mz m + 6) 3 (-1)) (mz m + 6) 4 (-1)) (mz m + 6) 5 (-1)) 713 a0 (mz m + 6)) 21 6) 714 a0 (mz m + 7)) 20 6) 715 a0 (mz m + 8)) 20 6) 716 a0 (mz m + 9)) 20 1440) 717 a0 (mz m + 10)) 20 6) 718 a0 (mz m + 11)) 20 6) 719 a0 (mz m + 12)) 20 6) 720 a0 (mz m + 13)) 20 6) 721 a0 (mz m + 14)) 20 6) 722 a0 (mz m + 15)) 20 6) 723 a0 (mz m + 16)) 20 6) (mz m + 17) 0 (-1)) (mz m + 17) 1 (-1)) (mz m + 17) 2 (-1)) (mz m + 17) 3 (-1)) (mz m + 17) 4 (-1)) (mz m + 17) 5 (-1)) 724 a0 (mz m + 17)) 20 6) 725 a0 (mz m + 18)) 20 6) (mz m + 19) 0 (-1)) (mz m + 19) 1 (-1)) (mz m + 19) 2 (-1)) (mz m + 19) 3 (-1)) (mz m + 19) 4 (-1)) (mz m + 19) 5 (-1)) 726 a0 (mz m + 19)) 20 6) (mz m + 20) 0 (-1)) (mz m + 20) 1 (-1)) (mz m + 20) 2 (-1)) (mz m + 20) 3 (-1)) (mz m + 20) 4 (-1)) (mz m + 20) 5 (-1)) 727 a0 (mz m + 20)) 21 6) 728 a0 (mz m + 21)) 21 6) 729 a0 (mz m + 22)) 20 6) 730 a0 (mz m + 23)) 20 6) 731 a0 (mz m + 24)) 20 6) 732 a0 (mz m + 25)) 20 6) 733 a0 (mz m + 26)) 20 18) a0 = 12) ∧ (mC (nwA (sR (nwA (sR (nwA (sR (nwA (sR (nwA (sR (nwA (sR (nwA (sR (nwA (sR (sA (sA (sA (sA (sA (sA (nwA (sR (sA (sA (sA (sA (sA (sA (nwA (sR (nwA (sR (sA (sA (sA (sA (sA (sA (nwA (sR (nwA (sR (nwA (sR (nwA (sR (nwA (sR (nwA (sR (nwA (sR (nwA (sR (nwA (sR (nwA (sR (nwA (sR (sA (sA (sA (sA (sA (sA (nwA (sR (nwA (sR (nwA (sR (nwA (sR (nwA (sR (nwA (sR (nwA m 20 60) 706 a0 (mz m)) 20 60) 707 a0 (mz m + 1)) 20 60) 708 a0 (mz m + 2)) 20 60) 709 a0 (mz m + 3)) 20 480) 710 a0 (mz m + 4)) 20 5) 711 a0 (mz m + 5)) 20 6) (mz m + 6) 0 (-1)) (mz m + 6) 1 (-1)) (mz m + 6) 2 (-1)) (mz m + 6) 3 (-1)) (mz m + 6) 4 (-1)) (mz m + 6) 5 (-1)) 713 a0 (mz m + 6)) 21 6) 714 a0 (mz m + 7)) 20 6) 715 a0 (mz m + 8)) 20 6) 716 a0 (mz m + 9)) 20 1440) 717 a0 (mz m + 10)) 20 6) 718 a0 (mz m + 11)) 20 6) 719 a0 (mz m + 12)) 20 6) 720 a0 (mz m + 13)) 20 6) 721 a0 (mz m + 14)) 20 6) 722 a0 (mz m + 15)) 20 6) 723 a0 (mz m + 16)) 20 6) (mz m + 17) 0 (-1)) (mz m + 17) 1 (-1)) (mz m + 17) 2 (-1)) (mz m + 17) 3 (-1)) (mz m + 17) 4 (-1)) (mz m + 17) 5 (-1)) 724 a0 (mz m + 17)) 20 6) 725 a0 (mz m + 18)) 20 6) (mz m + 19) 0 (-1)) (mz m + 19) 1 (-1)) (mz m + 19) 2 (-1)) (mz m + 19) 3 (-1)) (mz m + 19) 4 (-1)) (mz m + 19) 5 (-1)) 726 a0 (mz m + 19)) 20 6) (mz m + 20) 0 (-1)) (mz m + 20) 1 (-1)) (mz m + 20) 2 (-1)) (mz m + 20) 3 (-1)) (mz m + 20) 4 (-1)) (mz m + 20) 5 (-1)) 727 a0 (mz m + 20)) 21 6) 728 a0 (mz m + 21)) 21 6) 729 a0 (mz m + 22)) 20 6) 730 a0 (mz m + 23)) 20 6) 731 a0 (mz m + 24)) 20 6) 732 a0 (mz m + 25)) 20 6) 733 a0 (mz m + 26)) 20 18) 734 a0 (mz m + 27)) 20 18) a0 = 12) ∧ (mC (nwA (sR (nwA (sR (nwA (sR (nwA (sR (nwA (sR (nwA (sR (nwA (sR (nwA (sR (nwA (sR (sA (sA (sA (sA (sA (sA (nwA (sR (sA (sA (sA (sA (sA (sA (nwA (sR (nwA (sR (sA (sA (sA (sA (sA (sA (nwA (sR (nwA (sR (nwA (sR (nwA (sR (nwA (sR (nwA (sR (nwA (sR (nwA (sR (nwA (sR (nwA (sR (nwA (sR (sA (sA (sA (sA (sA (sA (nwA (sR (nwA (sR (nwA (sR (nwA (sR (nwA (sR (nwA (sR (nwA m 20 60) 706 a0 (mz m)) 20 60) 707 a0 (mz m + 1)) 20 60) 708 a0 (mz m + 2)) 20 60) 709 a0 (mz m + 3)) 20 480) 710 a0 (mz m + 4)) 20 5) 711 a0 (mz m + 5)) 20 6) (mz m + 6) 0 (-1)) (mz m + 6) 1 (-1)) (mz m + 6) 2 (-1)) (mz m + 6) 3 (-1)) (mz m + 6) 4 (-1)) (mz m + 6) 5 (-1)) 713 a0 (mz m + 6)) 21 6) 714 a0 (mz m + 7)) 20 6) 715 a0 (mz m + 8)) 20 6) 716 a0 (mz m + 9)) 20 1440) 717 a0 (mz m + 10)) 20 6) 718 a0 (mz m + 11)) 20 6) 719 a0 (mz m + 12)) 20 6) 720 a0 (mz m + 13)) 20 6) 721 a0 (mz m + 14)) 20 6) 722 a0 (mz m + 15)) 20 6) 723 a0 (mz m + 16)) 20 6) (mz m + 17) 0 (-1)) (mz m + 17) 1 (-1)) (mz m + 17) 2 (-1)) (mz m + 17) 3 (-1)) (mz m + 17) 4 (-1)) (mz m + 17) 5 (-1)) 724 a0 (mz m + 17)) 20 6) 725 a0 (mz m + 18)) 20 6) (mz m + 19) 0 (-1)) (mz m + 19) 1 (-1)) (mz m + 19) 2 (-1)) (mz m + 19) 3 (-1)) (mz m + 19) 4 (-1)) (mz m + 19) 5 (-1)) 726 a0 (mz m + 19)) 20 6) (mz m + 20) 0 (-1)) (mz m + 20) 1 (-1)) (mz m + 20) 2 (-1)) (mz m + 20) 3 (-1)) (mz m + 20) 4 (-1)) (mz m + 20) 5 (-1)) 727 a0 (mz m + 20)) 21 6) 728 a0 (mz m + 21)) 21 6) 729 a0 (mz m + 22)) 20 6) 730 a0 (mz m + 23)) 20 6) 731 a0 (mz m + 24)) 20 6) 732 a0 (mz m + 25)) 20 6) 733 a0 (mz m + 26)) 20 18) 734 a0 (mz m + 27)) 20 18) 735 a0 (mz m + 28)) 20 240) a0 = 12) ∧ Q (.inl none) (sR (nwA (sR (nwA (sR (nwA (sR (nwA (sR (nwA (sR (nwA (sR (nwA (sR (nwA (sR (nwA (sR (sA (sA (sA (sA (sA (sA (nwA (sR (sA (sA (sA (sA (sA (sA (nwA (sR (nwA (sR (sA (sA (sA (sA (sA (sA (nwA (sR (nwA (sR (nwA (sR (nwA (sR (nwA (sR (nwA (sR (nwA (sR (nwA (sR (nwA (sR (nwA (sR (nwA (sR (sA (sA (sA (sA (sA (sA (nwA (sR (nwA (sR (nwA (sR (nwA (sR (nwA (sR (nwA (sR (nwA m 20 60) 706 a0 (mz m)) 20 60) 707 a0 (mz m + 1)) 20 60) 708 a0 (mz m + 2)) 20 60) 709 a0 (mz m + 3)) 20 480) 710 a0 (mz m + 4)) 20 5) 711 a0 (mz m + 5)) 20 6) (mz m + 6) 0 (-1)) (mz m + 6) 1 (-1)) (mz m + 6) 2 (-1)) (mz m + 6) 3 (-1)) (mz m + 6) 4 (-1)) (mz m + 6) 5 (-1)) 713 a0 (mz m + 6)) 21 6) 714 a0 (mz m + 7)) 20 6) 715 a0 (mz m + 8)) 20 6) 716 a0 (mz m + 9)) 20 1440) 717 a0 (mz m + 10)) 20 6) 718 a0 (mz m + 11)) 20 6) 719 a0 (mz m + 12)) 20 6) 720 a0 (mz m + 13)) 20 6) 721 a0 (mz m + 14)) 20 6) 722 a0 (mz m + 15)) 20 6) 723 a0 (mz m + 16)) 20 6) (mz m + 17) 0 (-1)) (mz m + 17) 1 (-1)) (mz m + 17) 2 (-1)) (mz m + 17) 3 (-1)) (mz m + 17) 4 (-1)) (mz m + 17) 5 (-1)) 724 a0 (mz m + 17)) 20 6) 725 a0 (mz m + 18)) 20 6) (mz m + 19) 0 (-1)) (mz m + 19) 1 (-1)) (mz m + 19) 2 (-1)) (mz m + 19) 3 (-1)) (mz m + 19) 4 (-1)) (mz m + 19) 5 (-1)) 726 a0 (mz m + 19)) 20 6) (mz m + 20) 0 (-1)) (mz m + 20) 1 (-1)) (mz m + 20) 2 (-1)) (mz m + 20) 3 (-1)) (mz m + 20) 4 (-1)) (mz m + 20) 5 (-1)) 727 a0 (mz m + 20)) 21 6) 728 a0 (mz m + 21)) 21 6) 729 a0 (mz m + 22)) 20 6) 730 a0 (mz m + 23)) 20 6) 731 a0 (mz m + 24)) 20 6) 732 a0 (mz m + 25)) 20 6) 733 a0 (mz m + 26)) 20 18) 734 a0 (mz m + 27)) 20 18) 735 a0 (mz m + 28)) 20 240) 739 a0 (mz m + 29))) : zC xs xl (d + 1) 129 [zR a0] m Q := by
  refine zk_129 ?_
  refine (zq_aload_n dX11_init_0 rfl).mpr ?_
  obtain ⟨g1, h⟩ := h
  refine (zq_oinit dX11_init_1 mr_11_3).mpr ⟨⟨g1, (Nat.le_of_ble_eq_true rfl)⟩, ?_⟩
  refine (zq_aload_n dX11_init_4 rfl).mpr ?_
  refine (zq_bipush dX11_init_5 (by decide)).mpr ?_
  refine (zq_newarray (kd := 20) dX11_init_7 rfl (by decide)).mpr ⟨by decide, ?_⟩
  obtain ⟨g3, h⟩ := h
  refine (zq_putR (f := 706) dX11_init_9 fl_11_9 (by decide) rfl rfl rfl).mpr ⟨g3, ?_⟩
  refine (zq_aload_n dX11_init_12 rfl).mpr ?_
  refine (zq_bipush dX11_init_13 (by decide)).mpr ?_
  refine (zq_newarray (kd := 20) dX11_init_15 rfl (by decide)).mpr ⟨by decide, ?_⟩
  obtain ⟨g5, h⟩ := h
  refine (zq_putR (f := 707) dX11_init_17 fl_11_15 (by decide) rfl rfl rfl).mpr ⟨g5, ?_⟩
  refine (zq_aload_n dX11_init_20 rfl).mpr ?_
  refine (zq_bipush dX11_init_21 (by decide)).mpr ?_
  refine (zq_newarray (kd := 20) dX11_init_23 rfl (by decide)).mpr ⟨by decide, ?_⟩
  obtain ⟨g7, h⟩ := h
  refine (zq_putR (f := 708) dX11_init_25 fl_11_18 (by decide) rfl rfl rfl).mpr ⟨g7, ?_⟩
  refine (zq_aload_n dX11_init_28 rfl).mpr ?_
  refine (zq_bipush dX11_init_29 (by decide)).mpr ?_
  refine (zq_newarray (kd := 20) dX11_init_31 rfl (by decide)).mpr ⟨by decide, ?_⟩
  obtain ⟨g9, h⟩ := h
  refine (zq_putR (f := 709) dX11_init_33 fl_11_21 (by decide) rfl rfl rfl).mpr ⟨g9, ?_⟩
  refine (zq_aload_n dX11_init_36 rfl).mpr ?_
  refine (zq_sipush dX11_init_37 (by decide)).mpr ?_
  refine (zq_newarray (kd := 20) dX11_init_40 rfl (by decide)).mpr ⟨by decide, ?_⟩
  obtain ⟨g11, h⟩ := h
  refine (zq_putR (f := 710) dX11_init_42 fl_11_24 (by decide) rfl rfl rfl).mpr ⟨g11, ?_⟩
  refine (zq_aload_n dX11_init_45 rfl).mpr ?_
  refine (zq_iconst dX11_init_46 (by decide)).mpr ?_
  refine (zq_newarray (kd := 20) dX11_init_47 rfl (by decide)).mpr ⟨by decide, ?_⟩
  obtain ⟨g13, h⟩ := h
  refine (zq_putR (f := 711) dX11_init_49 fl_11_27 (by decide) rfl rfl rfl).mpr ⟨g13, ?_⟩
  refine (zq_aload_n dX11_init_52 rfl).mpr ?_
  refine (zq_bipush dX11_init_53 (by decide)).mpr ?_
  refine (zq_newarray (kd := 20) dX11_init_55 rfl (by decide)).mpr ⟨by decide, ?_⟩
  refine (zq_dupR dX11_init_57).mpr ?_
  refine (zq_iconst dX11_init_58 (by decide)).mpr ?_
  refine (zq_iconst dX11_init_59 (by decide)).mpr ?_
  obtain ⟨g15, h⟩ := h
  obtain ⟨g16, h⟩ := h
  refine (zq_iast dX11_init_60).mpr ⟨⟨g16, ⟨by decide, g15⟩⟩, ?_⟩
  refine (zq_dupR dX11_init_61).mpr ?_
  refine (zq_iconst dX11_init_62 (by decide)).mpr ?_
  refine (zq_iconst dX11_init_63 (by decide)).mpr ?_
  obtain ⟨g17, h⟩ := h
  refine (zq_iast dX11_init_64).mpr ⟨⟨g16, ⟨by decide, g17⟩⟩, ?_⟩
  refine (zq_dupR dX11_init_65).mpr ?_
  refine (zq_iconst dX11_init_66 (by decide)).mpr ?_
  refine (zq_iconst dX11_init_67 (by decide)).mpr ?_
  obtain ⟨g18, h⟩ := h
  refine (zq_iast dX11_init_68).mpr ⟨⟨g16, ⟨by decide, g18⟩⟩, ?_⟩
  refine (zq_dupR dX11_init_69).mpr ?_
  refine (zq_iconst dX11_init_70 (by decide)).mpr ?_
  refine (zq_iconst dX11_init_71 (by decide)).mpr ?_
  obtain ⟨g19, h⟩ := h
  refine (zq_iast dX11_init_72).mpr ⟨⟨g16, ⟨by decide, g19⟩⟩, ?_⟩
  refine (zq_dupR dX11_init_73).mpr ?_
  refine (zq_iconst dX11_init_74 (by decide)).mpr ?_
  refine (zq_iconst dX11_init_75 (by decide)).mpr ?_
  obtain ⟨g20, h⟩ := h
  refine (zq_iast dX11_init_76).mpr ⟨⟨g16, ⟨by decide, g20⟩⟩, ?_⟩
  refine (zq_dupR dX11_init_77).mpr ?_
  refine (zq_iconst dX11_init_78 (by decide)).mpr ?_
  refine (zq_iconst dX11_init_79 (by decide)).mpr ?_
  obtain ⟨g21, h⟩ := h
  refine (zq_iast dX11_init_80).mpr ⟨⟨g16, ⟨by decide, g21⟩⟩, ?_⟩
  obtain ⟨g22, h⟩ := h
  refine (zq_putR (f := 713) dX11_init_81 fl_11_30 (by decide) rfl rfl rfl).mpr ⟨g22, ?_⟩
  refine (zq_aload_n dX11_init_84 rfl).mpr ?_
  refine (zq_bipush dX11_init_85 (by decide)).mpr ?_
  refine (zq_newarray (kd := 21) dX11_init_87 rfl (by decide)).mpr ⟨by decide, ?_⟩
  obtain ⟨g24, h⟩ := h
  refine (zq_putR (f := 714) dX11_init_89 fl_11_33 (by decide) rfl rfl rfl).mpr ⟨g24, ?_⟩
  refine (zq_aload_n dX11_init_92 rfl).mpr ?_
  refine (zq_bipush dX11_init_93 (by decide)).mpr ?_
  refine (zq_newarray (kd := 20) dX11_init_95 rfl (by decide)).mpr ⟨by decide, ?_⟩
  obtain ⟨g26, h⟩ := h
  refine (zq_putR (f := 715) dX11_init_97 fl_11_37 (by decide) rfl rfl rfl).mpr ⟨g26, ?_⟩
  refine (zq_aload_n dX11_init_100 rfl).mpr ?_
  refine (zq_bipush dX11_init_101 (by decide)).mpr ?_
  refine (zq_newarray (kd := 20) dX11_init_103 rfl (by decide)).mpr ⟨by decide, ?_⟩
  obtain ⟨g28, h⟩ := h
  refine (zq_putR (f := 716) dX11_init_105 fl_11_40 (by decide) rfl rfl rfl).mpr ⟨g28, ?_⟩
  refine (zq_aload_n dX11_init_108 rfl).mpr ?_
  refine (zq_sipush dX11_init_109 (by decide)).mpr ?_
  refine (zq_newarray (kd := 20) dX11_init_112 rfl (by decide)).mpr ⟨by decide, ?_⟩
  obtain ⟨g30, h⟩ := h
  refine (zq_putR (f := 717) dX11_init_114 fl_11_43 (by decide) rfl rfl rfl).mpr ⟨g30, ?_⟩
  refine (zq_aload_n dX11_init_117 rfl).mpr ?_
  refine (zq_bipush dX11_init_118 (by decide)).mpr ?_
  refine (zq_newarray (kd := 20) dX11_init_120 rfl (by decide)).mpr ⟨by decide, ?_⟩
  obtain ⟨g32, h⟩ := h
  refine (zq_putR (f := 718) dX11_init_122 fl_11_46 (by decide) rfl rfl rfl).mpr ⟨g32, ?_⟩
  refine (zq_aload_n dX11_init_125 rfl).mpr ?_
  refine (zq_bipush dX11_init_126 (by decide)).mpr ?_
  refine (zq_newarray (kd := 20) dX11_init_128 rfl (by decide)).mpr ⟨by decide, ?_⟩
  obtain ⟨g34, h⟩ := h
  refine (zq_putR (f := 719) dX11_init_130 fl_11_49 (by decide) rfl rfl rfl).mpr ⟨g34, ?_⟩
  refine (zq_aload_n dX11_init_133 rfl).mpr ?_
  refine (zq_bipush dX11_init_134 (by decide)).mpr ?_
  refine (zq_newarray (kd := 20) dX11_init_136 rfl (by decide)).mpr ⟨by decide, ?_⟩
  obtain ⟨g36, h⟩ := h
  refine (zq_putR (f := 720) dX11_init_138 fl_11_52 (by decide) rfl rfl rfl).mpr ⟨g36, ?_⟩
  refine (zq_aload_n dX11_init_141 rfl).mpr ?_
  refine (zq_bipush dX11_init_142 (by decide)).mpr ?_
  refine (zq_newarray (kd := 20) dX11_init_144 rfl (by decide)).mpr ⟨by decide, ?_⟩
  obtain ⟨g38, h⟩ := h
  refine (zq_putR (f := 721) dX11_init_146 fl_11_55 (by decide) rfl rfl rfl).mpr ⟨g38, ?_⟩
  refine (zq_aload_n dX11_init_149 rfl).mpr ?_
  refine (zq_bipush dX11_init_150 (by decide)).mpr ?_
  refine (zq_newarray (kd := 20) dX11_init_152 rfl (by decide)).mpr ⟨by decide, ?_⟩
  obtain ⟨g40, h⟩ := h
  refine (zq_putR (f := 722) dX11_init_154 fl_11_58 (by decide) rfl rfl rfl).mpr ⟨g40, ?_⟩
  refine (zq_aload_n dX11_init_157 rfl).mpr ?_
  refine (zq_bipush dX11_init_158 (by decide)).mpr ?_
  refine (zq_newarray (kd := 20) dX11_init_160 rfl (by decide)).mpr ⟨by decide, ?_⟩
  obtain ⟨g42, h⟩ := h
  refine (zq_putR (f := 723) dX11_init_162 fl_11_61 (by decide) rfl rfl rfl).mpr ⟨g42, ?_⟩
  refine (zq_aload_n dX11_init_165 rfl).mpr ?_
  refine (zq_bipush dX11_init_166 (by decide)).mpr ?_
  refine (zq_newarray (kd := 20) dX11_init_168 rfl (by decide)).mpr ⟨by decide, ?_⟩
  refine (zq_dupR dX11_init_170).mpr ?_
  refine (zq_iconst dX11_init_171 (by decide)).mpr ?_
  refine (zq_iconst dX11_init_172 (by decide)).mpr ?_
  obtain ⟨g44, h⟩ := h
  obtain ⟨g45, h⟩ := h
  refine (zq_iast dX11_init_173).mpr ⟨⟨g45, ⟨by decide, g44⟩⟩, ?_⟩
  refine (zq_dupR dX11_init_174).mpr ?_
  refine (zq_iconst dX11_init_175 (by decide)).mpr ?_
  refine (zq_iconst dX11_init_176 (by decide)).mpr ?_
  obtain ⟨g46, h⟩ := h
  refine (zq_iast dX11_init_177).mpr ⟨⟨g45, ⟨by decide, g46⟩⟩, ?_⟩
  refine (zq_dupR dX11_init_178).mpr ?_
  refine (zq_iconst dX11_init_179 (by decide)).mpr ?_
  refine (zq_iconst dX11_init_180 (by decide)).mpr ?_
  obtain ⟨g47, h⟩ := h
  refine (zq_iast dX11_init_181).mpr ⟨⟨g45, ⟨by decide, g47⟩⟩, ?_⟩
  refine (zq_dupR dX11_init_182).mpr ?_
  refine (zq_iconst dX11_init_183 (by decide)).mpr ?_
  refine (zq_iconst dX11_init_184 (by decide)).mpr ?_
  obtain ⟨g48, h⟩ := h
  refine (zq_iast dX11_init_185).mpr ⟨⟨g45, ⟨by decide, g48⟩⟩, ?_⟩
  refine (zq_dupR dX11_init_186).mpr ?_
  refine (zq_iconst dX11_init_187 (by decide)).mpr ?_
  refine (zq_iconst dX11_init_188 (by decide)).mpr ?_
  obtain ⟨g49, h⟩ := h
  refine (zq_iast dX11_init_189).mpr ⟨⟨g45, ⟨by decide, g49⟩⟩, ?_⟩
  refine (zq_dupR dX11_init_190).mpr ?_
  refine (zq_iconst dX11_init_191 (by decide)).mpr ?_
  refine (zq_iconst dX11_init_192 (by decide)).mpr ?_
  obtain ⟨g50, h⟩ := h
  refine (zq_iast dX11_init_193).mpr ⟨⟨g45, ⟨by decide, g50⟩⟩, ?_⟩
  obtain ⟨g51, h⟩ := h
  refine (zq_putR (f := 724) dX11_init_194 fl_11_64 (by decide) rfl rfl rfl).mpr ⟨g51, ?_⟩
  refine (zq_aload_n dX11_init_197 rfl).mpr ?_
  refine (zq_bipush dX11_init_198 (by decide)).mpr ?_
  refine (zq_newarray (kd := 20) dX11_init_200 rfl (by decide)).mpr ⟨by decide, ?_⟩
  obtain ⟨g53, h⟩ := h
  refine (zq_putR (f := 725) dX11_init_202 fl_11_67 (by decide) rfl rfl rfl).mpr ⟨g53, ?_⟩
  refine (zq_aload_n dX11_init_205 rfl).mpr ?_
  refine (zq_bipush dX11_init_206 (by decide)).mpr ?_
  refine (zq_newarray (kd := 20) dX11_init_208 rfl (by decide)).mpr ⟨by decide, ?_⟩
  refine (zq_dupR dX11_init_210).mpr ?_
  refine (zq_iconst dX11_init_211 (by decide)).mpr ?_
  refine (zq_iconst dX11_init_212 (by decide)).mpr ?_
  obtain ⟨g55, h⟩ := h
  obtain ⟨g56, h⟩ := h
  refine (zq_iast dX11_init_213).mpr ⟨⟨g56, ⟨by decide, g55⟩⟩, ?_⟩
  refine (zq_dupR dX11_init_214).mpr ?_
  refine (zq_iconst dX11_init_215 (by decide)).mpr ?_
  refine (zq_iconst dX11_init_216 (by decide)).mpr ?_
  obtain ⟨g57, h⟩ := h
  refine (zq_iast dX11_init_217).mpr ⟨⟨g56, ⟨by decide, g57⟩⟩, ?_⟩
  refine (zq_dupR dX11_init_218).mpr ?_
  refine (zq_iconst dX11_init_219 (by decide)).mpr ?_
  refine (zq_iconst dX11_init_220 (by decide)).mpr ?_
  obtain ⟨g58, h⟩ := h
  refine (zq_iast dX11_init_221).mpr ⟨⟨g56, ⟨by decide, g58⟩⟩, ?_⟩
  refine (zq_dupR dX11_init_222).mpr ?_
  refine (zq_iconst dX11_init_223 (by decide)).mpr ?_
  refine (zq_iconst dX11_init_224 (by decide)).mpr ?_
  obtain ⟨g59, h⟩ := h
  refine (zq_iast dX11_init_225).mpr ⟨⟨g56, ⟨by decide, g59⟩⟩, ?_⟩
  refine (zq_dupR dX11_init_226).mpr ?_
  refine (zq_iconst dX11_init_227 (by decide)).mpr ?_
  refine (zq_iconst dX11_init_228 (by decide)).mpr ?_
  obtain ⟨g60, h⟩ := h
  refine (zq_iast dX11_init_229).mpr ⟨⟨g56, ⟨by decide, g60⟩⟩, ?_⟩
  refine (zq_dupR dX11_init_230).mpr ?_
  refine (zq_iconst dX11_init_231 (by decide)).mpr ?_
  refine (zq_iconst dX11_init_232 (by decide)).mpr ?_
  obtain ⟨g61, h⟩ := h
  refine (zq_iast dX11_init_233).mpr ⟨⟨g56, ⟨by decide, g61⟩⟩, ?_⟩
  obtain ⟨g62, h⟩ := h
  refine (zq_putR (f := 726) dX11_init_234 fl_11_70 (by decide) rfl rfl rfl).mpr ⟨g62, ?_⟩
  refine (zq_aload_n dX11_init_237 rfl).mpr ?_
  refine (zq_bipush dX11_init_238 (by decide)).mpr ?_
  refine (zq_newarray (kd := 20) dX11_init_240 rfl (by decide)).mpr ⟨by decide, ?_⟩
  refine (zq_dupR dX11_init_242).mpr ?_
  refine (zq_iconst dX11_init_243 (by decide)).mpr ?_
  refine (zq_iconst dX11_init_244 (by decide)).mpr ?_
  obtain ⟨g64, h⟩ := h
  obtain ⟨g65, h⟩ := h
  refine (zq_iast dX11_init_245).mpr ⟨⟨g65, ⟨by decide, g64⟩⟩, ?_⟩
  refine (zq_dupR dX11_init_246).mpr ?_
  refine (zq_iconst dX11_init_247 (by decide)).mpr ?_
  refine (zq_iconst dX11_init_248 (by decide)).mpr ?_
  obtain ⟨g66, h⟩ := h
  refine (zq_iast dX11_init_249).mpr ⟨⟨g65, ⟨by decide, g66⟩⟩, ?_⟩
  refine (zq_dupR dX11_init_250).mpr ?_
  refine (zq_iconst dX11_init_251 (by decide)).mpr ?_
  refine (zq_iconst dX11_init_252 (by decide)).mpr ?_
  obtain ⟨g67, h⟩ := h
  refine (zq_iast dX11_init_253).mpr ⟨⟨g65, ⟨by decide, g67⟩⟩, ?_⟩
  refine (zq_dupR dX11_init_254).mpr ?_
  refine (zq_iconst dX11_init_255 (by decide)).mpr ?_
  refine (zq_iconst dX11_init_256 (by decide)).mpr ?_
  obtain ⟨g68, h⟩ := h
  refine (zq_iast dX11_init_257).mpr ⟨⟨g65, ⟨by decide, g68⟩⟩, ?_⟩
  refine (zq_dupR dX11_init_258).mpr ?_
  refine (zq_iconst dX11_init_259 (by decide)).mpr ?_
  refine (zq_iconst dX11_init_260 (by decide)).mpr ?_
  obtain ⟨g69, h⟩ := h
  refine (zq_iast dX11_init_261).mpr ⟨⟨g65, ⟨by decide, g69⟩⟩, ?_⟩
  refine (zq_dupR dX11_init_262).mpr ?_
  refine (zq_iconst dX11_init_263 (by decide)).mpr ?_
  refine (zq_iconst dX11_init_264 (by decide)).mpr ?_
  obtain ⟨g70, h⟩ := h
  refine (zq_iast dX11_init_265).mpr ⟨⟨g65, ⟨by decide, g70⟩⟩, ?_⟩
  obtain ⟨g71, h⟩ := h
  refine (zq_putR (f := 727) dX11_init_266 fl_11_73 (by decide) rfl rfl rfl).mpr ⟨g71, ?_⟩
  refine (zq_aload_n dX11_init_269 rfl).mpr ?_
  refine (zq_bipush dX11_init_270 (by decide)).mpr ?_
  refine (zq_newarray (kd := 21) dX11_init_272 rfl (by decide)).mpr ⟨by decide, ?_⟩
  obtain ⟨g73, h⟩ := h
  refine (zq_putR (f := 728) dX11_init_274 fl_11_76 (by decide) rfl rfl rfl).mpr ⟨g73, ?_⟩
  refine (zq_aload_n dX11_init_277 rfl).mpr ?_
  refine (zq_bipush dX11_init_278 (by decide)).mpr ?_
  refine (zq_newarray (kd := 21) dX11_init_280 rfl (by decide)).mpr ⟨by decide, ?_⟩
  obtain ⟨g75, h⟩ := h
  refine (zq_putR (f := 729) dX11_init_282 fl_11_79 (by decide) rfl rfl rfl).mpr ⟨g75, ?_⟩
  refine (zq_aload_n dX11_init_285 rfl).mpr ?_
  refine (zq_bipush dX11_init_286 (by decide)).mpr ?_
  refine (zq_newarray (kd := 20) dX11_init_288 rfl (by decide)).mpr ⟨by decide, ?_⟩
  obtain ⟨g77, h⟩ := h
  refine (zq_putR (f := 730) dX11_init_290 fl_11_82 (by decide) rfl rfl rfl).mpr ⟨g77, ?_⟩
  refine (zq_aload_n dX11_init_293 rfl).mpr ?_
  refine (zq_bipush dX11_init_294 (by decide)).mpr ?_
  refine (zq_newarray (kd := 20) dX11_init_296 rfl (by decide)).mpr ⟨by decide, ?_⟩
  obtain ⟨g79, h⟩ := h
  refine (zq_putR (f := 731) dX11_init_298 fl_11_85 (by decide) rfl rfl rfl).mpr ⟨g79, ?_⟩
  refine (zq_aload_n dX11_init_301 rfl).mpr ?_
  refine (zq_bipush dX11_init_302 (by decide)).mpr ?_
  refine (zq_newarray (kd := 20) dX11_init_304 rfl (by decide)).mpr ⟨by decide, ?_⟩
  obtain ⟨g81, h⟩ := h
  refine (zq_putR (f := 732) dX11_init_306 fl_11_88 (by decide) rfl rfl rfl).mpr ⟨g81, ?_⟩
  refine (zq_aload_n dX11_init_309 rfl).mpr ?_
  refine (zq_bipush dX11_init_310 (by decide)).mpr ?_
  refine (zq_newarray (kd := 20) dX11_init_312 rfl (by decide)).mpr ⟨by decide, ?_⟩
  obtain ⟨g83, h⟩ := h
  refine (zq_putR (f := 733) dX11_init_314 fl_11_91 (by decide) rfl rfl rfl).mpr ⟨g83, ?_⟩
  refine (zq_aload_n dX11_init_317 rfl).mpr ?_
  refine (zq_bipush dX11_init_318 (by decide)).mpr ?_
  refine (zq_newarray (kd := 20) dX11_init_320 rfl (by decide)).mpr ⟨by decide, ?_⟩
  obtain ⟨g85, h⟩ := h
  refine (zq_putR (f := 734) dX11_init_322 fl_11_94 (by decide) rfl rfl rfl).mpr ⟨g85, ?_⟩
  refine (zq_aload_n dX11_init_325 rfl).mpr ?_
  refine (zq_bipush dX11_init_326 (by decide)).mpr ?_
  refine (zq_newarray (kd := 20) dX11_init_328 rfl (by decide)).mpr ⟨by decide, ?_⟩
  obtain ⟨g87, h⟩ := h
  refine (zq_putR (f := 735) dX11_init_330 fl_11_97 (by decide) rfl rfl rfl).mpr ⟨g87, ?_⟩
  refine (zq_aload_n dX11_init_333 rfl).mpr ?_
  refine (zq_sipush dX11_init_334 (by decide)).mpr ?_
  refine (zq_newarray (kd := 20) dX11_init_337 rfl (by decide)).mpr ⟨by decide, ?_⟩
  obtain ⟨g89, h⟩ := h
  refine (zq_putR (f := 739) dX11_init_339 fl_11_100 (by decide) rfl rfl rfl).mpr ⟨g89, ?_⟩
  exact (zq_ret dX11_init_342 rfl).mpr h
theorem bX11_copy_0 {a0 : Nat} {a1 : Nat} (h : (20 ≤ mC m a0 ∧ mC m a0 < 43) ∧ (0 ≤ (wr (mN m a0)) ∧ 0 ≤ 0 ∧ 0 ≤ 0 ∧ 0 + (wr (mN m a0)) ≤ mN m a0 ∧ 0 + (wr (mN m a0)) ≤ mN m a1 ∧ mC m a0 = mC m a1 ∧ (mC m a0 = 20 ∨ (mC m a0 = 21 ∧ ∀ j : Nat, 0 ≤ j → j < 0 + (wr (mN m a0)) → mA m a0 j = 0 ∨ mA m a0 j = 1)) ∧ a0 ≠ a1) ∧ Q (.inl none) (cpA m a0 0 a1 0 (Int.toNat (wr (mN m a0))))) : zC xs xl (d + 1) 130 [zR a0, zR a1] m Q := by
  refine zk_130 ?_
  refine (zq_aload_n dX11_copy_0 rfl).mpr ?_
  refine (zq_iconst dX11_copy_1 (by decide)).mpr ?_
  refine (zq_aload_n dX11_copy_2 rfl).mpr ?_
  refine (zq_iconst dX11_copy_3 (by decide)).mpr ?_
  refine (zq_aload_n dX11_copy_4 rfl).mpr ?_
  obtain ⟨g1, h⟩ := h
  refine (zq_alen dX11_copy_5).mpr ⟨g1, ?_⟩
  obtain ⟨g2, h⟩ := h
  refine (zq_copy dX11_copy_6 mr_11_103).mpr ⟨⟨g2.1, g2.2.1, g2.2.2.1, g2.2.2.2.1, g2.2.2.2.2.1, g2.2.2.2.2.2.1, g2.2.2.2.2.2.2.1, g2.2.2.2.2.2.2.2, (Nat.le_of_ble_eq_true rfl)⟩, ?_⟩
  exact (zq_ret dX11_copy_9 rfl).mpr h
theorem bX11_copy__0 {a0 : Nat} {a1 : Nat} (h : (20 ≤ mC m a0 ∧ mC m a0 < 43) ∧ (0 ≤ (wr (mN m a0)) ∧ 0 ≤ 0 ∧ 0 ≤ 0 ∧ 0 + (wr (mN m a0)) ≤ mN m a0 ∧ 0 + (wr (mN m a0)) ≤ mN m a1 ∧ mC m a0 = mC m a1 ∧ (mC m a0 = 20 ∨ (mC m a0 = 21 ∧ ∀ j : Nat, 0 ≤ j → j < 0 + (wr (mN m a0)) → mA m a0 j = 0 ∨ mA m a0 j = 1)) ∧ a0 ≠ a1) ∧ Q (.inl none) (cpA m a0 0 a1 0 (Int.toNat (wr (mN m a0))))) : zC xs xl (d + 1) 131 [zR a0, zR a1] m Q := by
  refine zk_131 ?_
  refine (zq_aload_n dX11_copy__0 rfl).mpr ?_
  refine (zq_iconst dX11_copy__1 (by decide)).mpr ?_
  refine (zq_aload_n dX11_copy__2 rfl).mpr ?_
  refine (zq_iconst dX11_copy__3 (by decide)).mpr ?_
  refine (zq_aload_n dX11_copy__4 rfl).mpr ?_
  obtain ⟨g1, h⟩ := h
  refine (zq_alen dX11_copy__5).mpr ⟨g1, ?_⟩
  obtain ⟨g2, h⟩ := h
  refine (zq_copy dX11_copy__6 mr_11_103).mpr ⟨⟨g2.1, g2.2.1, g2.2.2.1, g2.2.2.2.1, g2.2.2.2.2.1, g2.2.2.2.2.2.1, g2.2.2.2.2.2.2.1, g2.2.2.2.2.2.2.2, (Nat.le_of_ble_eq_true rfl)⟩, ?_⟩
  exact (zq_ret dX11_copy__9 rfl).mpr h
end ZB4
