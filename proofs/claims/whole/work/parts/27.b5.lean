section ZB5
variable {xs : Nat → Int} {xl d : Nat} {m : zM} {Q : zRes → zM → Prop}
theorem bX11_add_0 {a0 : Nat} {a1 : Int} {a2 : Int} {a3 : Int} (h : (mC m a0 = 12) ∧ (0 ≤ (mI m 705 a0) ∧ (mI m 705 a0) < mN m (mR m 706 a0)) ∧ (mC m (mR m 706 a0) = 20) ∧ (0 ≤ (mI m 705 a0) ∧ (mI m 705 a0) < mN m (mR m 707 a0)) ∧ (mC m (mR m 707 a0) = 20) ∧ (0 ≤ (mI m 705 a0) ∧ (mI m 705 a0) < mN m (mR m 708 a0)) ∧ (mC m (mR m 708 a0) = 20) ∧ (0 ≤ (mI m 705 a0) ∧ (mI m 705 a0) < mN m (mR m 709 a0)) ∧ (mC m (mR m 709 a0) = 20) ∧ Q (.inl (some (zI (wr ((wr ((mI m 705 a0) + 1)) - 1))))) (sI (sA (sA (sA (sA m (mR m 706 a0) (Int.toNat (mI m 705 a0)) a1) (mR m 707 a0) (Int.toNat (mI m 705 a0)) a2) (mR m 708 a0) (Int.toNat (mI m 705 a0)) a3) (mR m 709 a0) (Int.toNat (mI m 705 a0)) 0) 705 a0 (wr ((mI m 705 a0) + 1)))) : zC xs xl (d + 1) 137 [zR a0, zI a1, zI a2, zI a3] m Q := by
  refine zk_137 ?_
  refine (zq_aload_n dX11_add_0 rfl).mpr ?_
  obtain ⟨g1, h⟩ := h
  refine (zq_getR2 (f := 706) (v := (mR m 706 a0)) dX11_add_1 fl_11_9 (by decide) rfl rfl (by first | rfl | simp only [zm_Is, zm_Rs, zm_As, zm_Os, zm_In0, zm_Rn0])).mpr ⟨g1, ?_⟩
  refine (zq_aload_n dX11_add_4 rfl).mpr ?_
  refine (zq_getI2 (f := 705) (v := (mI m 705 a0)) dX11_add_5 fl_11_113 (by decide) rfl rfl (by first | rfl | simp only [zm_Is, zm_Rs, zm_As, zm_Os, zm_In0, zm_Rn0])).mpr ⟨g1, ?_⟩
  refine (zq_iload_n dX11_add_8 rfl).mpr ?_
  obtain ⟨g2, h⟩ := h
  obtain ⟨g3, h⟩ := h
  refine (zq_iast dX11_add_9).mpr ⟨⟨g3, g2⟩, ?_⟩
  refine (zq_aload_n dX11_add_10 rfl).mpr ?_
  refine (zq_getR2 (f := 707) (v := (mR m 707 a0)) dX11_add_11 fl_11_15 (by decide) rfl rfl (by first | rfl | simp only [zm_Is, zm_Rs, zm_As, zm_Os, zm_In0, zm_Rn0])).mpr ⟨g1, ?_⟩
  refine (zq_aload_n dX11_add_14 rfl).mpr ?_
  refine (zq_getI2 (f := 705) (v := (mI m 705 a0)) dX11_add_15 fl_11_113 (by decide) rfl rfl (by first | rfl | simp only [zm_Is, zm_Rs, zm_As, zm_Os, zm_In0, zm_Rn0])).mpr ⟨g1, ?_⟩
  refine (zq_iload_n dX11_add_18 rfl).mpr ?_
  obtain ⟨g4, h⟩ := h
  obtain ⟨g5, h⟩ := h
  refine (zq_iast dX11_add_19).mpr ⟨⟨g5, g4⟩, ?_⟩
  refine (zq_aload_n dX11_add_20 rfl).mpr ?_
  refine (zq_getR2 (f := 708) (v := (mR m 708 a0)) dX11_add_21 fl_11_18 (by decide) rfl rfl (by first | rfl | simp only [zm_Is, zm_Rs, zm_As, zm_Os, zm_In0, zm_Rn0])).mpr ⟨g1, ?_⟩
  refine (zq_aload_n dX11_add_24 rfl).mpr ?_
  refine (zq_getI2 (f := 705) (v := (mI m 705 a0)) dX11_add_25 fl_11_113 (by decide) rfl rfl (by first | rfl | simp only [zm_Is, zm_Rs, zm_As, zm_Os, zm_In0, zm_Rn0])).mpr ⟨g1, ?_⟩
  refine (zq_iload_n dX11_add_28 rfl).mpr ?_
  obtain ⟨g6, h⟩ := h
  obtain ⟨g7, h⟩ := h
  refine (zq_iast dX11_add_29).mpr ⟨⟨g7, g6⟩, ?_⟩
  refine (zq_aload_n dX11_add_30 rfl).mpr ?_
  refine (zq_getR2 (f := 709) (v := (mR m 709 a0)) dX11_add_31 fl_11_21 (by decide) rfl rfl (by first | rfl | simp only [zm_Is, zm_Rs, zm_As, zm_Os, zm_In0, zm_Rn0])).mpr ⟨g1, ?_⟩
  refine (zq_aload_n dX11_add_34 rfl).mpr ?_
  refine (zq_getI2 (f := 705) (v := (mI m 705 a0)) dX11_add_35 fl_11_113 (by decide) rfl rfl (by first | rfl | simp only [zm_Is, zm_Rs, zm_As, zm_Os, zm_In0, zm_Rn0])).mpr ⟨g1, ?_⟩
  refine (zq_iconst (v := 0) dX11_add_38 (by decide)).mpr ?_
  obtain ⟨g8, h⟩ := h
  obtain ⟨g9, h⟩ := h
  refine (zq_iast dX11_add_39).mpr ⟨⟨g9, g8⟩, ?_⟩
  refine (zq_aload_n dX11_add_40 rfl).mpr ?_
  refine (zq_dupR dX11_add_41).mpr ?_
  refine (zq_getI2 (f := 705) (v := (mI m 705 a0)) dX11_add_42 fl_11_113 (by decide) rfl rfl (by first | rfl | simp only [zm_Is, zm_Rs, zm_As, zm_Os, zm_In0, zm_Rn0])).mpr ⟨g1, ?_⟩
  refine (zq_iconst (v := 1) dX11_add_45 (by decide)).mpr ?_
  refine (zq_iadd dX11_add_46).mpr ?_
  refine (zq_putI (f := 705) dX11_add_47 fl_11_113 (by decide) rfl rfl rfl).mpr ⟨g1, ?_⟩
  refine (zq_aload_n dX11_add_50 rfl).mpr ?_
  refine (zq_getI2 (f := 705) (v := (wr ((mI m 705 a0) + 1))) dX11_add_51 fl_11_113 (by decide) rfl rfl (by first | rfl | simp only [zm_Is, zm_Rs, zm_As, zm_Os, zm_In0, zm_Rn0])).mpr ⟨g1, ?_⟩
  refine (zq_iconst (v := 1) dX11_add_54 (by decide)).mpr ?_
  refine (zq_isub dX11_add_55).mpr ?_
  exact (zq_iret dX11_add_56 rfl).mpr ⟨trivial, h⟩
theorem bX11_addKnot_0 {a0 : Nat} {a1 : Int} {a2 : Int} (h : (mC m a0 = 12) ∧ (mC m (mR m 709 a0) = 20) ∧ (0 ≤ a1 ∧ a1 < mN m (mR m 709 a0)) ∧ (0 ≤ (wr ((wr (8 * a1)) + (mA m (mR m 709 a0) (Int.toNat a1)))) ∧ (wr ((wr (8 * a1)) + (mA m (mR m 709 a0) (Int.toNat a1)))) < mN m (mR m 710 a0)) ∧ (mC m (mR m 710 a0) = 20) ∧ Q (.inl none) (sA (sA m (mR m 710 a0) (Int.toNat (wr ((wr (8 * a1)) + (mA m (mR m 709 a0) (Int.toNat a1))))) a2) (mR m 709 a0) (Int.toNat a1) (wr ((mA (sA m (mR m 710 a0) (Int.toNat (wr ((wr (8 * a1)) + (mA m (mR m 709 a0) (Int.toNat a1))))) a2) (mR m 709 a0) (Int.toNat a1)) + 1)))) : zC xs xl (d + 1) 138 [zR a0, zI a1, zI a2] m Q := by
  refine zk_138 ?_
  refine (zq_aload_n dX11_addKnot_0 rfl).mpr ?_
  obtain ⟨g1, h⟩ := h
  refine (zq_getR2 (f := 710) (v := (mR m 710 a0)) dX11_addKnot_1 fl_11_24 (by decide) rfl rfl (by first | rfl | simp only [zm_Is, zm_Rs, zm_As, zm_Os, zm_In0, zm_Rn0])).mpr ⟨g1, ?_⟩
  refine (zq_bipush (v := 8) dX11_addKnot_4 (by decide)).mpr ?_
  refine (zq_iload_n dX11_addKnot_6 rfl).mpr ?_
  refine (zq_imul dX11_addKnot_7).mpr ?_
  refine (zq_aload_n dX11_addKnot_8 rfl).mpr ?_
  refine (zq_getR2 (f := 709) (v := (mR m 709 a0)) dX11_addKnot_9 fl_11_21 (by decide) rfl rfl (by first | rfl | simp only [zm_Is, zm_Rs, zm_As, zm_Os, zm_In0, zm_Rn0])).mpr ⟨g1, ?_⟩
  refine (zq_iload_n dX11_addKnot_12 rfl).mpr ?_
  obtain ⟨g2, h⟩ := h
  obtain ⟨g3, h⟩ := h
  refine (zq_iald2 (v := (mA m (mR m 709 a0) (Int.toNat a1))) dX11_addKnot_13 (by first | rfl | simp only [zm_Is, zm_Rs, zm_As, zm_Os, zm_In0, zm_Rn0])).mpr ⟨⟨g2, g3⟩, ?_⟩
  refine (zq_iadd dX11_addKnot_14).mpr ?_
  refine (zq_iload_n dX11_addKnot_15 rfl).mpr ?_
  obtain ⟨g4, h⟩ := h
  obtain ⟨g5, h⟩ := h
  refine (zq_iast dX11_addKnot_16).mpr ⟨⟨g5, g4⟩, ?_⟩
  refine (zq_aload_n dX11_addKnot_17 rfl).mpr ?_
  refine (zq_getR2 (f := 709) (v := (mR m 709 a0)) dX11_addKnot_18 fl_11_21 (by decide) rfl rfl (by first | rfl | simp only [zm_Is, zm_Rs, zm_As, zm_Os, zm_In0, zm_Rn0])).mpr ⟨g1, ?_⟩
  refine (zq_iload_n dX11_addKnot_21 rfl).mpr ?_
  refine (zq_dup2IR dX11_addKnot_22).mpr ?_
  refine (zq_iald2 (v := (mA (sA m (mR m 710 a0) (Int.toNat (wr ((wr (8 * a1)) + (mA m (mR m 709 a0) (Int.toNat a1))))) a2) (mR m 709 a0) (Int.toNat a1))) dX11_addKnot_23 (by first | rfl | simp only [zm_Is, zm_Rs, zm_As, zm_Os, zm_In0, zm_Rn0])).mpr ⟨⟨g2, g3⟩, ?_⟩
  refine (zq_iconst (v := 1) dX11_addKnot_24 (by decide)).mpr ?_
  refine (zq_iadd dX11_addKnot_25).mpr ?_
  refine (zq_iast dX11_addKnot_26).mpr ⟨⟨g2, g3⟩, ?_⟩
  exact (zq_ret dX11_addKnot_27 rfl).mpr h
theorem bX11_cutOut_0 {a0 : Nat} {a1 : Int} {a2 : Int} {a3 : Int} (h : (mC m a0 = 12) ∧ (mC m (mR m 707 a0) = 20) ∧ (0 ≤ a1 ∧ a1 < mN m (mR m 707 a0)) ∧ (((wr ((wr ((mA m (mR m 707 a0) (Int.toNat a1)) - a2)) - a3)) < 10 → zW xs xl d cX11_cutOut 11 (none) false [] 122 [zR a0, zI a1, zI a2, zI a3, zI (wr ((wr ((mA m (mR m 707 a0) (Int.toNat a1)) - a2)) - a3)), zU, zU, zU] [] (sI m 738 a0 (wr ((mI m 738 a0) + (wr ((wr ((mA m (mR m 707 a0) (Int.toNat a1)) - a2)) - a3))))) Q) ∧ (¬ ((wr ((wr ((mA m (mR m 707 a0) (Int.toNat a1)) - a2)) - a3)) < 10) → ((60 ≤ (mI m 705 a0) → zW xs xl d cX11_cutOut 11 (none) false [] 122 [zR a0, zI a1, zI a2, zI a3, zI (wr ((wr ((mA m (mR m 707 a0) (Int.toNat a1)) - a2)) - a3)), zU, zU, zU] [] (sI m 738 a0 (wr ((mI m 738 a0) + (wr ((wr ((mA m (mR m 707 a0) (Int.toNat a1)) - a2)) - a3))))) Q) ∧ (¬ (60 ≤ (mI m 705 a0)) → (mC m (mR m 706 a0) = 20) ∧ (0 ≤ a1 ∧ a1 < mN m (mR m 706 a0)) ∧ (mC m (mR m 708 a0) = 20) ∧ (0 ≤ a1 ∧ a1 < mN m (mR m 708 a0)) ∧ zC xs xl d 137 [zR a0, zI (mA m (mR m 706 a0) (Int.toNat a1)), zI (wr ((wr ((mA m (mR m 707 a0) (Int.toNat a1)) - a2)) - a3)), zI (mA m (mR m 708 a0) (Int.toNat a1))] m (fun r m8 => ∃ v9 : Int, r = .inl (some (zI v9)) ∧ zW xs xl d cX11_cutOut 11 (none) false [] 51 [zR a0, zI a1, zI a2, zI a3, zI (wr ((wr ((mA m (mR m 707 a0) (Int.toNat a1)) - a2)) - a3)), zI v9, zI 0, zU] [] m8 Q)))))) : zC xs xl (d + 1) 139 [zR a0, zI a1, zI a2, zI a3] m Q := by
  refine zk_139 ?_
  refine (zq_aload_n dX11_cutOut_0 rfl).mpr ?_
  obtain ⟨g1, h⟩ := h
  refine (zq_getR2 (f := 707) (v := (mR m 707 a0)) dX11_cutOut_1 fl_11_15 (by decide) rfl rfl (by first | rfl | simp only [zm_Is, zm_Rs, zm_As, zm_Os, zm_In0, zm_Rn0])).mpr ⟨g1, ?_⟩
  refine (zq_iload_n dX11_cutOut_4 rfl).mpr ?_
  obtain ⟨g2, h⟩ := h
  obtain ⟨g3, h⟩ := h
  refine (zq_iald2 (v := (mA m (mR m 707 a0) (Int.toNat a1))) dX11_cutOut_5 (by first | rfl | simp only [zm_Is, zm_Rs, zm_As, zm_Os, zm_In0, zm_Rn0])).mpr ⟨⟨g2, g3⟩, ?_⟩
  refine (zq_iload_n dX11_cutOut_6 rfl).mpr ?_
  refine (zq_isub dX11_cutOut_7).mpr ?_
  refine (zq_iload_n dX11_cutOut_8 rfl).mpr ?_
  refine (zq_isub dX11_cutOut_9).mpr ?_
  refine (zq_istore (l := [zR a0, zI a1, zI a2, zI a3, zI (wr ((wr ((mA m (mR m 707 a0) (Int.toNat a1)) - a2)) - a3)), zU, zU, zU]) dX11_cutOut_10 (Nat.le_of_ble_eq_true rfl) rfl).mpr ?_
  refine (zq_iload dX11_cutOut_12 rfl).mpr ?_
  refine (zq_bipush (v := 10) dX11_cutOut_14 (by decide)).mpr ?_
  refine (zq_icmp_lt (t := 111) dX11_cutOut_16 rfl).mpr ⟨fun c => ?_, fun c => ?_⟩
  · replace h := h.1 c
    refine (zq_aload_n dX11_cutOut_111 rfl).mpr ?_
    refine (zq_dupR dX11_cutOut_112).mpr ?_
    refine (zq_getI2 (f := 738) (v := (mI m 738 a0)) dX11_cutOut_113 fl_11_125 (by decide) rfl rfl (by first | rfl | simp only [zm_Is, zm_Rs, zm_As, zm_Os, zm_In0, zm_Rn0])).mpr ⟨g1, ?_⟩
    refine (zq_iload dX11_cutOut_116 rfl).mpr ?_
    refine (zq_iadd dX11_cutOut_118).mpr ?_
    refine (zq_putI (f := 738) dX11_cutOut_119 fl_11_125 (by decide) rfl rfl rfl).mpr ⟨g1, ?_⟩
    exact h
  · replace h := h.2 c
    refine (zq_aload_n dX11_cutOut_19 rfl).mpr ?_
    refine (zq_getI2 (f := 705) (v := (mI m 705 a0)) dX11_cutOut_20 fl_11_113 (by decide) rfl rfl (by first | rfl | simp only [zm_Is, zm_Rs, zm_As, zm_Os, zm_In0, zm_Rn0])).mpr ⟨g1, ?_⟩
    refine (zq_bipush (v := 60) dX11_cutOut_23 (by decide)).mpr ?_
    refine (zq_icmp_ge (t := 111) dX11_cutOut_25 rfl).mpr ⟨fun c => ?_, fun c => ?_⟩
    · replace h := h.1 c
      refine (zq_aload_n dX11_cutOut_111 rfl).mpr ?_
      refine (zq_dupR dX11_cutOut_112).mpr ?_
      refine (zq_getI2 (f := 738) (v := (mI m 738 a0)) dX11_cutOut_113 fl_11_125 (by decide) rfl rfl (by first | rfl | simp only [zm_Is, zm_Rs, zm_As, zm_Os, zm_In0, zm_Rn0])).mpr ⟨g1, ?_⟩
      refine (zq_iload dX11_cutOut_116 rfl).mpr ?_
      refine (zq_iadd dX11_cutOut_118).mpr ?_
      refine (zq_putI (f := 738) dX11_cutOut_119 fl_11_125 (by decide) rfl rfl rfl).mpr ⟨g1, ?_⟩
      exact h
    · replace h := h.2 c
      refine (zq_aload_n dX11_cutOut_28 rfl).mpr ?_
      refine (zq_aload_n dX11_cutOut_29 rfl).mpr ?_
      refine (zq_getR2 (f := 706) (v := (mR m 706 a0)) dX11_cutOut_30 fl_11_9 (by decide) rfl rfl (by first | rfl | simp only [zm_Is, zm_Rs, zm_As, zm_Os, zm_In0, zm_Rn0])).mpr ⟨g1, ?_⟩
      refine (zq_iload_n dX11_cutOut_33 rfl).mpr ?_
      obtain ⟨g4, h⟩ := h
      obtain ⟨g5, h⟩ := h
      refine (zq_iald2 (v := (mA m (mR m 706 a0) (Int.toNat a1))) dX11_cutOut_34 (by first | rfl | simp only [zm_Is, zm_Rs, zm_As, zm_Os, zm_In0, zm_Rn0])).mpr ⟨⟨g4, g5⟩, ?_⟩
      refine (zq_iload dX11_cutOut_35 rfl).mpr ?_
      refine (zq_aload_n dX11_cutOut_37 rfl).mpr ?_
      refine (zq_getR2 (f := 708) (v := (mR m 708 a0)) dX11_cutOut_38 fl_11_18 (by decide) rfl rfl (by first | rfl | simp only [zm_Is, zm_Rs, zm_As, zm_Os, zm_In0, zm_Rn0])).mpr ⟨g1, ?_⟩
      refine (zq_iload_n dX11_cutOut_41 rfl).mpr ?_
      obtain ⟨g6, h⟩ := h
      obtain ⟨g7, h⟩ := h
      refine (zq_iald2 (v := (mA m (mR m 708 a0) (Int.toNat a1))) dX11_cutOut_42 (by first | rfl | simp only [zm_Is, zm_Rs, zm_As, zm_Os, zm_In0, zm_Rn0])).mpr ⟨⟨g6, g7⟩, ?_⟩
      refine zq_virtualI (n := 3) dX11_cutOut_43 mr_11_148 zn_137 rfl rfl rfl (zrcv_R zo_137 (by decide) g1) (Nat.le_of_ble_eq_true rfl) ?_
      refine h.mono (fun r m8 h => ?_)
      obtain ⟨v9, rfl, h⟩ := h
      refine ⟨_, rfl, ?_⟩
      refine (zq_istore (l := [zR a0, zI a1, zI a2, zI a3, zI (wr ((wr ((mA m (mR m 707 a0) (Int.toNat a1)) - a2)) - a3)), zI v9, zU, zU]) dX11_cutOut_46 (Nat.le_of_ble_eq_true rfl) rfl).mpr ?_
      refine (zq_iconst (v := 0) dX11_cutOut_48 (by decide)).mpr ?_
      refine (zq_istore (l := [zR a0, zI a1, zI a2, zI a3, zI (wr ((wr ((mA m (mR m 707 a0) (Int.toNat a1)) - a2)) - a3)), zI v9, zI 0, zU]) dX11_cutOut_49 (Nat.le_of_ble_eq_true rfl) rfl).mpr ?_
      exact h
theorem bX11_cutOut_51 {a0 : Nat} {a1 : Int} {a2 : Int} {a3 : Int} {a4 : Int} {a5 : Int} {a6 : Int} {a7 : zV} (h : (mC m a0 = 12) ∧ (mC m (mR m 709 a0) = 20) ∧ (0 ≤ a1 ∧ a1 < mN m (mR m 709 a0)) ∧ (((mA m (mR m 709 a0) (Int.toNat a1)) ≤ a6 → zW xs xl d cX11_cutOut 11 (none) false [] 122 [zR a0, zI a1, zI a2, zI a3, zI a4, zI a5, zI a6, a7] [] m Q) ∧ (¬ ((mA m (mR m 709 a0) (Int.toNat a1)) ≤ a6) → (mC m (mR m 710 a0) = 20) ∧ (0 ≤ (wr ((wr (8 * a1)) + a6)) ∧ (wr ((wr (8 * a1)) + a6)) < mN m (mR m 710 a0)) ∧ (((mA m (mR m 710 a0) (Int.toNat (wr ((wr (8 * a1)) + a6)))) < (wr (a2 + a3)) → zW xs xl d cX11_cutOut 11 (none) false [] 51 [zR a0, zI a1, zI a2, zI a3, zI a4, zI a5, zI (wr (a6 + 1)), a7] [] m Q) ∧ (¬ ((mA m (mR m 710 a0) (Int.toNat (wr ((wr (8 * a1)) + a6)))) < (wr (a2 + a3))) → zC xs xl d 138 [zR a0, zI a5, zI (wr ((wr ((mA m (mR m 710 a0) (Int.toNat (wr ((wr (8 * a1)) + a6)))) - a2)) - a3))] m (fun r m6 => r = .inl none ∧ zW xs xl d cX11_cutOut 11 (none) false [] 51 [zR a0, zI a1, zI a2, zI a3, zI a4, zI a5, zI (wr (a6 + 1)), a7] [] m6 Q)))))) : zW xs xl d cX11_cutOut 11 (none) false [] 51 [zR a0, zI a1, zI a2, zI a3, zI a4, zI a5, zI a6, a7] [] m Q := by
  refine (zq_iload dX11_cutOut_51 rfl).mpr ?_
  refine (zq_aload_n dX11_cutOut_53 rfl).mpr ?_
  obtain ⟨g1, h⟩ := h
  refine (zq_getR2 (f := 709) (v := (mR m 709 a0)) dX11_cutOut_54 fl_11_21 (by decide) rfl rfl (by first | rfl | simp only [zm_Is, zm_Rs, zm_As, zm_Os, zm_In0, zm_Rn0])).mpr ⟨g1, ?_⟩
  refine (zq_iload_n dX11_cutOut_57 rfl).mpr ?_
  obtain ⟨g2, h⟩ := h
  obtain ⟨g3, h⟩ := h
  refine (zq_iald2 (v := (mA m (mR m 709 a0) (Int.toNat a1))) dX11_cutOut_58 (by first | rfl | simp only [zm_Is, zm_Rs, zm_As, zm_Os, zm_In0, zm_Rn0])).mpr ⟨⟨g2, g3⟩, ?_⟩
  refine (zq_icmp_ge (t := 108) dX11_cutOut_59 rfl).mpr ⟨fun c => ?_, fun c => ?_⟩
  · replace h := h.1 c
    refine (zq_goto (t := 122) dX11_cutOut_108 rfl).mpr ?_
    exact h
  · replace h := h.2 c
    refine (zq_aload_n dX11_cutOut_62 rfl).mpr ?_
    refine (zq_getR2 (f := 710) (v := (mR m 710 a0)) dX11_cutOut_63 fl_11_24 (by decide) rfl rfl (by first | rfl | simp only [zm_Is, zm_Rs, zm_As, zm_Os, zm_In0, zm_Rn0])).mpr ⟨g1, ?_⟩
    refine (zq_bipush (v := 8) dX11_cutOut_66 (by decide)).mpr ?_
    refine (zq_iload_n dX11_cutOut_68 rfl).mpr ?_
    refine (zq_imul dX11_cutOut_69).mpr ?_
    refine (zq_iload dX11_cutOut_70 rfl).mpr ?_
    refine (zq_iadd dX11_cutOut_72).mpr ?_
    obtain ⟨g4, h⟩ := h
    obtain ⟨g5, h⟩ := h
    refine (zq_iald2 (v := (mA m (mR m 710 a0) (Int.toNat (wr ((wr (8 * a1)) + a6))))) dX11_cutOut_73 (by first | rfl | simp only [zm_Is, zm_Rs, zm_As, zm_Os, zm_In0, zm_Rn0])).mpr ⟨⟨g4, g5⟩, ?_⟩
    refine (zq_iload_n dX11_cutOut_74 rfl).mpr ?_
    refine (zq_iload_n dX11_cutOut_75 rfl).mpr ?_
    refine (zq_iadd dX11_cutOut_76).mpr ?_
    refine (zq_icmp_lt (t := 102) dX11_cutOut_77 rfl).mpr ⟨fun c => ?_, fun c => ?_⟩
    · replace h := h.1 c
      refine (zq_iinc (l := [zR a0, zI a1, zI a2, zI a3, zI a4, zI a5, zI (wr (a6 + 1)), a7]) dX11_cutOut_102 rfl rfl).mpr ?_
      refine (zq_goto (t := 51) dX11_cutOut_105 rfl).mpr ?_
      exact h
    · replace h := h.2 c
      refine (zq_aload_n dX11_cutOut_80 rfl).mpr ?_
      refine (zq_iload dX11_cutOut_81 rfl).mpr ?_
      refine (zq_aload_n dX11_cutOut_83 rfl).mpr ?_
      refine (zq_getR2 (f := 710) (v := (mR m 710 a0)) dX11_cutOut_84 fl_11_24 (by decide) rfl rfl (by first | rfl | simp only [zm_Is, zm_Rs, zm_As, zm_Os, zm_In0, zm_Rn0])).mpr ⟨g1, ?_⟩
      refine (zq_bipush (v := 8) dX11_cutOut_87 (by decide)).mpr ?_
      refine (zq_iload_n dX11_cutOut_89 rfl).mpr ?_
      refine (zq_imul dX11_cutOut_90).mpr ?_
      refine (zq_iload dX11_cutOut_91 rfl).mpr ?_
      refine (zq_iadd dX11_cutOut_93).mpr ?_
      refine (zq_iald2 (v := (mA m (mR m 710 a0) (Int.toNat (wr ((wr (8 * a1)) + a6))))) dX11_cutOut_94 (by first | rfl | simp only [zm_Is, zm_Rs, zm_As, zm_Os, zm_In0, zm_Rn0])).mpr ⟨⟨g4, g5⟩, ?_⟩
      refine (zq_iload_n dX11_cutOut_95 rfl).mpr ?_
      refine (zq_isub dX11_cutOut_96).mpr ?_
      refine (zq_iload_n dX11_cutOut_97 rfl).mpr ?_
      refine (zq_isub dX11_cutOut_98).mpr ?_
      refine zq_virtualV (n := 2) dX11_cutOut_99 mr_11_152 zn_138 rfl rfl rfl (zrcv_R zo_138 (by decide) g1) (Nat.le_of_ble_eq_true rfl) ?_
      refine h.mono (fun r m6 h => ?_)
      obtain ⟨rfl, h⟩ := h
      refine ⟨rfl, ?_⟩
      refine (zq_iinc (l := [zR a0, zI a1, zI a2, zI a3, zI a4, zI a5, zI (wr (a6 + 1)), a7]) dX11_cutOut_102 rfl rfl).mpr ?_
      refine (zq_goto (t := 51) dX11_cutOut_105 rfl).mpr ?_
      exact h
theorem bX11_cutOut_122 {a0 : Nat} {a1 : Int} {a2 : Int} {a3 : Int} {a4 : Int} {a5 : zV} {a6 : zV} {a7 : zV} (h : (mC m a0 = 12) ∧ (0 ≤ a1 ∧ a1 < mN m (mR m 707 a0)) ∧ (mC m (mR m 707 a0) = 20) ∧ ((10 ≤ a2 → zW xs xl d cX11_cutOut 11 (none) false [] 158 [zR a0, zI a1, zI a2, zI a3, zI a4, zI 0, zI 0, a7] [] (sA m (mR m 707 a0) (Int.toNat a1) a2) Q) ∧ (¬ (10 ≤ a2) → zW xs xl d cX11_cutOut 11 (none) false [] 158 [zR a0, zI a1, zI a2, zI a3, zI a4, zI 0, zI 0, a7] [] (sA (sI (sA m (mR m 707 a0) (Int.toNat a1) a2) 738 a0 (wr ((mI m 738 a0) + a2))) (mR m 707 a0) (Int.toNat a1) 0) Q))) : zW xs xl d cX11_cutOut 11 (none) false [] 122 [zR a0, zI a1, zI a2, zI a3, zI a4, a5, a6, a7] [] m Q := by
  refine (zq_aload_n dX11_cutOut_122 rfl).mpr ?_
  obtain ⟨g1, h⟩ := h
  refine (zq_getR2 (f := 707) (v := (mR m 707 a0)) dX11_cutOut_123 fl_11_15 (by decide) rfl rfl (by first | rfl | simp only [zm_Is, zm_Rs, zm_As, zm_Os, zm_In0, zm_Rn0])).mpr ⟨g1, ?_⟩
  refine (zq_iload_n dX11_cutOut_126 rfl).mpr ?_
  refine (zq_iload_n dX11_cutOut_127 rfl).mpr ?_
  obtain ⟨g2, h⟩ := h
  obtain ⟨g3, h⟩ := h
  refine (zq_iast dX11_cutOut_128).mpr ⟨⟨g3, g2⟩, ?_⟩
  refine (zq_iload_n dX11_cutOut_129 rfl).mpr ?_
  refine (zq_bipush (v := 10) dX11_cutOut_130 (by decide)).mpr ?_
  refine (zq_icmp_ge (t := 152) dX11_cutOut_132 rfl).mpr ⟨fun c => ?_, fun c => ?_⟩
  · replace h := h.1 c
    refine (zq_iconst (v := 0) dX11_cutOut_152 (by decide)).mpr ?_
    refine (zq_istore (l := [zR a0, zI a1, zI a2, zI a3, zI a4, zI 0, a6, a7]) dX11_cutOut_153 (Nat.le_of_ble_eq_true rfl) rfl).mpr ?_
    refine (zq_iconst (v := 0) dX11_cutOut_155 (by decide)).mpr ?_
    refine (zq_istore (l := [zR a0, zI a1, zI a2, zI a3, zI a4, zI 0, zI 0, a7]) dX11_cutOut_156 (Nat.le_of_ble_eq_true rfl) rfl).mpr ?_
    exact h
  · replace h := h.2 c
    refine (zq_aload_n dX11_cutOut_135 rfl).mpr ?_
    refine (zq_dupR dX11_cutOut_136).mpr ?_
    refine (zq_getI2 (f := 738) (v := (mI m 738 a0)) dX11_cutOut_137 fl_11_125 (by decide) rfl rfl (by first | rfl | simp only [zm_Is, zm_Rs, zm_As, zm_Os, zm_In0, zm_Rn0])).mpr ⟨g1, ?_⟩
    refine (zq_iload_n dX11_cutOut_140 rfl).mpr ?_
    refine (zq_iadd dX11_cutOut_141).mpr ?_
    refine (zq_putI (f := 738) dX11_cutOut_142 fl_11_125 (by decide) rfl rfl rfl).mpr ⟨g1, ?_⟩
    refine (zq_aload_n dX11_cutOut_145 rfl).mpr ?_
    refine (zq_getR2 (f := 707) (v := (mR m 707 a0)) dX11_cutOut_146 fl_11_15 (by decide) rfl rfl (by first | rfl | simp only [zm_Is, zm_Rs, zm_As, zm_Os, zm_In0, zm_Rn0])).mpr ⟨g1, ?_⟩
    refine (zq_iload_n dX11_cutOut_149 rfl).mpr ?_
    refine (zq_iconst (v := 0) dX11_cutOut_150 (by decide)).mpr ?_
    refine (zq_iast dX11_cutOut_151).mpr ⟨⟨g3, g2⟩, ?_⟩
    refine (zq_iconst (v := 0) dX11_cutOut_152 (by decide)).mpr ?_
    refine (zq_istore (l := [zR a0, zI a1, zI a2, zI a3, zI a4, zI 0, a6, a7]) dX11_cutOut_153 (Nat.le_of_ble_eq_true rfl) rfl).mpr ?_
    refine (zq_iconst (v := 0) dX11_cutOut_155 (by decide)).mpr ?_
    refine (zq_istore (l := [zR a0, zI a1, zI a2, zI a3, zI a4, zI 0, zI 0, a7]) dX11_cutOut_156 (Nat.le_of_ble_eq_true rfl) rfl).mpr ?_
    exact h
theorem bX11_cutOut_158 {a0 : Nat} {a1 : Int} {a2 : Int} {a3 : Int} {a4 : Int} {a5 : Int} {a6 : Int} {a7 : zV} (h : (mC m a0 = 12) ∧ (mC m (mR m 709 a0) = 20) ∧ (0 ≤ a1 ∧ a1 < mN m (mR m 709 a0)) ∧ (((mA m (mR m 709 a0) (Int.toNat a1)) ≤ a6 → Q (.inl none) (sA m (mR m 709 a0) (Int.toNat a1) a5)) ∧ (¬ ((mA m (mR m 709 a0) (Int.toNat a1)) ≤ a6) → (mC m (mR m 710 a0) = 20) ∧ (0 ≤ (wr ((wr (8 * a1)) + a6)) ∧ (wr ((wr (8 * a1)) + a6)) < mN m (mR m 710 a0)) ∧ (mC m (mR m 707 a0) = 20) ∧ (0 ≤ a1 ∧ a1 < mN m (mR m 707 a0)) ∧ (((mA m (mR m 710 a0) (Int.toNat (wr ((wr (8 * a1)) + a6)))) < (mA m (mR m 707 a0) (Int.toNat a1)) → (0 ≤ (wr ((wr (8 * a1)) + a5)) ∧ (wr ((wr (8 * a1)) + a5)) < mN m (mR m 710 a0)) ∧ zW xs xl d cX11_cutOut 11 (none) false [] 158 [zR a0, zI a1, zI a2, zI a3, zI a4, zI (wr (a5 + 1)), zI (wr (a6 + 1)), zI (mA m (mR m 710 a0) (Int.toNat (wr ((wr (8 * a1)) + a6))))] [] (sA m (mR m 710 a0) (Int.toNat (wr ((wr (8 * a1)) + a5))) (mA m (mR m 710 a0) (Int.toNat (wr ((wr (8 * a1)) + a6))))) Q) ∧ (¬ ((mA m (mR m 710 a0) (Int.toNat (wr ((wr (8 * a1)) + a6)))) < (mA m (mR m 707 a0) (Int.toNat a1))) → zW xs xl d cX11_cutOut 11 (none) false [] 158 [zR a0, zI a1, zI a2, zI a3, zI a4, zI a5, zI (wr (a6 + 1)), zI (mA m (mR m 710 a0) (Int.toNat (wr ((wr (8 * a1)) + a6))))] [] m Q))))) : zW xs xl d cX11_cutOut 11 (none) false [] 158 [zR a0, zI a1, zI a2, zI a3, zI a4, zI a5, zI a6, a7] [] m Q := by
  refine (zq_iload dX11_cutOut_158 rfl).mpr ?_
  refine (zq_aload_n dX11_cutOut_160 rfl).mpr ?_
  obtain ⟨g1, h⟩ := h
  refine (zq_getR2 (f := 709) (v := (mR m 709 a0)) dX11_cutOut_161 fl_11_21 (by decide) rfl rfl (by first | rfl | simp only [zm_Is, zm_Rs, zm_As, zm_Os, zm_In0, zm_Rn0])).mpr ⟨g1, ?_⟩
  refine (zq_iload_n dX11_cutOut_164 rfl).mpr ?_
  obtain ⟨g2, h⟩ := h
  obtain ⟨g3, h⟩ := h
  refine (zq_iald2 (v := (mA m (mR m 709 a0) (Int.toNat a1))) dX11_cutOut_165 (by first | rfl | simp only [zm_Is, zm_Rs, zm_As, zm_Os, zm_In0, zm_Rn0])).mpr ⟨⟨g2, g3⟩, ?_⟩
  refine (zq_icmp_ge (t := 220) dX11_cutOut_166 rfl).mpr ⟨fun c => ?_, fun c => ?_⟩
  · replace h := h.1 c
    refine (zq_aload_n dX11_cutOut_220 rfl).mpr ?_
    refine (zq_getR2 (f := 709) (v := (mR m 709 a0)) dX11_cutOut_221 fl_11_21 (by decide) rfl rfl (by first | rfl | simp only [zm_Is, zm_Rs, zm_As, zm_Os, zm_In0, zm_Rn0])).mpr ⟨g1, ?_⟩
    refine (zq_iload_n dX11_cutOut_224 rfl).mpr ?_
    refine (zq_iload dX11_cutOut_225 rfl).mpr ?_
    refine (zq_iast dX11_cutOut_227).mpr ⟨⟨g2, g3⟩, ?_⟩
    exact (zq_ret dX11_cutOut_228 rfl).mpr h
  · replace h := h.2 c
    refine (zq_aload_n dX11_cutOut_169 rfl).mpr ?_
    refine (zq_getR2 (f := 710) (v := (mR m 710 a0)) dX11_cutOut_170 fl_11_24 (by decide) rfl rfl (by first | rfl | simp only [zm_Is, zm_Rs, zm_As, zm_Os, zm_In0, zm_Rn0])).mpr ⟨g1, ?_⟩
    refine (zq_bipush (v := 8) dX11_cutOut_173 (by decide)).mpr ?_
    refine (zq_iload_n dX11_cutOut_175 rfl).mpr ?_
    refine (zq_imul dX11_cutOut_176).mpr ?_
    refine (zq_iload dX11_cutOut_177 rfl).mpr ?_
    refine (zq_iadd dX11_cutOut_179).mpr ?_
    obtain ⟨g4, h⟩ := h
    obtain ⟨g5, h⟩ := h
    refine (zq_iald2 (v := (mA m (mR m 710 a0) (Int.toNat (wr ((wr (8 * a1)) + a6))))) dX11_cutOut_180 (by first | rfl | simp only [zm_Is, zm_Rs, zm_As, zm_Os, zm_In0, zm_Rn0])).mpr ⟨⟨g4, g5⟩, ?_⟩
    refine (zq_istore (l := [zR a0, zI a1, zI a2, zI a3, zI a4, zI a5, zI a6, zI (mA m (mR m 710 a0) (Int.toNat (wr ((wr (8 * a1)) + a6))))]) dX11_cutOut_181 (Nat.le_of_ble_eq_true rfl) rfl).mpr ?_
    refine (zq_iload dX11_cutOut_183 rfl).mpr ?_
    refine (zq_aload_n dX11_cutOut_185 rfl).mpr ?_
    refine (zq_getR2 (f := 707) (v := (mR m 707 a0)) dX11_cutOut_186 fl_11_15 (by decide) rfl rfl (by first | rfl | simp only [zm_Is, zm_Rs, zm_As, zm_Os, zm_In0, zm_Rn0])).mpr ⟨g1, ?_⟩
    refine (zq_iload_n dX11_cutOut_189 rfl).mpr ?_
    obtain ⟨g6, h⟩ := h
    obtain ⟨g7, h⟩ := h
    refine (zq_iald2 (v := (mA m (mR m 707 a0) (Int.toNat a1))) dX11_cutOut_190 (by first | rfl | simp only [zm_Is, zm_Rs, zm_As, zm_Os, zm_In0, zm_Rn0])).mpr ⟨⟨g6, g7⟩, ?_⟩
    refine (zq_icmp_lt (t := 197) dX11_cutOut_191 rfl).mpr ⟨fun c => ?_, fun c => ?_⟩
    · replace h := h.1 c
      refine (zq_aload_n dX11_cutOut_197 rfl).mpr ?_
      refine (zq_getR2 (f := 710) (v := (mR m 710 a0)) dX11_cutOut_198 fl_11_24 (by decide) rfl rfl (by first | rfl | simp only [zm_Is, zm_Rs, zm_As, zm_Os, zm_In0, zm_Rn0])).mpr ⟨g1, ?_⟩
      refine (zq_bipush (v := 8) dX11_cutOut_201 (by decide)).mpr ?_
      refine (zq_iload_n dX11_cutOut_203 rfl).mpr ?_
      refine (zq_imul dX11_cutOut_204).mpr ?_
      refine (zq_iload dX11_cutOut_205 rfl).mpr ?_
      refine (zq_iadd dX11_cutOut_207).mpr ?_
      refine (zq_iload dX11_cutOut_208 rfl).mpr ?_
      obtain ⟨g8, h⟩ := h
      refine (zq_iast dX11_cutOut_210).mpr ⟨⟨g4, g8⟩, ?_⟩
      refine (zq_iinc (l := [zR a0, zI a1, zI a2, zI a3, zI a4, zI (wr (a5 + 1)), zI a6, zI (mA m (mR m 710 a0) (Int.toNat (wr ((wr (8 * a1)) + a6))))]) dX11_cutOut_211 rfl rfl).mpr ?_
      refine (zq_iinc (l := [zR a0, zI a1, zI a2, zI a3, zI a4, zI (wr (a5 + 1)), zI (wr (a6 + 1)), zI (mA m (mR m 710 a0) (Int.toNat (wr ((wr (8 * a1)) + a6))))]) dX11_cutOut_214 rfl rfl).mpr ?_
      refine (zq_goto (t := 158) dX11_cutOut_217 rfl).mpr ?_
      exact h
    · replace h := h.2 c
      refine (zq_goto (t := 214) dX11_cutOut_194 rfl).mpr ?_
      refine (zq_iinc (l := [zR a0, zI a1, zI a2, zI a3, zI a4, zI a5, zI (wr (a6 + 1)), zI (mA m (mR m 710 a0) (Int.toNat (wr ((wr (8 * a1)) + a6))))]) dX11_cutOut_214 rfl rfl).mpr ?_
      refine (zq_goto (t := 158) dX11_cutOut_217 rfl).mpr ?_
      exact h
theorem bX11_free_0 {a0 : Nat} {a1 : Int} (h : (mC m a0 = 12) ∧ (mC m (mR m 711 a0) = 20) ∧ (0 ≤ a1 ∧ a1 < mN m (mR m 711 a0)) ∧ zW xs xl d cX11_free 11 (some .int) false [] 9 [zR a0, zI a1, zI (mA m (mR m 711 a0) (Int.toNat a1)), zI 0] [] m Q) : zC xs xl (d + 1) 140 [zR a0, zI a1] m Q := by
  refine zk_140 ?_
  refine (zq_aload_n dX11_free_0 rfl).mpr ?_
  obtain ⟨g1, h⟩ := h
  refine (zq_getR2 (f := 711) (v := (mR m 711 a0)) dX11_free_1 fl_11_27 (by decide) rfl rfl (by first | rfl | simp only [zm_Is, zm_Rs, zm_As, zm_Os, zm_In0, zm_Rn0])).mpr ⟨g1, ?_⟩
  refine (zq_iload_n dX11_free_4 rfl).mpr ?_
  obtain ⟨g2, h⟩ := h
  obtain ⟨g3, h⟩ := h
  refine (zq_iald2 (v := (mA m (mR m 711 a0) (Int.toNat a1))) dX11_free_5 (by first | rfl | simp only [zm_Is, zm_Rs, zm_As, zm_Os, zm_In0, zm_Rn0])).mpr ⟨⟨g2, g3⟩, ?_⟩
  refine (zq_istore_n (l := [zR a0, zI a1, zI (mA m (mR m 711 a0) (Int.toNat a1)), zU]) dX11_free_6 (Nat.le_of_ble_eq_true rfl) rfl).mpr ?_
  refine (zq_iconst (v := 0) dX11_free_7 (by decide)).mpr ?_
  refine (zq_istore_n (l := [zR a0, zI a1, zI (mA m (mR m 711 a0) (Int.toNat a1)), zI 0]) dX11_free_8 (Nat.le_of_ble_eq_true rfl) rfl).mpr ?_
  exact h
theorem bX11_free_9 {a0 : Nat} {a1 : Int} {a2 : Int} {a3 : Int} (h : (mC m a0 = 12) ∧ (((mI m 712 a0) ≤ a3 → Q (.inl (some (zI a2))) m) ∧ (¬ ((mI m 712 a0) ≤ a3) → (mC m (mR m 725 a0) = 20) ∧ (0 ≤ a3 ∧ a3 < mN m (mR m 725 a0)) ∧ zW xs xl d cX11_free 11 (some .int) false [] 9 [zR a0, zI a1, zI (wr (a2 - (bAnd (bShr (mA m (mR m 725 a0) (Int.toNat a3)) a1) 1))), zI (wr (a3 + 1))] [] m Q))) : zW xs xl d cX11_free 11 (some .int) false [] 9 [zR a0, zI a1, zI a2, zI a3] [] m Q := by
  refine (zq_iload_n dX11_free_9 rfl).mpr ?_
  refine (zq_aload_n dX11_free_10 rfl).mpr ?_
  obtain ⟨g1, h⟩ := h
  refine (zq_getI2 (f := 712) (v := (mI m 712 a0)) dX11_free_11 fl_11_116 (by decide) rfl rfl (by first | rfl | simp only [zm_Is, zm_Rs, zm_As, zm_Os, zm_In0, zm_Rn0])).mpr ⟨g1, ?_⟩
  refine (zq_icmp_ge (t := 36) dX11_free_14 rfl).mpr ⟨fun c => ?_, fun c => ?_⟩
  · replace h := h.1 c
    refine (zq_iload_n dX11_free_36 rfl).mpr ?_
    exact (zq_iret dX11_free_37 rfl).mpr ⟨trivial, h⟩
  · replace h := h.2 c
    refine (zq_iload_n dX11_free_17 rfl).mpr ?_
    refine (zq_aload_n dX11_free_18 rfl).mpr ?_
    refine (zq_getR2 (f := 725) (v := (mR m 725 a0)) dX11_free_19 fl_11_67 (by decide) rfl rfl (by first | rfl | simp only [zm_Is, zm_Rs, zm_As, zm_Os, zm_In0, zm_Rn0])).mpr ⟨g1, ?_⟩
    refine (zq_iload_n dX11_free_22 rfl).mpr ?_
    obtain ⟨g2, h⟩ := h
    obtain ⟨g3, h⟩ := h
    refine (zq_iald2 (v := (mA m (mR m 725 a0) (Int.toNat a3))) dX11_free_23 (by first | rfl | simp only [zm_Is, zm_Rs, zm_As, zm_Os, zm_In0, zm_Rn0])).mpr ⟨⟨g2, g3⟩, ?_⟩
    refine (zq_iload_n dX11_free_24 rfl).mpr ?_
    refine (zq_ishr dX11_free_25).mpr ?_
    refine (zq_iconst (v := 1) dX11_free_26 (by decide)).mpr ?_
    refine (zq_iand dX11_free_27).mpr ?_
    refine (zq_isub dX11_free_28).mpr ?_
    refine (zq_istore_n (l := [zR a0, zI a1, zI (wr (a2 - (bAnd (bShr (mA m (mR m 725 a0) (Int.toNat a3)) a1) 1))), zI a3]) dX11_free_29 (Nat.le_of_ble_eq_true rfl) rfl).mpr ?_
    refine (zq_iinc (l := [zR a0, zI a1, zI (wr (a2 - (bAnd (bShr (mA m (mR m 725 a0) (Int.toNat a3)) a1) 1))), zI (wr (a3 + 1))]) dX11_free_30 rfl rfl).mpr ?_
    refine (zq_goto (t := 9) dX11_free_33 rfl).mpr ?_
    exact h
theorem bX11_waiting_0 {a0 : Nat} {a1 : Int} (h : zW xs xl d cX11_waiting 11 (some .int) false [] 4 [zR a0, zI a1, zI 0, zI 0] [] m Q) : zC xs xl (d + 1) 141 [zR a0, zI a1] m Q := by
  refine zk_141 ?_
  refine (zq_iconst (v := 0) dX11_waiting_0 (by decide)).mpr ?_
  refine (zq_istore_n (l := [zR a0, zI a1, zI 0, zU]) dX11_waiting_1 (Nat.le_of_ble_eq_true rfl) rfl).mpr ?_
  refine (zq_iconst (v := 0) dX11_waiting_2 (by decide)).mpr ?_
  refine (zq_istore_n (l := [zR a0, zI a1, zI 0, zI 0]) dX11_waiting_3 (Nat.le_of_ble_eq_true rfl) rfl).mpr ?_
  exact h
theorem bX11_waiting_4 {a0 : Nat} {a1 : Int} {a2 : Int} {a3 : Int} (h : (mC m a0 = 12) ∧ (((mI m 712 a0) ≤ a3 → Q (.inl (some (zI a2))) m) ∧ (¬ ((mI m 712 a0) ≤ a3) → (mC m (mR m 726 a0) = 20) ∧ (0 ≤ a3 ∧ a3 < mN m (mR m 726 a0)) ∧ (((mA m (mR m 726 a0) (Int.toNat a3)) = (-1) → zW xs xl d cX11_waiting 11 (some .int) false [] 4 [zR a0, zI a1, zI (wr (a2 + 0)), zI (wr (a3 + 1))] [] m Q) ∧ (¬ ((mA m (mR m 726 a0) (Int.toNat a3)) = (-1)) → ((a1 = (-1) → zW xs xl d cX11_waiting 11 (some .int) false [] 4 [zR a0, zI a1, zI (wr (a2 + 1)), zI (wr (a3 + 1))] [] m Q) ∧ (¬ (a1 = (-1)) → (((mA m (mR m 726 a0) (Int.toNat a3)) ≠ a1 → zW xs xl d cX11_waiting 11 (some .int) false [] 4 [zR a0, zI a1, zI (wr (a2 + 0)), zI (wr (a3 + 1))] [] m Q) ∧ (¬ ((mA m (mR m 726 a0) (Int.toNat a3)) ≠ a1) → zW xs xl d cX11_waiting 11 (some .int) false [] 4 [zR a0, zI a1, zI (wr (a2 + 1)), zI (wr (a3 + 1))] [] m Q))))))))) : zW xs xl d cX11_waiting 11 (some .int) false [] 4 [zR a0, zI a1, zI a2, zI a3] [] m Q := by
  refine (zq_iload_n dX11_waiting_4 rfl).mpr ?_
  refine (zq_aload_n dX11_waiting_5 rfl).mpr ?_
  obtain ⟨g1, h⟩ := h
  refine (zq_getI2 (f := 712) (v := (mI m 712 a0)) dX11_waiting_6 fl_11_116 (by decide) rfl rfl (by first | rfl | simp only [zm_Is, zm_Rs, zm_As, zm_Os, zm_In0, zm_Rn0])).mpr ⟨g1, ?_⟩
  refine (zq_icmp_ge (t := 51) dX11_waiting_9 rfl).mpr ⟨fun c => ?_, fun c => ?_⟩
  · replace h := h.1 c
    refine (zq_iload_n dX11_waiting_51 rfl).mpr ?_
    exact (zq_iret dX11_waiting_52 rfl).mpr ⟨trivial, h⟩
  · replace h := h.2 c
    refine (zq_iload_n dX11_waiting_12 rfl).mpr ?_
    refine (zq_aload_n dX11_waiting_13 rfl).mpr ?_
    refine (zq_getR2 (f := 726) (v := (mR m 726 a0)) dX11_waiting_14 fl_11_70 (by decide) rfl rfl (by first | rfl | simp only [zm_Is, zm_Rs, zm_As, zm_Os, zm_In0, zm_Rn0])).mpr ⟨g1, ?_⟩
    refine (zq_iload_n dX11_waiting_17 rfl).mpr ?_
    obtain ⟨g2, h⟩ := h
    obtain ⟨g3, h⟩ := h
    refine (zq_iald2 (v := (mA m (mR m 726 a0) (Int.toNat a3))) dX11_waiting_18 (by first | rfl | simp only [zm_Is, zm_Rs, zm_As, zm_Os, zm_In0, zm_Rn0])).mpr ⟨⟨g2, g3⟩, ?_⟩
    refine (zq_iconst (v := (-1)) dX11_waiting_19 (by decide)).mpr ?_
    refine (zq_icmp_eq (t := 42) dX11_waiting_20 rfl).mpr ⟨fun c => ?_, fun c => ?_⟩
    · replace h := h.1 c
      refine (zq_iconst (v := 0) dX11_waiting_42 (by decide)).mpr ?_
      refine (zq_iadd dX11_waiting_43).mpr ?_
      refine (zq_istore_n (l := [zR a0, zI a1, zI (wr (a2 + 0)), zI a3]) dX11_waiting_44 (Nat.le_of_ble_eq_true rfl) rfl).mpr ?_
      refine (zq_iinc (l := [zR a0, zI a1, zI (wr (a2 + 0)), zI (wr (a3 + 1))]) dX11_waiting_45 rfl rfl).mpr ?_
      refine (zq_goto (t := 4) dX11_waiting_48 rfl).mpr ?_
      exact h
    · replace h := h.2 c
      refine (zq_iload_n dX11_waiting_23 rfl).mpr ?_
      refine (zq_iconst (v := (-1)) dX11_waiting_24 (by decide)).mpr ?_
      refine (zq_icmp_eq (t := 38) dX11_waiting_25 rfl).mpr ⟨fun c => ?_, fun c => ?_⟩
      · replace h := h.1 c
        refine (zq_iconst (v := 1) dX11_waiting_38 (by decide)).mpr ?_
        refine (zq_goto (t := 43) dX11_waiting_39 rfl).mpr ?_
        refine (zq_iadd dX11_waiting_43).mpr ?_
        refine (zq_istore_n (l := [zR a0, zI a1, zI (wr (a2 + 1)), zI a3]) dX11_waiting_44 (Nat.le_of_ble_eq_true rfl) rfl).mpr ?_
        refine (zq_iinc (l := [zR a0, zI a1, zI (wr (a2 + 1)), zI (wr (a3 + 1))]) dX11_waiting_45 rfl rfl).mpr ?_
        refine (zq_goto (t := 4) dX11_waiting_48 rfl).mpr ?_
        exact h
      · replace h := h.2 c
        refine (zq_aload_n dX11_waiting_28 rfl).mpr ?_
        refine (zq_getR2 (f := 726) (v := (mR m 726 a0)) dX11_waiting_29 fl_11_70 (by decide) rfl rfl (by first | rfl | simp only [zm_Is, zm_Rs, zm_As, zm_Os, zm_In0, zm_Rn0])).mpr ⟨g1, ?_⟩
        refine (zq_iload_n dX11_waiting_32 rfl).mpr ?_
        refine (zq_iald2 (v := (mA m (mR m 726 a0) (Int.toNat a3))) dX11_waiting_33 (by first | rfl | simp only [zm_Is, zm_Rs, zm_As, zm_Os, zm_In0, zm_Rn0])).mpr ⟨⟨g2, g3⟩, ?_⟩
        refine (zq_iload_n dX11_waiting_34 rfl).mpr ?_
        refine (zq_icmp_ne (t := 42) dX11_waiting_35 rfl).mpr ⟨fun c => ?_, fun c => ?_⟩
        · replace h := h.1 c
          refine (zq_iconst (v := 0) dX11_waiting_42 (by decide)).mpr ?_
          refine (zq_iadd dX11_waiting_43).mpr ?_
          refine (zq_istore_n (l := [zR a0, zI a1, zI (wr (a2 + 0)), zI a3]) dX11_waiting_44 (Nat.le_of_ble_eq_true rfl) rfl).mpr ?_
          refine (zq_iinc (l := [zR a0, zI a1, zI (wr (a2 + 0)), zI (wr (a3 + 1))]) dX11_waiting_45 rfl rfl).mpr ?_
          refine (zq_goto (t := 4) dX11_waiting_48 rfl).mpr ?_
          exact h
        · replace h := h.2 c
          refine (zq_iconst (v := 1) dX11_waiting_38 (by decide)).mpr ?_
          refine (zq_goto (t := 43) dX11_waiting_39 rfl).mpr ?_
          refine (zq_iadd dX11_waiting_43).mpr ?_
          refine (zq_istore_n (l := [zR a0, zI a1, zI (wr (a2 + 1)), zI a3]) dX11_waiting_44 (Nat.le_of_ble_eq_true rfl) rfl).mpr ?_
          refine (zq_iinc (l := [zR a0, zI a1, zI (wr (a2 + 1)), zI (wr (a3 + 1))]) dX11_waiting_45 rfl rfl).mpr ?_
          refine (zq_goto (t := 4) dX11_waiting_48 rfl).mpr ?_
          exact h
theorem bX11_await_0 {a0 : Nat} {a1 : Int} {a2 : Int} {a3 : Int} (h : (mC m a0 = 12) ∧ (0 ≤ a1 ∧ a1 < mN m (mR m 726 a0)) ∧ (mC m (mR m 726 a0) = 20) ∧ (0 ≤ a1 ∧ a1 < mN m (mR m 727 a0)) ∧ (mC m (mR m 727 a0) = 20) ∧ (0 ≤ a1 ∧ a1 < mN m (mR m 728 a0)) ∧ ((mC m (mR m 728 a0) = 21 ∧ (a3 = 0 ∨ a3 = 1)) ∨ (mC m (mR m 728 a0) = 22 ∧ -128 ≤ a3 ∧ a3 ≤ 127)) ∧ Q (.inl none) (sA (sA (sA m (mR m 726 a0) (Int.toNat a1) a2) (mR m 727 a0) (Int.toNat a1) (mI m 704 a0)) (mR m 728 a0) (Int.toNat a1) a3)) : zC xs xl (d + 1) 142 [zR a0, zI a1, zI a2, zI a3] m Q := by
  refine zk_142 ?_
  refine (zq_aload_n dX11_await_0 rfl).mpr ?_
  obtain ⟨g1, h⟩ := h
  refine (zq_getR2 (f := 726) (v := (mR m 726 a0)) dX11_await_1 fl_11_70 (by decide) rfl rfl (by first | rfl | simp only [zm_Is, zm_Rs, zm_As, zm_Os, zm_In0, zm_Rn0])).mpr ⟨g1, ?_⟩
  refine (zq_iload_n dX11_await_4 rfl).mpr ?_
  refine (zq_iload_n dX11_await_5 rfl).mpr ?_
  obtain ⟨g2, h⟩ := h
  obtain ⟨g3, h⟩ := h
  refine (zq_iast dX11_await_6).mpr ⟨⟨g3, g2⟩, ?_⟩
  refine (zq_aload_n dX11_await_7 rfl).mpr ?_
  refine (zq_getR2 (f := 727) (v := (mR m 727 a0)) dX11_await_8 fl_11_73 (by decide) rfl rfl (by first | rfl | simp only [zm_Is, zm_Rs, zm_As, zm_Os, zm_In0, zm_Rn0])).mpr ⟨g1, ?_⟩
  refine (zq_iload_n dX11_await_11 rfl).mpr ?_
  refine (zq_aload_n dX11_await_12 rfl).mpr ?_
  refine (zq_getI2 (f := 704) (v := (mI m 704 a0)) dX11_await_13 fl_11_109 (by decide) rfl rfl (by first | rfl | simp only [zm_Is, zm_Rs, zm_As, zm_Os, zm_In0, zm_Rn0])).mpr ⟨g1, ?_⟩
  obtain ⟨g4, h⟩ := h
  obtain ⟨g5, h⟩ := h
  refine (zq_iast dX11_await_16).mpr ⟨⟨g5, g4⟩, ?_⟩
  refine (zq_aload_n dX11_await_17 rfl).mpr ?_
  refine (zq_getR2 (f := 728) (v := (mR m 728 a0)) dX11_await_18 fl_11_76 (by decide) rfl rfl (by first | rfl | simp only [zm_Is, zm_Rs, zm_As, zm_Os, zm_In0, zm_Rn0])).mpr ⟨g1, ?_⟩
  refine (zq_iload_n dX11_await_21 rfl).mpr ?_
  refine (zq_iload_n dX11_await_22 rfl).mpr ?_
  obtain ⟨g6, h⟩ := h
  obtain ⟨g7, h⟩ := h
  refine (zq_bast dX11_await_23).mpr ⟨⟨g7, g6⟩, ?_⟩
  exact (zq_ret dX11_await_24 rfl).mpr h
theorem bX11_get_0 {a0 : Nat} {a1 : Int} (h : (mC m a0 = 12) ∧ (mC m (mR m 725 a0) = 20) ∧ (0 ≤ a1 ∧ a1 < mN m (mR m 725 a0)) ∧ (mC m (mR m 726 a0) = 20) ∧ (0 ≤ a1 ∧ a1 < mN m (mR m 726 a0)) ∧ (0 ≤ a1 ∧ a1 < mN m (mR m 727 a0)) ∧ (mC m (mR m 727 a0) = 20) ∧ (0 ≤ a1 ∧ a1 < mN m (mR m 728 a0)) ∧ (mC m (mR m 728 a0) = 21) ∧ Q (.inl none) (sA (sA (sA (sA m (mR m 725 a0) (Int.toNat a1) (bOr (mA m (mR m 725 a0) (Int.toNat a1)) (bShl 1 (mA m (mR m 726 a0) (Int.toNat a1))))) (mR m 726 a0) (Int.toNat a1) (-1)) (mR m 727 a0) (Int.toNat a1) (-1)) (mR m 728 a0) (Int.toNat a1) 0)) : zC xs xl (d + 1) 143 [zR a0, zI a1] m Q := by
  refine zk_143 ?_
  refine (zq_aload_n dX11_get_0 rfl).mpr ?_
  obtain ⟨g1, h⟩ := h
  refine (zq_getR2 (f := 725) (v := (mR m 725 a0)) dX11_get_1 fl_11_67 (by decide) rfl rfl (by first | rfl | simp only [zm_Is, zm_Rs, zm_As, zm_Os, zm_In0, zm_Rn0])).mpr ⟨g1, ?_⟩
  refine (zq_iload_n dX11_get_4 rfl).mpr ?_
  refine (zq_dup2IR dX11_get_5).mpr ?_
  obtain ⟨g2, h⟩ := h
  obtain ⟨g3, h⟩ := h
  refine (zq_iald2 (v := (mA m (mR m 725 a0) (Int.toNat a1))) dX11_get_6 (by first | rfl | simp only [zm_Is, zm_Rs, zm_As, zm_Os, zm_In0, zm_Rn0])).mpr ⟨⟨g2, g3⟩, ?_⟩
  refine (zq_iconst (v := 1) dX11_get_7 (by decide)).mpr ?_
  refine (zq_aload_n dX11_get_8 rfl).mpr ?_
  refine (zq_getR2 (f := 726) (v := (mR m 726 a0)) dX11_get_9 fl_11_70 (by decide) rfl rfl (by first | rfl | simp only [zm_Is, zm_Rs, zm_As, zm_Os, zm_In0, zm_Rn0])).mpr ⟨g1, ?_⟩
  refine (zq_iload_n dX11_get_12 rfl).mpr ?_
  obtain ⟨g4, h⟩ := h
  obtain ⟨g5, h⟩ := h
  refine (zq_iald2 (v := (mA m (mR m 726 a0) (Int.toNat a1))) dX11_get_13 (by first | rfl | simp only [zm_Is, zm_Rs, zm_As, zm_Os, zm_In0, zm_Rn0])).mpr ⟨⟨g4, g5⟩, ?_⟩
  refine (zq_ishl dX11_get_14).mpr ?_
  refine (zq_ior dX11_get_15).mpr ?_
  refine (zq_iast dX11_get_16).mpr ⟨⟨g2, g3⟩, ?_⟩
  refine (zq_aload_n dX11_get_17 rfl).mpr ?_
  refine (zq_getR2 (f := 726) (v := (mR m 726 a0)) dX11_get_18 fl_11_70 (by decide) rfl rfl (by first | rfl | simp only [zm_Is, zm_Rs, zm_As, zm_Os, zm_In0, zm_Rn0])).mpr ⟨g1, ?_⟩
  refine (zq_iload_n dX11_get_21 rfl).mpr ?_
  refine (zq_iconst (v := (-1)) dX11_get_22 (by decide)).mpr ?_
  refine (zq_iast dX11_get_23).mpr ⟨⟨g4, g5⟩, ?_⟩
  refine (zq_aload_n dX11_get_24 rfl).mpr ?_
  refine (zq_getR2 (f := 727) (v := (mR m 727 a0)) dX11_get_25 fl_11_73 (by decide) rfl rfl (by first | rfl | simp only [zm_Is, zm_Rs, zm_As, zm_Os, zm_In0, zm_Rn0])).mpr ⟨g1, ?_⟩
  refine (zq_iload_n dX11_get_28 rfl).mpr ?_
  refine (zq_iconst (v := (-1)) dX11_get_29 (by decide)).mpr ?_
  obtain ⟨g6, h⟩ := h
  obtain ⟨g7, h⟩ := h
  refine (zq_iast dX11_get_30).mpr ⟨⟨g7, g6⟩, ?_⟩
  refine (zq_aload_n dX11_get_31 rfl).mpr ?_
  refine (zq_getR2 (f := 728) (v := (mR m 728 a0)) dX11_get_32 fl_11_76 (by decide) rfl rfl (by first | rfl | simp only [zm_Is, zm_Rs, zm_As, zm_Os, zm_In0, zm_Rn0])).mpr ⟨g1, ?_⟩
  refine (zq_iload_n dX11_get_35 rfl).mpr ?_
  refine (zq_iconst (v := 0) dX11_get_36 (by decide)).mpr ?_
  obtain ⟨g8, h⟩ := h
  obtain ⟨g9, h⟩ := h
  refine (zq_bast dX11_get_37).mpr ⟨⟨Or.inl ⟨g9, Or.inl rfl⟩, g8⟩, ?_⟩
  exact (zq_ret dX11_get_38 rfl).mpr h
theorem bX11_giveOut_0 {a0 : Nat} (h : (∀ m1 : zM, m1 = nwA m 21 6 → zW xs xl d cX11_giveOut 11 (none) false [] 7 [zR a0, zR (mz m), zI 0, zU, zU] [] m1 Q)) : zC xs xl (d + 1) 144 [zR a0] m Q := by
  refine zk_144 ?_
  refine (zq_bipush (v := 6) dX11_giveOut_0 (by decide)).mpr ?_
  refine zq_newarray2 (kd := 21) (i := 6) dX11_giveOut_2 rfl (by decide) rfl ⟨by decide, by decide⟩ (fun m1 em1 => ?_)
  replace h := h m1 em1
  refine (zq_astore_n (l := [zR a0, zR (mz m), zU, zU, zU]) dX11_giveOut_4 (Nat.le_of_ble_eq_true rfl) rfl).mpr ?_
  refine (zq_iconst (v := 0) dX11_giveOut_5 (by decide)).mpr ?_
  refine (zq_istore_n (l := [zR a0, zR (mz m), zI 0, zU, zU]) dX11_giveOut_6 (Nat.le_of_ble_eq_true rfl) rfl).mpr ?_
  exact h
theorem bX11_giveOut_7 {a0 : Nat} {a1 : Nat} {a2 : Int} {a3 : zV} {a4 : zV} (h : (mC m a0 = 12) ∧ (((mI m 712 a0) ≤ a2 → Q (.inl none) m) ∧ (¬ ((mI m 712 a0) ≤ a2) → zW xs xl d cX11_giveOut 11 (none) false [] 20 [zR a0, zR a1, zI a2, zI (-1), zI 0] [] m Q))) : zW xs xl d cX11_giveOut 11 (none) false [] 7 [zR a0, zR a1, zI a2, a3, a4] [] m Q := by
  refine (zq_iload_n dX11_giveOut_7 rfl).mpr ?_
  refine (zq_aload_n dX11_giveOut_8 rfl).mpr ?_
  obtain ⟨g1, h⟩ := h
  refine (zq_getI2 (f := 712) (v := (mI m 712 a0)) dX11_giveOut_9 fl_11_116 (by decide) rfl rfl (by first | rfl | simp only [zm_Is, zm_Rs, zm_As, zm_Os, zm_In0, zm_Rn0])).mpr ⟨g1, ?_⟩
  refine (zq_icmp_ge (t := 111) dX11_giveOut_12 rfl).mpr ⟨fun c => ?_, fun c => ?_⟩
  · replace h := h.1 c
    exact (zq_ret dX11_giveOut_111 rfl).mpr h
  · replace h := h.2 c
    refine (zq_iconst (v := (-1)) dX11_giveOut_15 (by decide)).mpr ?_
    refine (zq_istore_n (l := [zR a0, zR a1, zI a2, zI (-1), a4]) dX11_giveOut_16 (Nat.le_of_ble_eq_true rfl) rfl).mpr ?_
    refine (zq_iconst (v := 0) dX11_giveOut_17 (by decide)).mpr ?_
    refine (zq_istore (l := [zR a0, zR a1, zI a2, zI (-1), zI 0]) dX11_giveOut_18 (Nat.le_of_ble_eq_true rfl) rfl).mpr ?_
    exact h
theorem bX11_giveOut_20 {a0 : Nat} {a1 : Nat} {a2 : Int} {a3 : Int} {a4 : Int} (h : (mC m a0 = 12) ∧ (((mI m 712 a0) ≤ a4 → ((a3 ≠ (-1) → (0 ≤ a3 ∧ a3 < mN m a1) ∧ (mC m a1 = 21) ∧ (mC m (mR m 726 a0) = 20) ∧ (0 ≤ a3 ∧ a3 < mN m (mR m 726 a0)) ∧ zC xs xl d 140 [zR a0, zI (mA (sA m a1 (Int.toNat a3) 1) (mR m 726 a0) (Int.toNat a3))] (sA m a1 (Int.toNat a3) 1) (fun r m6 => ∃ v7 : Int, r = .inl (some (zI v7)) ∧ ((v7 ≤ 0 → zW xs xl d cX11_giveOut 11 (none) false [] 7 [zR a0, zR a1, zI (wr (a2 + 1)), zI a3, zI a4] [] m6 Q) ∧ (¬ (v7 ≤ 0) → (mC m6 a0 = 12) ∧ zC xs xl d 143 [zR a0, zI a3] m6 (fun r m8 => r = .inl none ∧ zW xs xl d cX11_giveOut 11 (none) false [] 7 [zR a0, zR a1, zI (wr (a2 + 1)), zI a3, zI a4] [] m8 Q))))) ∧ (¬ (a3 ≠ (-1)) → Q (.inl none) m))) ∧ (¬ ((mI m 712 a0) ≤ a4) → (mC m (mR m 726 a0) = 20) ∧ (0 ≤ a4 ∧ a4 < mN m (mR m 726 a0)) ∧ (((mA m (mR m 726 a0) (Int.toNat a4)) = (-1) → zW xs xl d cX11_giveOut 11 (none) false [] 20 [zR a0, zR a1, zI a2, zI a3, zI (wr (a4 + 1))] [] m Q) ∧ (¬ ((mA m (mR m 726 a0) (Int.toNat a4)) = (-1)) → (mC m a1 = 21 ∨ mC m a1 = 22) ∧ (0 ≤ a4 ∧ a4 < mN m a1) ∧ (((mA m a1 (Int.toNat a4)) ≠ 0 → zW xs xl d cX11_giveOut 11 (none) false [] 20 [zR a0, zR a1, zI a2, zI a3, zI (wr (a4 + 1))] [] m Q) ∧ (¬ ((mA m a1 (Int.toNat a4)) ≠ 0) → ((a3 = (-1) → zW xs xl d cX11_giveOut 11 (none) false [] 20 [zR a0, zR a1, zI a2, zI a4, zI (wr (a4 + 1))] [] m Q) ∧ (¬ (a3 = (-1)) → (mC m (mR m 727 a0) = 20) ∧ (0 ≤ a4 ∧ a4 < mN m (mR m 727 a0)) ∧ (0 ≤ a3 ∧ a3 < mN m (mR m 727 a0)) ∧ (((mA m (mR m 727 a0) (Int.toNat a3)) ≤ (mA m (mR m 727 a0) (Int.toNat a4)) → zW xs xl d cX11_giveOut 11 (none) false [] 20 [zR a0, zR a1, zI a2, zI a3, zI (wr (a4 + 1))] [] m Q) ∧ (¬ ((mA m (mR m 727 a0) (Int.toNat a3)) ≤ (mA m (mR m 727 a0) (Int.toNat a4))) → zW xs xl d cX11_giveOut 11 (none) false [] 20 [zR a0, zR a1, zI a2, zI a4, zI (wr (a4 + 1))] [] m Q))))))))))) : zW xs xl d cX11_giveOut 11 (none) false [] 20 [zR a0, zR a1, zI a2, zI a3, zI a4] [] m Q := by
  refine (zq_iload dX11_giveOut_20 rfl).mpr ?_
  refine (zq_aload_n dX11_giveOut_22 rfl).mpr ?_
  obtain ⟨g1, h⟩ := h
  refine (zq_getI2 (f := 712) (v := (mI m 712 a0)) dX11_giveOut_23 fl_11_116 (by decide) rfl rfl (by first | rfl | simp only [zm_Is, zm_Rs, zm_As, zm_Os, zm_In0, zm_Rn0])).mpr ⟨g1, ?_⟩
  refine (zq_icmp_ge (t := 77) dX11_giveOut_26 rfl).mpr ⟨fun c => ?_, fun c => ?_⟩
  · replace h := h.1 c
    refine (zq_iload_n dX11_giveOut_77 rfl).mpr ?_
    refine (zq_iconst (v := (-1)) dX11_giveOut_78 (by decide)).mpr ?_
    refine (zq_icmp_ne (t := 83) dX11_giveOut_79 rfl).mpr ⟨fun c => ?_, fun c => ?_⟩
    · replace h := h.1 c
      refine (zq_aload_n dX11_giveOut_83 rfl).mpr ?_
      refine (zq_iload_n dX11_giveOut_84 rfl).mpr ?_
      refine (zq_iconst (v := 1) dX11_giveOut_85 (by decide)).mpr ?_
      obtain ⟨g2, h⟩ := h
      obtain ⟨g3, h⟩ := h
      refine (zq_bast dX11_giveOut_86).mpr ⟨⟨Or.inl ⟨g3, Or.inr rfl⟩, g2⟩, ?_⟩
      refine (zq_aload_n dX11_giveOut_87 rfl).mpr ?_
      refine (zq_aload_n dX11_giveOut_88 rfl).mpr ?_
      refine (zq_getR2 (f := 726) (v := (mR m 726 a0)) dX11_giveOut_89 fl_11_70 (by decide) rfl rfl (by first | rfl | simp only [zm_Is, zm_Rs, zm_As, zm_Os, zm_In0, zm_Rn0])).mpr ⟨g1, ?_⟩
      refine (zq_iload_n dX11_giveOut_92 rfl).mpr ?_
      obtain ⟨g4, h⟩ := h
      obtain ⟨g5, h⟩ := h
      refine (zq_iald2 (v := (mA (sA m a1 (Int.toNat a3) 1) (mR m 726 a0) (Int.toNat a3))) dX11_giveOut_93 (by first | rfl | simp only [zm_Is, zm_Rs, zm_As, zm_Os, zm_In0, zm_Rn0])).mpr ⟨⟨g4, g5⟩, ?_⟩
      refine zq_virtualI (n := 1) dX11_giveOut_94 mr_11_156 zn_140 rfl rfl rfl (zrcv_R zo_140 (by decide) g1) (Nat.le_of_ble_eq_true rfl) ?_
      refine h.mono (fun r m6 h => ?_)
      obtain ⟨v7, rfl, h⟩ := h
      refine ⟨_, rfl, ?_⟩
      refine (zq_if_le (t := 105) dX11_giveOut_97 rfl).mpr ⟨fun c => ?_, fun c => ?_⟩
      · replace h := h.1 c
        refine (zq_iinc (l := [zR a0, zR a1, zI (wr (a2 + 1)), zI a3, zI a4]) dX11_giveOut_105 rfl rfl).mpr ?_
        refine (zq_goto (t := 7) dX11_giveOut_108 rfl).mpr ?_
        exact h
      · replace h := h.2 c
        refine (zq_aload_n dX11_giveOut_100 rfl).mpr ?_
        refine (zq_iload_n dX11_giveOut_101 rfl).mpr ?_
        obtain ⟨g10, h⟩ := h
        refine zq_virtualV (n := 1) dX11_giveOut_102 mr_11_160 zn_143 rfl rfl rfl (zrcv_R zo_143 (by decide) g10) (Nat.le_of_ble_eq_true rfl) ?_
        refine h.mono (fun r m8 h => ?_)
        obtain ⟨rfl, h⟩ := h
        refine ⟨rfl, ?_⟩
        refine (zq_iinc (l := [zR a0, zR a1, zI (wr (a2 + 1)), zI a3, zI a4]) dX11_giveOut_105 rfl rfl).mpr ?_
        refine (zq_goto (t := 7) dX11_giveOut_108 rfl).mpr ?_
        exact h
    · replace h := h.2 c
      exact (zq_ret dX11_giveOut_82 rfl).mpr h
  · replace h := h.2 c
    refine (zq_aload_n dX11_giveOut_29 rfl).mpr ?_
    refine (zq_getR2 (f := 726) (v := (mR m 726 a0)) dX11_giveOut_30 fl_11_70 (by decide) rfl rfl (by first | rfl | simp only [zm_Is, zm_Rs, zm_As, zm_Os, zm_In0, zm_Rn0])).mpr ⟨g1, ?_⟩
    refine (zq_iload dX11_giveOut_33 rfl).mpr ?_
    obtain ⟨g11, h⟩ := h
    obtain ⟨g12, h⟩ := h
    refine (zq_iald2 (v := (mA m (mR m 726 a0) (Int.toNat a4))) dX11_giveOut_35 (by first | rfl | simp only [zm_Is, zm_Rs, zm_As, zm_Os, zm_In0, zm_Rn0])).mpr ⟨⟨g11, g12⟩, ?_⟩
    refine (zq_iconst (v := (-1)) dX11_giveOut_36 (by decide)).mpr ?_
    refine (zq_icmp_eq (t := 71) dX11_giveOut_37 rfl).mpr ⟨fun c => ?_, fun c => ?_⟩
    · replace h := h.1 c
      refine (zq_iinc (l := [zR a0, zR a1, zI a2, zI a3, zI (wr (a4 + 1))]) dX11_giveOut_71 rfl rfl).mpr ?_
      refine (zq_goto (t := 20) dX11_giveOut_74 rfl).mpr ?_
      exact h
    · replace h := h.2 c
      refine (zq_aload_n dX11_giveOut_40 rfl).mpr ?_
      refine (zq_iload dX11_giveOut_41 rfl).mpr ?_
      obtain ⟨g13, h⟩ := h
      obtain ⟨g14, h⟩ := h
      refine (zq_bald2 (v := (mA m a1 (Int.toNat a4))) dX11_giveOut_43 (by first | rfl | simp only [zm_Is, zm_Rs, zm_As, zm_Os, zm_In0, zm_Rn0])).mpr ⟨⟨g13, g14⟩, ?_⟩
      refine (zq_if_ne (t := 71) dX11_giveOut_44 rfl).mpr ⟨fun c => ?_, fun c => ?_⟩
      · replace h := h.1 c
        refine (zq_iinc (l := [zR a0, zR a1, zI a2, zI a3, zI (wr (a4 + 1))]) dX11_giveOut_71 rfl rfl).mpr ?_
        refine (zq_goto (t := 20) dX11_giveOut_74 rfl).mpr ?_
        exact h
      · replace h := h.2 c
        refine (zq_iload_n dX11_giveOut_47 rfl).mpr ?_
        refine (zq_iconst (v := (-1)) dX11_giveOut_48 (by decide)).mpr ?_
        refine (zq_icmp_eq (t := 68) dX11_giveOut_49 rfl).mpr ⟨fun c => ?_, fun c => ?_⟩
        · replace h := h.1 c
          refine (zq_iload dX11_giveOut_68 rfl).mpr ?_
          refine (zq_istore_n (l := [zR a0, zR a1, zI a2, zI a4, zI a4]) dX11_giveOut_70 (Nat.le_of_ble_eq_true rfl) rfl).mpr ?_
          refine (zq_iinc (l := [zR a0, zR a1, zI a2, zI a4, zI (wr (a4 + 1))]) dX11_giveOut_71 rfl rfl).mpr ?_
          refine (zq_goto (t := 20) dX11_giveOut_74 rfl).mpr ?_
          exact h
        · replace h := h.2 c
          refine (zq_aload_n dX11_giveOut_52 rfl).mpr ?_
          refine (zq_getR2 (f := 727) (v := (mR m 727 a0)) dX11_giveOut_53 fl_11_73 (by decide) rfl rfl (by first | rfl | simp only [zm_Is, zm_Rs, zm_As, zm_Os, zm_In0, zm_Rn0])).mpr ⟨g1, ?_⟩
          refine (zq_iload dX11_giveOut_56 rfl).mpr ?_
          obtain ⟨g15, h⟩ := h
          obtain ⟨g16, h⟩ := h
          refine (zq_iald2 (v := (mA m (mR m 727 a0) (Int.toNat a4))) dX11_giveOut_58 (by first | rfl | simp only [zm_Is, zm_Rs, zm_As, zm_Os, zm_In0, zm_Rn0])).mpr ⟨⟨g15, g16⟩, ?_⟩
          refine (zq_aload_n dX11_giveOut_59 rfl).mpr ?_
          refine (zq_getR2 (f := 727) (v := (mR m 727 a0)) dX11_giveOut_60 fl_11_73 (by decide) rfl rfl (by first | rfl | simp only [zm_Is, zm_Rs, zm_As, zm_Os, zm_In0, zm_Rn0])).mpr ⟨g1, ?_⟩
          refine (zq_iload_n dX11_giveOut_63 rfl).mpr ?_
          obtain ⟨g17, h⟩ := h
          refine (zq_iald2 (v := (mA m (mR m 727 a0) (Int.toNat a3))) dX11_giveOut_64 (by first | rfl | simp only [zm_Is, zm_Rs, zm_As, zm_Os, zm_In0, zm_Rn0])).mpr ⟨⟨g15, g17⟩, ?_⟩
          refine (zq_icmp_ge (t := 71) dX11_giveOut_65 rfl).mpr ⟨fun c => ?_, fun c => ?_⟩
          · replace h := h.1 c
            refine (zq_iinc (l := [zR a0, zR a1, zI a2, zI a3, zI (wr (a4 + 1))]) dX11_giveOut_71 rfl rfl).mpr ?_
            refine (zq_goto (t := 20) dX11_giveOut_74 rfl).mpr ?_
            exact h
          · replace h := h.2 c
            refine (zq_iload dX11_giveOut_68 rfl).mpr ?_
            refine (zq_istore_n (l := [zR a0, zR a1, zI a2, zI a4, zI a4]) dX11_giveOut_70 (Nat.le_of_ble_eq_true rfl) rfl).mpr ?_
            refine (zq_iinc (l := [zR a0, zR a1, zI a2, zI a4, zI (wr (a4 + 1))]) dX11_giveOut_71 rfl rfl).mpr ?_
            refine (zq_goto (t := 20) dX11_giveOut_74 rfl).mpr ?_
            exact h
theorem bX11_stuck_0 {a0 : Nat} (h : zW xs xl d cX11_stuck 11 (some .int) false [] 4 [zR a0, zI 0, zI 0, zU] [] m Q) : zC xs xl (d + 1) 145 [zR a0] m Q := by
  refine zk_145 ?_
  refine (zq_iconst (v := 0) dX11_stuck_0 (by decide)).mpr ?_
  refine (zq_istore_n (l := [zR a0, zI 0, zU, zU]) dX11_stuck_1 (Nat.le_of_ble_eq_true rfl) rfl).mpr ?_
  refine (zq_iconst (v := 0) dX11_stuck_2 (by decide)).mpr ?_
  refine (zq_istore_n (l := [zR a0, zI 0, zI 0, zU]) dX11_stuck_3 (Nat.le_of_ble_eq_true rfl) rfl).mpr ?_
  exact h
theorem bX11_stuck_4 {a0 : Nat} {a1 : Int} {a2 : Int} {a3 : zV} (h : (mC m a0 = 12) ∧ (((mI m 712 a0) ≤ a2 → zW xs xl d cX11_stuck 11 (some .int) false [] 45 [zR a0, zI a1, zI 1, a3] [] m Q) ∧ (¬ ((mI m 712 a0) ≤ a2) → (mC m (mR m 714 a0) = 21 ∨ mC m (mR m 714 a0) = 22) ∧ (0 ≤ a2 ∧ a2 < mN m (mR m 714 a0)) ∧ (((mA m (mR m 714 a0) (Int.toNat a2)) = 0 → zW xs xl d cX11_stuck 11 (some .int) false [] 4 [zR a0, zI a1, zI (wr (a2 + 1)), a3] [] m Q) ∧ (¬ ((mA m (mR m 714 a0) (Int.toNat a2)) = 0) → (mC m (mR m 726 a0) = 20) ∧ (0 ≤ a2 ∧ a2 < mN m (mR m 726 a0)) ∧ (((mA m (mR m 726 a0) (Int.toNat a2)) = (-1) → zW xs xl d cX11_stuck 11 (some .int) false [] 4 [zR a0, zI a1, zI (wr (a2 + 1)), a3] [] m Q) ∧ (¬ ((mA m (mR m 726 a0) (Int.toNat a2)) = (-1)) → zW xs xl d cX11_stuck 11 (some .int) false [] 4 [zR a0, zI (bOr a1 (bShl 1 a2)), zI (wr (a2 + 1)), a3] [] m Q))))))) : zW xs xl d cX11_stuck 11 (some .int) false [] 4 [zR a0, zI a1, zI a2, a3] [] m Q := by
  refine (zq_iload_n dX11_stuck_4 rfl).mpr ?_
  refine (zq_aload_n dX11_stuck_5 rfl).mpr ?_
  obtain ⟨g1, h⟩ := h
  refine (zq_getI2 (f := 712) (v := (mI m 712 a0)) dX11_stuck_6 fl_11_116 (by decide) rfl rfl (by first | rfl | simp only [zm_Is, zm_Rs, zm_As, zm_Os, zm_In0, zm_Rn0])).mpr ⟨g1, ?_⟩
  refine (zq_icmp_ge (t := 43) dX11_stuck_9 rfl).mpr ⟨fun c => ?_, fun c => ?_⟩
  · replace h := h.1 c
    refine (zq_iconst (v := 1) dX11_stuck_43 (by decide)).mpr ?_
    refine (zq_istore_n (l := [zR a0, zI a1, zI 1, a3]) dX11_stuck_44 (Nat.le_of_ble_eq_true rfl) rfl).mpr ?_
    exact h
  · replace h := h.2 c
    refine (zq_aload_n dX11_stuck_12 rfl).mpr ?_
    refine (zq_getR2 (f := 714) (v := (mR m 714 a0)) dX11_stuck_13 fl_11_33 (by decide) rfl rfl (by first | rfl | simp only [zm_Is, zm_Rs, zm_As, zm_Os, zm_In0, zm_Rn0])).mpr ⟨g1, ?_⟩
    refine (zq_iload_n dX11_stuck_16 rfl).mpr ?_
    obtain ⟨g2, h⟩ := h
    obtain ⟨g3, h⟩ := h
    refine (zq_bald2 (v := (mA m (mR m 714 a0) (Int.toNat a2))) dX11_stuck_17 (by first | rfl | simp only [zm_Is, zm_Rs, zm_As, zm_Os, zm_In0, zm_Rn0])).mpr ⟨⟨g2, g3⟩, ?_⟩
    refine (zq_if_eq (t := 37) dX11_stuck_18 rfl).mpr ⟨fun c => ?_, fun c => ?_⟩
    · replace h := h.1 c
      refine (zq_iinc (l := [zR a0, zI a1, zI (wr (a2 + 1)), a3]) dX11_stuck_37 rfl rfl).mpr ?_
      refine (zq_goto (t := 4) dX11_stuck_40 rfl).mpr ?_
      exact h
    · replace h := h.2 c
      refine (zq_aload_n dX11_stuck_21 rfl).mpr ?_
      refine (zq_getR2 (f := 726) (v := (mR m 726 a0)) dX11_stuck_22 fl_11_70 (by decide) rfl rfl (by first | rfl | simp only [zm_Is, zm_Rs, zm_As, zm_Os, zm_In0, zm_Rn0])).mpr ⟨g1, ?_⟩
      refine (zq_iload_n dX11_stuck_25 rfl).mpr ?_
      obtain ⟨g4, h⟩ := h
      obtain ⟨g5, h⟩ := h
      refine (zq_iald2 (v := (mA m (mR m 726 a0) (Int.toNat a2))) dX11_stuck_26 (by first | rfl | simp only [zm_Is, zm_Rs, zm_As, zm_Os, zm_In0, zm_Rn0])).mpr ⟨⟨g4, g5⟩, ?_⟩
      refine (zq_iconst (v := (-1)) dX11_stuck_27 (by decide)).mpr ?_
      refine (zq_icmp_eq (t := 37) dX11_stuck_28 rfl).mpr ⟨fun c => ?_, fun c => ?_⟩
      · replace h := h.1 c
        refine (zq_iinc (l := [zR a0, zI a1, zI (wr (a2 + 1)), a3]) dX11_stuck_37 rfl rfl).mpr ?_
        refine (zq_goto (t := 4) dX11_stuck_40 rfl).mpr ?_
        exact h
      · replace h := h.2 c
        refine (zq_iload_n dX11_stuck_31 rfl).mpr ?_
        refine (zq_iconst (v := 1) dX11_stuck_32 (by decide)).mpr ?_
        refine (zq_iload_n dX11_stuck_33 rfl).mpr ?_
        refine (zq_ishl dX11_stuck_34).mpr ?_
        refine (zq_ior dX11_stuck_35).mpr ?_
        refine (zq_istore_n (l := [zR a0, zI (bOr a1 (bShl 1 a2)), zI a2, a3]) dX11_stuck_36 (Nat.le_of_ble_eq_true rfl) rfl).mpr ?_
        refine (zq_iinc (l := [zR a0, zI (bOr a1 (bShl 1 a2)), zI (wr (a2 + 1)), a3]) dX11_stuck_37 rfl rfl).mpr ?_
        refine (zq_goto (t := 4) dX11_stuck_40 rfl).mpr ?_
        exact h
theorem bX11_stuck_45 {a0 : Nat} {a1 : Int} {a2 : Int} {a3 : zV} (h : ((a2 = 0 → Q (.inl (some (zI a1))) m) ∧ (¬ (a2 = 0) → zW xs xl d cX11_stuck 11 (some .int) false [] 53 [zR a0, zI a1, zI 0, zI 0] [] m Q))) : zW xs xl d cX11_stuck 11 (some .int) false [] 45 [zR a0, zI a1, zI a2, a3] [] m Q := by
  refine (zq_iload_n dX11_stuck_45 rfl).mpr ?_
  refine (zq_if_eq (t := 117) dX11_stuck_46 rfl).mpr ⟨fun c => ?_, fun c => ?_⟩
  · replace h := h.1 c
    refine (zq_iload_n dX11_stuck_117 rfl).mpr ?_
    exact (zq_iret dX11_stuck_118 rfl).mpr ⟨trivial, h⟩
  · replace h := h.2 c
    refine (zq_iconst (v := 0) dX11_stuck_49 (by decide)).mpr ?_
    refine (zq_istore_n (l := [zR a0, zI a1, zI 0, a3]) dX11_stuck_50 (Nat.le_of_ble_eq_true rfl) rfl).mpr ?_
    refine (zq_iconst (v := 0) dX11_stuck_51 (by decide)).mpr ?_
    refine (zq_istore_n (l := [zR a0, zI a1, zI 0, zI 0]) dX11_stuck_52 (Nat.le_of_ble_eq_true rfl) rfl).mpr ?_
    exact h
theorem bX11_stuck_53 {a0 : Nat} {a1 : Int} {a2 : Int} {a3 : Int} (h : (mC m a0 = 12) ∧ (((mI m 712 a0) ≤ a3 → zW xs xl d cX11_stuck 11 (some .int) false [] 45 [zR a0, zI a1, zI a2, zI a3] [] m Q) ∧ (¬ ((mI m 712 a0) ≤ a3) → (((bAnd (bShr a1 a3) 1) = 0 → zW xs xl d cX11_stuck 11 (some .int) false [] 53 [zR a0, zI a1, zI a2, zI (wr (a3 + 1))] [] m Q) ∧ (¬ ((bAnd (bShr a1 a3) 1) = 0) → (mC m (mR m 726 a0) = 20) ∧ (0 ≤ a3 ∧ a3 < mN m (mR m 726 a0)) ∧ (mC m (mR m 711 a0) = 20) ∧ (0 ≤ (mA m (mR m 726 a0) (Int.toNat a3)) ∧ (mA m (mR m 726 a0) (Int.toNat a3)) < mN m (mR m 711 a0)) ∧ zC xs xl d 146 [zR a0, zI a1, zI (mA m (mR m 726 a0) (Int.toNat a3))] m (fun r m6 => ∃ v7 : Int, r = .inl (some (zI v7)) ∧ ((0 < (wr ((mA m (mR m 711 a0) (Int.toNat (mA m (mR m 726 a0) (Int.toNat a3)))) - v7)) → zW xs xl d cX11_stuck 11 (some .int) false [] 53 [zR a0, zI (bAnd a1 (bXor (bShl 1 a3) (-1))), zI 1, zI (wr (a3 + 1))] [] m6 Q) ∧ (¬ (0 < (wr ((mA m (mR m 711 a0) (Int.toNat (mA m (mR m 726 a0) (Int.toNat a3)))) - v7))) → zW xs xl d cX11_stuck 11 (some .int) false [] 53 [zR a0, zI a1, zI a2, zI (wr (a3 + 1))] [] m6 Q)))))))) : zW xs xl d cX11_stuck 11 (some .int) false [] 53 [zR a0, zI a1, zI a2, zI a3] [] m Q := by
  refine (zq_iload_n dX11_stuck_53 rfl).mpr ?_
  refine (zq_aload_n dX11_stuck_54 rfl).mpr ?_
  obtain ⟨g1, h⟩ := h
  refine (zq_getI2 (f := 712) (v := (mI m 712 a0)) dX11_stuck_55 fl_11_116 (by decide) rfl rfl (by first | rfl | simp only [zm_Is, zm_Rs, zm_As, zm_Os, zm_In0, zm_Rn0])).mpr ⟨g1, ?_⟩
  refine (zq_icmp_ge (t := 114) dX11_stuck_58 rfl).mpr ⟨fun c => ?_, fun c => ?_⟩
  · replace h := h.1 c
    refine (zq_goto (t := 45) dX11_stuck_114 rfl).mpr ?_
    exact h
  · replace h := h.2 c
    refine (zq_iload_n dX11_stuck_61 rfl).mpr ?_
    refine (zq_iload_n dX11_stuck_62 rfl).mpr ?_
    refine (zq_ishr dX11_stuck_63).mpr ?_
    refine (zq_iconst (v := 1) dX11_stuck_64 (by decide)).mpr ?_
    refine (zq_iand dX11_stuck_65).mpr ?_
    refine (zq_if_eq (t := 108) dX11_stuck_66 rfl).mpr ⟨fun c => ?_, fun c => ?_⟩
    · replace h := h.1 c
      refine (zq_iinc (l := [zR a0, zI a1, zI a2, zI (wr (a3 + 1))]) dX11_stuck_108 rfl rfl).mpr ?_
      refine (zq_goto (t := 53) dX11_stuck_111 rfl).mpr ?_
      exact h
    · replace h := h.2 c
      refine (zq_aload_n dX11_stuck_69 rfl).mpr ?_
      refine (zq_getR2 (f := 711) (v := (mR m 711 a0)) dX11_stuck_70 fl_11_27 (by decide) rfl rfl (by first | rfl | simp only [zm_Is, zm_Rs, zm_As, zm_Os, zm_In0, zm_Rn0])).mpr ⟨g1, ?_⟩
      refine (zq_aload_n dX11_stuck_73 rfl).mpr ?_
      refine (zq_getR2 (f := 726) (v := (mR m 726 a0)) dX11_stuck_74 fl_11_70 (by decide) rfl rfl (by first | rfl | simp only [zm_Is, zm_Rs, zm_As, zm_Os, zm_In0, zm_Rn0])).mpr ⟨g1, ?_⟩
      refine (zq_iload_n dX11_stuck_77 rfl).mpr ?_
      obtain ⟨g2, h⟩ := h
      obtain ⟨g3, h⟩ := h
      refine (zq_iald2 (v := (mA m (mR m 726 a0) (Int.toNat a3))) dX11_stuck_78 (by first | rfl | simp only [zm_Is, zm_Rs, zm_As, zm_Os, zm_In0, zm_Rn0])).mpr ⟨⟨g2, g3⟩, ?_⟩
      obtain ⟨g4, h⟩ := h
      obtain ⟨g5, h⟩ := h
      refine (zq_iald2 (v := (mA m (mR m 711 a0) (Int.toNat (mA m (mR m 726 a0) (Int.toNat a3))))) dX11_stuck_79 (by first | rfl | simp only [zm_Is, zm_Rs, zm_As, zm_Os, zm_In0, zm_Rn0])).mpr ⟨⟨g4, g5⟩, ?_⟩
      refine (zq_aload_n dX11_stuck_80 rfl).mpr ?_
      refine (zq_iload_n dX11_stuck_81 rfl).mpr ?_
      refine (zq_aload_n dX11_stuck_82 rfl).mpr ?_
      refine (zq_getR2 (f := 726) (v := (mR m 726 a0)) dX11_stuck_83 fl_11_70 (by decide) rfl rfl (by first | rfl | simp only [zm_Is, zm_Rs, zm_As, zm_Os, zm_In0, zm_Rn0])).mpr ⟨g1, ?_⟩
      refine (zq_iload_n dX11_stuck_86 rfl).mpr ?_
      refine (zq_iald2 (v := (mA m (mR m 726 a0) (Int.toNat a3))) dX11_stuck_87 (by first | rfl | simp only [zm_Is, zm_Rs, zm_As, zm_Os, zm_In0, zm_Rn0])).mpr ⟨⟨g2, g3⟩, ?_⟩
      refine zq_virtualI (n := 2) dX11_stuck_88 mr_11_164 zn_146 rfl rfl rfl (zrcv_R zo_146 (by decide) g1) (Nat.le_of_ble_eq_true rfl) ?_
      refine h.mono (fun r m6 h => ?_)
      obtain ⟨v7, rfl, h⟩ := h
      refine ⟨_, rfl, ?_⟩
      refine (zq_isub dX11_stuck_91).mpr ?_
      refine (zq_if_gt (t := 98) dX11_stuck_92 rfl).mpr ⟨fun c => ?_, fun c => ?_⟩
      · replace h := h.1 c
        refine (zq_iload_n dX11_stuck_98 rfl).mpr ?_
        refine (zq_iconst (v := 1) dX11_stuck_99 (by decide)).mpr ?_
        refine (zq_iload_n dX11_stuck_100 rfl).mpr ?_
        refine (zq_ishl dX11_stuck_101).mpr ?_
        refine (zq_iconst (v := (-1)) dX11_stuck_102 (by decide)).mpr ?_
        refine (zq_ixor dX11_stuck_103).mpr ?_
        refine (zq_iand dX11_stuck_104).mpr ?_
        refine (zq_istore_n (l := [zR a0, zI (bAnd a1 (bXor (bShl 1 a3) (-1))), zI a2, zI a3]) dX11_stuck_105 (Nat.le_of_ble_eq_true rfl) rfl).mpr ?_
        refine (zq_iconst (v := 1) dX11_stuck_106 (by decide)).mpr ?_
        refine (zq_istore_n (l := [zR a0, zI (bAnd a1 (bXor (bShl 1 a3) (-1))), zI 1, zI a3]) dX11_stuck_107 (Nat.le_of_ble_eq_true rfl) rfl).mpr ?_
        refine (zq_iinc (l := [zR a0, zI (bAnd a1 (bXor (bShl 1 a3) (-1))), zI 1, zI (wr (a3 + 1))]) dX11_stuck_108 rfl rfl).mpr ?_
        refine (zq_goto (t := 53) dX11_stuck_111 rfl).mpr ?_
        exact h
      · replace h := h.2 c
        refine (zq_goto (t := 108) dX11_stuck_95 rfl).mpr ?_
        refine (zq_iinc (l := [zR a0, zI a1, zI a2, zI (wr (a3 + 1))]) dX11_stuck_108 rfl rfl).mpr ?_
        refine (zq_goto (t := 53) dX11_stuck_111 rfl).mpr ?_
        exact h
theorem bX11_heldBy_0 {a0 : Nat} {a1 : Int} {a2 : Int} (h : zW xs xl d cX11_heldBy 11 (some .int) false [] 5 [zR a0, zI a1, zI a2, zI 0, zI 0] [] m Q) : zC xs xl (d + 1) 146 [zR a0, zI a1, zI a2] m Q := by
  refine zk_146 ?_
  refine (zq_iconst (v := 0) dX11_heldBy_0 (by decide)).mpr ?_
  refine (zq_istore_n (l := [zR a0, zI a1, zI a2, zI 0, zU]) dX11_heldBy_1 (Nat.le_of_ble_eq_true rfl) rfl).mpr ?_
  refine (zq_iconst (v := 0) dX11_heldBy_2 (by decide)).mpr ?_
  refine (zq_istore (l := [zR a0, zI a1, zI a2, zI 0, zI 0]) dX11_heldBy_3 (Nat.le_of_ble_eq_true rfl) rfl).mpr ?_
  exact h
theorem bX11_heldBy_5 {a0 : Nat} {a1 : Int} {a2 : Int} {a3 : Int} {a4 : Int} (h : (mC m a0 = 12) ∧ (((mI m 712 a0) ≤ a4 → Q (.inl (some (zI a3))) m) ∧ (¬ ((mI m 712 a0) ≤ a4) → (((bAnd (bShr a1 a4) 1) ≠ 1 → zW xs xl d cX11_heldBy 11 (some .int) false [] 5 [zR a0, zI a1, zI a2, zI (wr (a3 + 0)), zI (wr (a4 + 1))] [] m Q) ∧ (¬ ((bAnd (bShr a1 a4) 1) ≠ 1) → (mC m (mR m 725 a0) = 20) ∧ (0 ≤ a4 ∧ a4 < mN m (mR m 725 a0)) ∧ zW xs xl d cX11_heldBy 11 (some .int) false [] 5 [zR a0, zI a1, zI a2, zI (wr (a3 + (bAnd (bShr (mA m (mR m 725 a0) (Int.toNat a4)) a2) 1))), zI (wr (a4 + 1))] [] m Q))))) : zW xs xl d cX11_heldBy 11 (some .int) false [] 5 [zR a0, zI a1, zI a2, zI a3, zI a4] [] m Q := by
  refine (zq_iload dX11_heldBy_5 rfl).mpr ?_
  refine (zq_aload_n dX11_heldBy_7 rfl).mpr ?_
  obtain ⟨g1, h⟩ := h
  refine (zq_getI2 (f := 712) (v := (mI m 712 a0)) dX11_heldBy_8 fl_11_116 (by decide) rfl rfl (by first | rfl | simp only [zm_Is, zm_Rs, zm_As, zm_Os, zm_In0, zm_Rn0])).mpr ⟨g1, ?_⟩
  refine (zq_icmp_ge (t := 48) dX11_heldBy_11 rfl).mpr ⟨fun c => ?_, fun c => ?_⟩
  · replace h := h.1 c
    refine (zq_iload_n dX11_heldBy_48 rfl).mpr ?_
    exact (zq_iret dX11_heldBy_49 rfl).mpr ⟨trivial, h⟩
  · replace h := h.2 c
    refine (zq_iload_n dX11_heldBy_14 rfl).mpr ?_
    refine (zq_iload_n dX11_heldBy_15 rfl).mpr ?_
    refine (zq_iload dX11_heldBy_16 rfl).mpr ?_
    refine (zq_ishr dX11_heldBy_18).mpr ?_
    refine (zq_iconst (v := 1) dX11_heldBy_19 (by decide)).mpr ?_
    refine (zq_iand dX11_heldBy_20).mpr ?_
    refine (zq_iconst (v := 1) dX11_heldBy_21 (by decide)).mpr ?_
    refine (zq_icmp_ne (t := 39) dX11_heldBy_22 rfl).mpr ⟨fun c => ?_, fun c => ?_⟩
    · replace h := h.1 c
      refine (zq_iconst (v := 0) dX11_heldBy_39 (by decide)).mpr ?_
      refine (zq_iadd dX11_heldBy_40).mpr ?_
      refine (zq_istore_n (l := [zR a0, zI a1, zI a2, zI (wr (a3 + 0)), zI a4]) dX11_heldBy_41 (Nat.le_of_ble_eq_true rfl) rfl).mpr ?_
      refine (zq_iinc (l := [zR a0, zI a1, zI a2, zI (wr (a3 + 0)), zI (wr (a4 + 1))]) dX11_heldBy_42 rfl rfl).mpr ?_
      refine (zq_goto (t := 5) dX11_heldBy_45 rfl).mpr ?_
      exact h
    · replace h := h.2 c
      refine (zq_aload_n dX11_heldBy_25 rfl).mpr ?_
      refine (zq_getR2 (f := 725) (v := (mR m 725 a0)) dX11_heldBy_26 fl_11_67 (by decide) rfl rfl (by first | rfl | simp only [zm_Is, zm_Rs, zm_As, zm_Os, zm_In0, zm_Rn0])).mpr ⟨g1, ?_⟩
      refine (zq_iload dX11_heldBy_29 rfl).mpr ?_
      obtain ⟨g2, h⟩ := h
      obtain ⟨g3, h⟩ := h
      refine (zq_iald2 (v := (mA m (mR m 725 a0) (Int.toNat a4))) dX11_heldBy_31 (by first | rfl | simp only [zm_Is, zm_Rs, zm_As, zm_Os, zm_In0, zm_Rn0])).mpr ⟨⟨g2, g3⟩, ?_⟩
      refine (zq_iload_n dX11_heldBy_32 rfl).mpr ?_
      refine (zq_ishr dX11_heldBy_33).mpr ?_
      refine (zq_iconst (v := 1) dX11_heldBy_34 (by decide)).mpr ?_
      refine (zq_iand dX11_heldBy_35).mpr ?_
      refine (zq_goto (t := 40) dX11_heldBy_36 rfl).mpr ?_
      refine (zq_iadd dX11_heldBy_40).mpr ?_
      refine (zq_istore_n (l := [zR a0, zI a1, zI a2, zI (wr (a3 + (bAnd (bShr (mA m (mR m 725 a0) (Int.toNat a4)) a2) 1))), zI a4]) dX11_heldBy_41 (Nat.le_of_ble_eq_true rfl) rfl).mpr ?_
      refine (zq_iinc (l := [zR a0, zI a1, zI a2, zI (wr (a3 + (bAnd (bShr (mA m (mR m 725 a0) (Int.toNat a4)) a2) 1))), zI (wr (a4 + 1))]) dX11_heldBy_42 rfl rfl).mpr ?_
      refine (zq_goto (t := 5) dX11_heldBy_45 rfl).mpr ?_
      exact h
theorem bX11_pass_0 {a0 : Nat} (h : (mC m a0 = 12) ∧ zC xs xl d 144 [zR a0] (sI m 704 a0 (wr ((mI m 704 a0) + 1))) (fun r m2 => r = .inl none ∧ zW xs xl d cX11_pass 11 (none) false [] 16 [zR a0, zI 0] [] m2 Q)) : zC xs xl (d + 1) 147 [zR a0] m Q := by
  refine zk_147 ?_
  refine (zq_aload_n dX11_pass_0 rfl).mpr ?_
  refine (zq_dupR dX11_pass_1).mpr ?_
  obtain ⟨g1, h⟩ := h
  refine (zq_getI2 (f := 704) (v := (mI m 704 a0)) dX11_pass_2 fl_11_109 (by decide) rfl rfl (by first | rfl | simp only [zm_Is, zm_Rs, zm_As, zm_Os, zm_In0, zm_Rn0])).mpr ⟨g1, ?_⟩
  refine (zq_iconst (v := 1) dX11_pass_5 (by decide)).mpr ?_
  refine (zq_iadd dX11_pass_6).mpr ?_
  refine (zq_putI (f := 704) dX11_pass_7 fl_11_109 (by decide) rfl rfl rfl).mpr ⟨g1, ?_⟩
  refine (zq_aload_n dX11_pass_10 rfl).mpr ?_
  refine zq_virtualV (n := 0) dX11_pass_11 mr_11_167 zn_144 rfl rfl rfl (zrcv_R zo_144 (by decide) g1) (Nat.le_of_ble_eq_true rfl) ?_
  refine h.mono (fun r m2 h => ?_)
  obtain ⟨rfl, h⟩ := h
  refine ⟨rfl, ?_⟩
  refine (zq_iconst (v := 0) dX11_pass_14 (by decide)).mpr ?_
  refine (zq_istore_n (l := [zR a0, zI 0]) dX11_pass_15 (Nat.le_of_ble_eq_true rfl) rfl).mpr ?_
  exact h
theorem bX11_pass_16 {a0 : Nat} {a1 : Int} (h : (mC m a0 = 12) ∧ (((mI m 712 a0) ≤ a1 → zW xs xl d cX11_pass 11 (none) false [] 65 [zR a0, zI 0] [] m Q) ∧ (¬ ((mI m 712 a0) ≤ a1) → (mC m (mR m 714 a0) = 21 ∨ mC m (mR m 714 a0) = 22) ∧ (0 ≤ a1 ∧ a1 < mN m (mR m 714 a0)) ∧ (((mA m (mR m 714 a0) (Int.toNat a1)) = 0 → zW xs xl d cX11_pass 11 (none) false [] 16 [zR a0, zI (wr (a1 + 1))] [] m Q) ∧ (¬ ((mA m (mR m 714 a0) (Int.toNat a1)) = 0) → (mC m (mR m 726 a0) = 20) ∧ (0 ≤ a1 ∧ a1 < mN m (mR m 726 a0)) ∧ (((mA m (mR m 726 a0) (Int.toNat a1)) = (-1) → zC xs xl d 148 [zR a0, zI a1] m (fun r m6 => r = .inl none ∧ zW xs xl d cX11_pass 11 (none) false [] 16 [zR a0, zI (wr (a1 + 1))] [] m6 Q)) ∧ (¬ ((mA m (mR m 726 a0) (Int.toNat a1)) = (-1)) → (mC m (mR m 728 a0) = 21 ∨ mC m (mR m 728 a0) = 22) ∧ (0 ≤ a1 ∧ a1 < mN m (mR m 728 a0)) ∧ (((mA m (mR m 728 a0) (Int.toNat a1)) ≠ 0 → zW xs xl d cX11_pass 11 (none) false [] 16 [zR a0, zI (wr (a1 + 1))] [] m Q) ∧ (¬ ((mA m (mR m 728 a0) (Int.toNat a1)) ≠ 0) → zC xs xl d 148 [zR a0, zI a1] m (fun r m10 => r = .inl none ∧ zW xs xl d cX11_pass 11 (none) false [] 16 [zR a0, zI (wr (a1 + 1))] [] m10 Q)))))))))) : zW xs xl d cX11_pass 11 (none) false [] 16 [zR a0, zI a1] [] m Q := by
  refine (zq_iload_n dX11_pass_16 rfl).mpr ?_
  refine (zq_aload_n dX11_pass_17 rfl).mpr ?_
  obtain ⟨g1, h⟩ := h
  refine (zq_getI2 (f := 712) (v := (mI m 712 a0)) dX11_pass_18 fl_11_116 (by decide) rfl rfl (by first | rfl | simp only [zm_Is, zm_Rs, zm_As, zm_Os, zm_In0, zm_Rn0])).mpr ⟨g1, ?_⟩
  refine (zq_icmp_ge (t := 63) dX11_pass_21 rfl).mpr ⟨fun c => ?_, fun c => ?_⟩
  · replace h := h.1 c
    refine (zq_iconst (v := 0) dX11_pass_63 (by decide)).mpr ?_
    refine (zq_istore_n (l := [zR a0, zI 0]) dX11_pass_64 (Nat.le_of_ble_eq_true rfl) rfl).mpr ?_
    exact h
  · replace h := h.2 c
    refine (zq_aload_n dX11_pass_24 rfl).mpr ?_
    refine (zq_getR2 (f := 714) (v := (mR m 714 a0)) dX11_pass_25 fl_11_33 (by decide) rfl rfl (by first | rfl | simp only [zm_Is, zm_Rs, zm_As, zm_Os, zm_In0, zm_Rn0])).mpr ⟨g1, ?_⟩
    refine (zq_iload_n dX11_pass_28 rfl).mpr ?_
    obtain ⟨g2, h⟩ := h
    obtain ⟨g3, h⟩ := h
    refine (zq_bald2 (v := (mA m (mR m 714 a0) (Int.toNat a1))) dX11_pass_29 (by first | rfl | simp only [zm_Is, zm_Rs, zm_As, zm_Os, zm_In0, zm_Rn0])).mpr ⟨⟨g2, g3⟩, ?_⟩
    refine (zq_if_eq (t := 57) dX11_pass_30 rfl).mpr ⟨fun c => ?_, fun c => ?_⟩
    · replace h := h.1 c
      refine (zq_iinc (l := [zR a0, zI (wr (a1 + 1))]) dX11_pass_57 rfl rfl).mpr ?_
      refine (zq_goto (t := 16) dX11_pass_60 rfl).mpr ?_
      exact h
    · replace h := h.2 c
      refine (zq_aload_n dX11_pass_33 rfl).mpr ?_
      refine (zq_getR2 (f := 726) (v := (mR m 726 a0)) dX11_pass_34 fl_11_70 (by decide) rfl rfl (by first | rfl | simp only [zm_Is, zm_Rs, zm_As, zm_Os, zm_In0, zm_Rn0])).mpr ⟨g1, ?_⟩
      refine (zq_iload_n dX11_pass_37 rfl).mpr ?_
      obtain ⟨g4, h⟩ := h
      obtain ⟨g5, h⟩ := h
      refine (zq_iald2 (v := (mA m (mR m 726 a0) (Int.toNat a1))) dX11_pass_38 (by first | rfl | simp only [zm_Is, zm_Rs, zm_As, zm_Os, zm_In0, zm_Rn0])).mpr ⟨⟨g4, g5⟩, ?_⟩
      refine (zq_iconst (v := (-1)) dX11_pass_39 (by decide)).mpr ?_
      refine (zq_icmp_eq (t := 52) dX11_pass_40 rfl).mpr ⟨fun c => ?_, fun c => ?_⟩
      · replace h := h.1 c
        refine (zq_aload_n dX11_pass_52 rfl).mpr ?_
        refine (zq_iload_n dX11_pass_53 rfl).mpr ?_
        refine zq_virtualV (n := 1) dX11_pass_54 mr_11_170 zn_148 rfl rfl rfl (zrcv_R zo_148 (by decide) g1) (Nat.le_of_ble_eq_true rfl) ?_
        refine h.mono (fun r m6 h => ?_)
        obtain ⟨rfl, h⟩ := h
        refine ⟨rfl, ?_⟩
        refine (zq_iinc (l := [zR a0, zI (wr (a1 + 1))]) dX11_pass_57 rfl rfl).mpr ?_
        refine (zq_goto (t := 16) dX11_pass_60 rfl).mpr ?_
        exact h
      · replace h := h.2 c
        refine (zq_aload_n dX11_pass_43 rfl).mpr ?_
        refine (zq_getR2 (f := 728) (v := (mR m 728 a0)) dX11_pass_44 fl_11_76 (by decide) rfl rfl (by first | rfl | simp only [zm_Is, zm_Rs, zm_As, zm_Os, zm_In0, zm_Rn0])).mpr ⟨g1, ?_⟩
        refine (zq_iload_n dX11_pass_47 rfl).mpr ?_
        obtain ⟨g8, h⟩ := h
        obtain ⟨g9, h⟩ := h
        refine (zq_bald2 (v := (mA m (mR m 728 a0) (Int.toNat a1))) dX11_pass_48 (by first | rfl | simp only [zm_Is, zm_Rs, zm_As, zm_Os, zm_In0, zm_Rn0])).mpr ⟨⟨g8, g9⟩, ?_⟩
        refine (zq_if_ne (t := 57) dX11_pass_49 rfl).mpr ⟨fun c => ?_, fun c => ?_⟩
        · replace h := h.1 c
          refine (zq_iinc (l := [zR a0, zI (wr (a1 + 1))]) dX11_pass_57 rfl rfl).mpr ?_
          refine (zq_goto (t := 16) dX11_pass_60 rfl).mpr ?_
          exact h
        · replace h := h.2 c
          refine (zq_aload_n dX11_pass_52 rfl).mpr ?_
          refine (zq_iload_n dX11_pass_53 rfl).mpr ?_
          refine zq_virtualV (n := 1) dX11_pass_54 mr_11_170 zn_148 rfl rfl rfl (zrcv_R zo_148 (by decide) g1) (Nat.le_of_ble_eq_true rfl) ?_
          refine h.mono (fun r m10 h => ?_)
          obtain ⟨rfl, h⟩ := h
          refine ⟨rfl, ?_⟩
          refine (zq_iinc (l := [zR a0, zI (wr (a1 + 1))]) dX11_pass_57 rfl rfl).mpr ?_
          refine (zq_goto (t := 16) dX11_pass_60 rfl).mpr ?_
          exact h
theorem bX11_pass_65 {a0 : Nat} {a1 : Int} (h : (mC m a0 = 12) ∧ (((mI m 705 a0) ≤ a1 → Q (.inl none) m) ∧ (¬ ((mI m 705 a0) ≤ a1) → (((wr ((mI m 704 a0) - wr (wr (Int.tdiv (mI m 704 a0) 5) * 5))) ≠ 0 → Q (.inl none) m) ∧ (¬ ((wr ((mI m 704 a0) - wr (wr (Int.tdiv (mI m 704 a0) 5) * 5))) ≠ 0) → (mC m (mR m 707 a0) = 20) ∧ (0 ≤ a1 ∧ a1 < mN m (mR m 707 a0)) ∧ (((mA m (mR m 707 a0) (Int.toNat a1)) ≤ 0 → zW xs xl d cX11_pass 11 (none) false [] 65 [zR a0, zI (wr (a1 + 1))] [] m Q) ∧ (¬ ((mA m (mR m 707 a0) (Int.toNat a1)) ≤ 0) → (mC m (mR m 708 a0) = 20) ∧ (0 ≤ a1 ∧ a1 < mN m (mR m 708 a0)) ∧ zC xs xl d 220 [zI (wr (15 - (mA m (mR m 708 a0) (Int.toNat a1))))] m (fun r m6 => ∃ v7 : Int, r = .inl (some (zI v7)) ∧ (0 ≤ a1 ∧ a1 < mN m6 (mR m 708 a0)) ∧ (mC m6 (mR m 708 a0) = 20) ∧ zW xs xl d cX11_pass 11 (none) false [] 65 [zR a0, zI (wr (a1 + 1))] [] (sA m6 (mR m 708 a0) (Int.toNat a1) (wr ((mA m (mR m 708 a0) (Int.toNat a1)) + v7))) Q)))))))) : zW xs xl d cX11_pass 11 (none) false [] 65 [zR a0, zI a1] [] m Q := by
  refine (zq_iload_n dX11_pass_65 rfl).mpr ?_
  refine (zq_aload_n dX11_pass_66 rfl).mpr ?_
  obtain ⟨g1, h⟩ := h
  refine (zq_getI2 (f := 705) (v := (mI m 705 a0)) dX11_pass_67 fl_11_113 (by decide) rfl rfl (by first | rfl | simp only [zm_Is, zm_Rs, zm_As, zm_Os, zm_In0, zm_Rn0])).mpr ⟨g1, ?_⟩
  refine (zq_icmp_ge (t := 118) dX11_pass_70 rfl).mpr ⟨fun c => ?_, fun c => ?_⟩
  · replace h := h.1 c
    exact (zq_ret dX11_pass_118 rfl).mpr h
  · replace h := h.2 c
    refine (zq_aload_n dX11_pass_73 rfl).mpr ?_
    refine (zq_getI2 (f := 704) (v := (mI m 704 a0)) dX11_pass_74 fl_11_109 (by decide) rfl rfl (by first | rfl | simp only [zm_Is, zm_Rs, zm_As, zm_Os, zm_In0, zm_Rn0])).mpr ⟨g1, ?_⟩
    refine (zq_iconst (v := 5) dX11_pass_77 (by decide)).mpr ?_
    refine (zq_irem dX11_pass_78).mpr ⟨by decide, ?_⟩
    refine (zq_if_ne (t := 118) dX11_pass_79 rfl).mpr ⟨fun c => ?_, fun c => ?_⟩
    · replace h := h.1 c
      exact (zq_ret dX11_pass_118 rfl).mpr h
    · replace h := h.2 c
      refine (zq_aload_n dX11_pass_82 rfl).mpr ?_
      refine (zq_getR2 (f := 707) (v := (mR m 707 a0)) dX11_pass_83 fl_11_15 (by decide) rfl rfl (by first | rfl | simp only [zm_Is, zm_Rs, zm_As, zm_Os, zm_In0, zm_Rn0])).mpr ⟨g1, ?_⟩
      refine (zq_iload_n dX11_pass_86 rfl).mpr ?_
      obtain ⟨g2, h⟩ := h
      obtain ⟨g3, h⟩ := h
      refine (zq_iald2 (v := (mA m (mR m 707 a0) (Int.toNat a1))) dX11_pass_87 (by first | rfl | simp only [zm_Is, zm_Rs, zm_As, zm_Os, zm_In0, zm_Rn0])).mpr ⟨⟨g2, g3⟩, ?_⟩
      refine (zq_if_le (t := 112) dX11_pass_88 rfl).mpr ⟨fun c => ?_, fun c => ?_⟩
      · replace h := h.1 c
        refine (zq_iinc (l := [zR a0, zI (wr (a1 + 1))]) dX11_pass_112 rfl rfl).mpr ?_
        refine (zq_goto (t := 65) dX11_pass_115 rfl).mpr ?_
        exact h
      · replace h := h.2 c
        refine (zq_aload_n dX11_pass_91 rfl).mpr ?_
        refine (zq_getR2 (f := 708) (v := (mR m 708 a0)) dX11_pass_92 fl_11_18 (by decide) rfl rfl (by first | rfl | simp only [zm_Is, zm_Rs, zm_As, zm_Os, zm_In0, zm_Rn0])).mpr ⟨g1, ?_⟩
        refine (zq_iload_n dX11_pass_95 rfl).mpr ?_
        refine (zq_dup2IR dX11_pass_96).mpr ?_
        obtain ⟨g4, h⟩ := h
        obtain ⟨g5, h⟩ := h
        refine (zq_iald2 (v := (mA m (mR m 708 a0) (Int.toNat a1))) dX11_pass_97 (by first | rfl | simp only [zm_Is, zm_Rs, zm_As, zm_Os, zm_In0, zm_Rn0])).mpr ⟨⟨g4, g5⟩, ?_⟩
        refine (zq_bipush (v := 15) dX11_pass_98 (by decide)).mpr ?_
        refine (zq_aload_n dX11_pass_100 rfl).mpr ?_
        refine (zq_getR2 (f := 708) (v := (mR m 708 a0)) dX11_pass_101 fl_11_18 (by decide) rfl rfl (by first | rfl | simp only [zm_Is, zm_Rs, zm_As, zm_Os, zm_In0, zm_Rn0])).mpr ⟨g1, ?_⟩
        refine (zq_iload_n dX11_pass_104 rfl).mpr ?_
        refine (zq_iald2 (v := (mA m (mR m 708 a0) (Int.toNat a1))) dX11_pass_105 (by first | rfl | simp only [zm_Is, zm_Rs, zm_As, zm_Os, zm_In0, zm_Rn0])).mpr ⟨⟨g4, g5⟩, ?_⟩
        refine (zq_isub dX11_pass_106).mpr ?_
        refine zq_staticI (n := 1) dX11_pass_107 mr_11_173 zn_220 rfl rfl (Nat.le_of_ble_eq_true rfl) (Nat.le_of_ble_eq_true rfl) ?_
        refine h.mono (fun r m6 h => ?_)
        obtain ⟨v7, rfl, h⟩ := h
        refine ⟨_, rfl, ?_⟩
        refine (zq_iadd dX11_pass_110).mpr ?_
        obtain ⟨g8, h⟩ := h
        obtain ⟨g9, h⟩ := h
        refine (zq_iast dX11_pass_111).mpr ⟨⟨g9, g8⟩, ?_⟩
        refine (zq_iinc (l := [zR a0, zI (wr (a1 + 1))]) dX11_pass_112 rfl rfl).mpr ?_
        refine (zq_goto (t := 65) dX11_pass_115 rfl).mpr ?_
        exact h
theorem bX11_act_0 {a0 : Nat} {a1 : Int} (h : (mC m a0 = 12) ∧ (mC m (mR m 718 a0) = 20) ∧ (0 ≤ a1 ∧ a1 < mN m (mR m 718 a0)) ∧ (mC m (mR m 717 a0) = 20) ∧ (0 ≤ (wr (4 * (wr ((wr (60 * a1)) + (mA m (mR m 718 a0) (Int.toNat a1)))))) ∧ (wr (4 * (wr ((wr (60 * a1)) + (mA m (mR m 718 a0) (Int.toNat a1)))))) < mN m (mR m 717 a0)) ∧ (0 ≤ (wr ((wr (4 * (wr ((wr (60 * a1)) + (mA m (mR m 718 a0) (Int.toNat a1)))))) + 1)) ∧ (wr ((wr (4 * (wr ((wr (60 * a1)) + (mA m (mR m 718 a0) (Int.toNat a1)))))) + 1)) < mN m (mR m 717 a0)) ∧ (((mA m (mR m 717 a0) (Int.toNat (wr (4 * (wr ((wr (60 * a1)) + (mA m (mR m 718 a0) (Int.toNat a1)))))))) ≠ 0 → (((mA m (mR m 717 a0) (Int.toNat (wr (4 * (wr ((wr (60 * a1)) + (mA m (mR m 718 a0) (Int.toNat a1)))))))) ≠ 1 → (((mA m (mR m 717 a0) (Int.toNat (wr (4 * (wr ((wr (60 * a1)) + (mA m (mR m 718 a0) (Int.toNat a1)))))))) ≠ 2 → (((mA m (mR m 717 a0) (Int.toNat (wr (4 * (wr ((wr (60 * a1)) + (mA m (mR m 718 a0) (Int.toNat a1)))))))) ≠ 5 → (((mA m (mR m 717 a0) (Int.toNat (wr (4 * (wr ((wr (60 * a1)) + (mA m (mR m 718 a0) (Int.toNat a1)))))))) ≠ 7 → zC xs xl d 152 [zR a0, zI a1, zI (mA m (mR m 717 a0) (Int.toNat (wr (4 * (wr ((wr (60 * a1)) + (mA m (mR m 718 a0) (Int.toNat a1)))))))), zI (mA m (mR m 717 a0) (Int.toNat (wr ((wr (4 * (wr ((wr (60 * a1)) + (mA m (mR m 718 a0) (Int.toNat a1)))))) + 1))))] m (fun r m7 => ∃ v8 : Int, r = .inl (some (zI v8)) ∧ zW xs xl d cX11_act 11 (none) false [] 176 [zR a0, zI a1, zI (wr (4 * (wr ((wr (60 * a1)) + (mA m (mR m 718 a0) (Int.toNat a1)))))), zI (mA m (mR m 717 a0) (Int.toNat (wr (4 * (wr ((wr (60 * a1)) + (mA m (mR m 718 a0) (Int.toNat a1)))))))), zI (mA m (mR m 717 a0) (Int.toNat (wr ((wr (4 * (wr ((wr (60 * a1)) + (mA m (mR m 718 a0) (Int.toNat a1)))))) + 1)))), zI v8] [] m7 Q)) ∧ (¬ ((mA m (mR m 717 a0) (Int.toNat (wr (4 * (wr ((wr (60 * a1)) + (mA m (mR m 718 a0) (Int.toNat a1)))))))) ≠ 7) → zC xs xl d 154 [zR a0, zI a1] m (fun r m9 => ∃ v10 : Int, r = .inl (some (zI v10)) ∧ zW xs xl d cX11_act 11 (none) false [] 176 [zR a0, zI a1, zI (wr (4 * (wr ((wr (60 * a1)) + (mA m (mR m 718 a0) (Int.toNat a1)))))), zI (mA m (mR m 717 a0) (Int.toNat (wr (4 * (wr ((wr (60 * a1)) + (mA m (mR m 718 a0) (Int.toNat a1)))))))), zI (mA m (mR m 717 a0) (Int.toNat (wr ((wr (4 * (wr ((wr (60 * a1)) + (mA m (mR m 718 a0) (Int.toNat a1)))))) + 1)))), zI v10] [] m9 Q)))) ∧ (¬ ((mA m (mR m 717 a0) (Int.toNat (wr (4 * (wr ((wr (60 * a1)) + (mA m (mR m 718 a0) (Int.toNat a1)))))))) ≠ 5) → zC xs xl d 153 [zR a0, zI a1, zI (wr (4 * (wr ((wr (60 * a1)) + (mA m (mR m 718 a0) (Int.toNat a1))))))] m (fun r m11 => ∃ v12 : Int, r = .inl (some (zI v12)) ∧ zW xs xl d cX11_act 11 (none) false [] 176 [zR a0, zI a1, zI (wr (4 * (wr ((wr (60 * a1)) + (mA m (mR m 718 a0) (Int.toNat a1)))))), zI (mA m (mR m 717 a0) (Int.toNat (wr (4 * (wr ((wr (60 * a1)) + (mA m (mR m 718 a0) (Int.toNat a1)))))))), zI (mA m (mR m 717 a0) (Int.toNat (wr ((wr (4 * (wr ((wr (60 * a1)) + (mA m (mR m 718 a0) (Int.toNat a1)))))) + 1)))), zI v12] [] m11 Q)))) ∧ (¬ ((mA m (mR m 717 a0) (Int.toNat (wr (4 * (wr ((wr (60 * a1)) + (mA m (mR m 718 a0) (Int.toNat a1)))))))) ≠ 2) → (0 ≤ (wr ((wr (4 * (wr ((wr (60 * a1)) + (mA m (mR m 718 a0) (Int.toNat a1)))))) + 2)) ∧ (wr ((wr (4 * (wr ((wr (60 * a1)) + (mA m (mR m 718 a0) (Int.toNat a1)))))) + 2)) < mN m (mR m 717 a0)) ∧ zC xs xl d 149 [zR a0, zI a1, zI (mA m (mR m 717 a0) (Int.toNat (wr ((wr (4 * (wr ((wr (60 * a1)) + (mA m (mR m 718 a0) (Int.toNat a1)))))) + 1)))), zI (mA m (mR m 717 a0) (Int.toNat (wr ((wr (4 * (wr ((wr (60 * a1)) + (mA m (mR m 718 a0) (Int.toNat a1)))))) + 2))))] m (fun r m14 => ∃ v15 : Int, r = .inl (some (zI v15)) ∧ zW xs xl d cX11_act 11 (none) false [] 176 [zR a0, zI a1, zI (wr (4 * (wr ((wr (60 * a1)) + (mA m (mR m 718 a0) (Int.toNat a1)))))), zI (mA m (mR m 717 a0) (Int.toNat (wr (4 * (wr ((wr (60 * a1)) + (mA m (mR m 718 a0) (Int.toNat a1)))))))), zI (mA m (mR m 717 a0) (Int.toNat (wr ((wr (4 * (wr ((wr (60 * a1)) + (mA m (mR m 718 a0) (Int.toNat a1)))))) + 1)))), zI v15] [] m14 Q)))) ∧ (¬ ((mA m (mR m 717 a0) (Int.toNat (wr (4 * (wr ((wr (60 * a1)) + (mA m (mR m 718 a0) (Int.toNat a1)))))))) ≠ 1) → (mC m (mR m 725 a0) = 20) ∧ (0 ≤ a1 ∧ a1 < mN m (mR m 725 a0)) ∧ zW xs xl d cX11_act 11 (none) false [] 176 [zR a0, zI a1, zI (wr (4 * (wr ((wr (60 * a1)) + (mA m (mR m 718 a0) (Int.toNat a1)))))), zI (mA m (mR m 717 a0) (Int.toNat (wr (4 * (wr ((wr (60 * a1)) + (mA m (mR m 718 a0) (Int.toNat a1)))))))), zI (mA m (mR m 717 a0) (Int.toNat (wr ((wr (4 * (wr ((wr (60 * a1)) + (mA m (mR m 718 a0) (Int.toNat a1)))))) + 1)))), zI 1] [] (sA m (mR m 725 a0) (Int.toNat a1) (bAnd (mA m (mR m 725 a0) (Int.toNat a1)) (bXor (bShl 1 (mA m (mR m 717 a0) (Int.toNat (wr ((wr (4 * (wr ((wr (60 * a1)) + (mA m (mR m 718 a0) (Int.toNat a1)))))) + 1))))) (-1)))) Q))) ∧ (¬ ((mA m (mR m 717 a0) (Int.toNat (wr (4 * (wr ((wr (60 * a1)) + (mA m (mR m 718 a0) (Int.toNat a1)))))))) ≠ 0) → (mC m (mR m 725 a0) = 20) ∧ (0 ≤ a1 ∧ a1 < mN m (mR m 725 a0)) ∧ (((bAnd (bShr (mA m (mR m 725 a0) (Int.toNat a1)) (mA m (mR m 717 a0) (Int.toNat (wr ((wr (4 * (wr ((wr (60 * a1)) + (mA m (mR m 718 a0) (Int.toNat a1)))))) + 1))))) 1) ≠ 1 → (mC m (mR m 726 a0) = 20) ∧ (0 ≤ a1 ∧ a1 < mN m (mR m 726 a0)) ∧ (((mA m (mR m 726 a0) (Int.toNat a1)) ≠ (-1) → zW xs xl d cX11_act 11 (none) false [] 176 [zR a0, zI a1, zI (wr (4 * (wr ((wr (60 * a1)) + (mA m (mR m 718 a0) (Int.toNat a1)))))), zI (mA m (mR m 717 a0) (Int.toNat (wr (4 * (wr ((wr (60 * a1)) + (mA m (mR m 718 a0) (Int.toNat a1)))))))), zI (mA m (mR m 717 a0) (Int.toNat (wr ((wr (4 * (wr ((wr (60 * a1)) + (mA m (mR m 718 a0) (Int.toNat a1)))))) + 1)))), zI 0] [] m Q) ∧ (¬ ((mA m (mR m 726 a0) (Int.toNat a1)) ≠ (-1)) → zC xs xl d 142 [zR a0, zI a1, zI (mA m (mR m 717 a0) (Int.toNat (wr ((wr (4 * (wr ((wr (60 * a1)) + (mA m (mR m 718 a0) (Int.toNat a1)))))) + 1)))), zI 0] m (fun r m22 => r = .inl none ∧ zW xs xl d cX11_act 11 (none) false [] 176 [zR a0, zI a1, zI (wr (4 * (wr ((wr (60 * a1)) + (mA m (mR m 718 a0) (Int.toNat a1)))))), zI (mA m (mR m 717 a0) (Int.toNat (wr (4 * (wr ((wr (60 * a1)) + (mA m (mR m 718 a0) (Int.toNat a1)))))))), zI (mA m (mR m 717 a0) (Int.toNat (wr ((wr (4 * (wr ((wr (60 * a1)) + (mA m (mR m 718 a0) (Int.toNat a1)))))) + 1)))), zI 0] [] m22 Q)))) ∧ (¬ ((bAnd (bShr (mA m (mR m 725 a0) (Int.toNat a1)) (mA m (mR m 717 a0) (Int.toNat (wr ((wr (4 * (wr ((wr (60 * a1)) + (mA m (mR m 718 a0) (Int.toNat a1)))))) + 1))))) 1) ≠ 1) → zW xs xl d cX11_act 11 (none) false [] 176 [zR a0, zI a1, zI (wr (4 * (wr ((wr (60 * a1)) + (mA m (mR m 718 a0) (Int.toNat a1)))))), zI (mA m (mR m 717 a0) (Int.toNat (wr (4 * (wr ((wr (60 * a1)) + (mA m (mR m 718 a0) (Int.toNat a1)))))))), zI (mA m (mR m 717 a0) (Int.toNat (wr ((wr (4 * (wr ((wr (60 * a1)) + (mA m (mR m 718 a0) (Int.toNat a1)))))) + 1)))), zI 1] [] m Q))))) : zC xs xl (d + 1) 148 [zR a0, zI a1] m Q := by
  refine zk_148 ?_
  refine (zq_iconst (v := 4) dX11_act_0 (by decide)).mpr ?_
  refine (zq_bipush (v := 60) dX11_act_1 (by decide)).mpr ?_
  refine (zq_iload_n dX11_act_3 rfl).mpr ?_
  refine (zq_imul dX11_act_4).mpr ?_
  refine (zq_aload_n dX11_act_5 rfl).mpr ?_
  obtain ⟨g1, h⟩ := h
  refine (zq_getR2 (f := 718) (v := (mR m 718 a0)) dX11_act_6 fl_11_46 (by decide) rfl rfl (by first | rfl | simp only [zm_Is, zm_Rs, zm_As, zm_Os, zm_In0, zm_Rn0])).mpr ⟨g1, ?_⟩
  refine (zq_iload_n dX11_act_9 rfl).mpr ?_
  obtain ⟨g2, h⟩ := h
  obtain ⟨g3, h⟩ := h
  refine (zq_iald2 (v := (mA m (mR m 718 a0) (Int.toNat a1))) dX11_act_10 (by first | rfl | simp only [zm_Is, zm_Rs, zm_As, zm_Os, zm_In0, zm_Rn0])).mpr ⟨⟨g2, g3⟩, ?_⟩
  refine (zq_iadd dX11_act_11).mpr ?_
  refine (zq_imul dX11_act_12).mpr ?_
  refine (zq_istore_n (l := [zR a0, zI a1, zI (wr (4 * (wr ((wr (60 * a1)) + (mA m (mR m 718 a0) (Int.toNat a1)))))), zU, zU, zU]) dX11_act_13 (Nat.le_of_ble_eq_true rfl) rfl).mpr ?_
  refine (zq_aload_n dX11_act_14 rfl).mpr ?_
  refine (zq_getR2 (f := 717) (v := (mR m 717 a0)) dX11_act_15 fl_11_43 (by decide) rfl rfl (by first | rfl | simp only [zm_Is, zm_Rs, zm_As, zm_Os, zm_In0, zm_Rn0])).mpr ⟨g1, ?_⟩
  refine (zq_iload_n dX11_act_18 rfl).mpr ?_
  obtain ⟨g4, h⟩ := h
  obtain ⟨g5, h⟩ := h
  refine (zq_iald2 (v := (mA m (mR m 717 a0) (Int.toNat (wr (4 * (wr ((wr (60 * a1)) + (mA m (mR m 718 a0) (Int.toNat a1))))))))) dX11_act_19 (by first | rfl | simp only [zm_Is, zm_Rs, zm_As, zm_Os, zm_In0, zm_Rn0])).mpr ⟨⟨g4, g5⟩, ?_⟩
  refine (zq_istore_n (l := [zR a0, zI a1, zI (wr (4 * (wr ((wr (60 * a1)) + (mA m (mR m 718 a0) (Int.toNat a1)))))), zI (mA m (mR m 717 a0) (Int.toNat (wr (4 * (wr ((wr (60 * a1)) + (mA m (mR m 718 a0) (Int.toNat a1)))))))), zU, zU]) dX11_act_20 (Nat.le_of_ble_eq_true rfl) rfl).mpr ?_
  refine (zq_aload_n dX11_act_21 rfl).mpr ?_
  refine (zq_getR2 (f := 717) (v := (mR m 717 a0)) dX11_act_22 fl_11_43 (by decide) rfl rfl (by first | rfl | simp only [zm_Is, zm_Rs, zm_As, zm_Os, zm_In0, zm_Rn0])).mpr ⟨g1, ?_⟩
  refine (zq_iload_n dX11_act_25 rfl).mpr ?_
  refine (zq_iconst (v := 1) dX11_act_26 (by decide)).mpr ?_
  refine (zq_iadd dX11_act_27).mpr ?_
  obtain ⟨g6, h⟩ := h
  refine (zq_iald2 (v := (mA m (mR m 717 a0) (Int.toNat (wr ((wr (4 * (wr ((wr (60 * a1)) + (mA m (mR m 718 a0) (Int.toNat a1)))))) + 1))))) dX11_act_28 (by first | rfl | simp only [zm_Is, zm_Rs, zm_As, zm_Os, zm_In0, zm_Rn0])).mpr ⟨⟨g4, g6⟩, ?_⟩
  refine (zq_istore (l := [zR a0, zI a1, zI (wr (4 * (wr ((wr (60 * a1)) + (mA m (mR m 718 a0) (Int.toNat a1)))))), zI (mA m (mR m 717 a0) (Int.toNat (wr (4 * (wr ((wr (60 * a1)) + (mA m (mR m 718 a0) (Int.toNat a1)))))))), zI (mA m (mR m 717 a0) (Int.toNat (wr ((wr (4 * (wr ((wr (60 * a1)) + (mA m (mR m 718 a0) (Int.toNat a1)))))) + 1)))), zU]) dX11_act_29 (Nat.le_of_ble_eq_true rfl) rfl).mpr ?_
  refine (zq_iload_n dX11_act_31 rfl).mpr ?_
  refine (zq_if_ne (t := 83) dX11_act_32 rfl).mpr ⟨fun c => ?_, fun c => ?_⟩
  · replace h := h.1 c
    refine (zq_iload_n dX11_act_83 rfl).mpr ?_
    refine (zq_iconst (v := 1) dX11_act_84 (by decide)).mpr ?_
    refine (zq_icmp_ne (t := 109) dX11_act_85 rfl).mpr ⟨fun c => ?_, fun c => ?_⟩
    · replace h := h.1 c
      refine (zq_iload_n dX11_act_109 rfl).mpr ?_
      refine (zq_iconst (v := 2) dX11_act_110 (by decide)).mpr ?_
      refine (zq_icmp_ne (t := 134) dX11_act_111 rfl).mpr ⟨fun c => ?_, fun c => ?_⟩
      · replace h := h.1 c
        refine (zq_iload_n dX11_act_134 rfl).mpr ?_
        refine (zq_iconst (v := 5) dX11_act_135 (by decide)).mpr ?_
        refine (zq_icmp_ne (t := 150) dX11_act_136 rfl).mpr ⟨fun c => ?_, fun c => ?_⟩
        · replace h := h.1 c
          refine (zq_iload_n dX11_act_150 rfl).mpr ?_
          refine (zq_bipush (v := 7) dX11_act_151 (by decide)).mpr ?_
          refine (zq_icmp_ne (t := 166) dX11_act_153 rfl).mpr ⟨fun c => ?_, fun c => ?_⟩
          · replace h := h.1 c
            refine (zq_aload_n dX11_act_166 rfl).mpr ?_
            refine (zq_iload_n dX11_act_167 rfl).mpr ?_
            refine (zq_iload_n dX11_act_168 rfl).mpr ?_
            refine (zq_iload dX11_act_169 rfl).mpr ?_
            refine zq_virtualI (n := 3) dX11_act_171 mr_11_193 zn_152 rfl rfl rfl (zrcv_R zo_152 (by decide) g1) (Nat.le_of_ble_eq_true rfl) ?_
            refine h.mono (fun r m7 h => ?_)
            obtain ⟨v8, rfl, h⟩ := h
            refine ⟨_, rfl, ?_⟩
            refine (zq_istore (l := [zR a0, zI a1, zI (wr (4 * (wr ((wr (60 * a1)) + (mA m (mR m 718 a0) (Int.toNat a1)))))), zI (mA m (mR m 717 a0) (Int.toNat (wr (4 * (wr ((wr (60 * a1)) + (mA m (mR m 718 a0) (Int.toNat a1)))))))), zI (mA m (mR m 717 a0) (Int.toNat (wr ((wr (4 * (wr ((wr (60 * a1)) + (mA m (mR m 718 a0) (Int.toNat a1)))))) + 1)))), zI v8]) dX11_act_174 (Nat.le_of_ble_eq_true rfl) rfl).mpr ?_
            exact h
          · replace h := h.2 c
            refine (zq_aload_n dX11_act_156 rfl).mpr ?_
            refine (zq_iload_n dX11_act_157 rfl).mpr ?_
            refine zq_virtualI (n := 1) dX11_act_158 mr_11_189 zn_154 rfl rfl rfl (zrcv_R zo_154 (by decide) g1) (Nat.le_of_ble_eq_true rfl) ?_
            refine h.mono (fun r m9 h => ?_)
            obtain ⟨v10, rfl, h⟩ := h
            refine ⟨_, rfl, ?_⟩
            refine (zq_istore (l := [zR a0, zI a1, zI (wr (4 * (wr ((wr (60 * a1)) + (mA m (mR m 718 a0) (Int.toNat a1)))))), zI (mA m (mR m 717 a0) (Int.toNat (wr (4 * (wr ((wr (60 * a1)) + (mA m (mR m 718 a0) (Int.toNat a1)))))))), zI (mA m (mR m 717 a0) (Int.toNat (wr ((wr (4 * (wr ((wr (60 * a1)) + (mA m (mR m 718 a0) (Int.toNat a1)))))) + 1)))), zI v10]) dX11_act_161 (Nat.le_of_ble_eq_true rfl) rfl).mpr ?_
            refine (zq_goto (t := 176) dX11_act_163 rfl).mpr ?_
            exact h
        · replace h := h.2 c
          refine (zq_aload_n dX11_act_139 rfl).mpr ?_
          refine (zq_iload_n dX11_act_140 rfl).mpr ?_
          refine (zq_iload_n dX11_act_141 rfl).mpr ?_
          refine zq_virtualI (n := 2) dX11_act_142 mr_11_186 zn_153 rfl rfl rfl (zrcv_R zo_153 (by decide) g1) (Nat.le_of_ble_eq_true rfl) ?_
          refine h.mono (fun r m11 h => ?_)
          obtain ⟨v12, rfl, h⟩ := h
          refine ⟨_, rfl, ?_⟩
          refine (zq_istore (l := [zR a0, zI a1, zI (wr (4 * (wr ((wr (60 * a1)) + (mA m (mR m 718 a0) (Int.toNat a1)))))), zI (mA m (mR m 717 a0) (Int.toNat (wr (4 * (wr ((wr (60 * a1)) + (mA m (mR m 718 a0) (Int.toNat a1)))))))), zI (mA m (mR m 717 a0) (Int.toNat (wr ((wr (4 * (wr ((wr (60 * a1)) + (mA m (mR m 718 a0) (Int.toNat a1)))))) + 1)))), zI v12]) dX11_act_145 (Nat.le_of_ble_eq_true rfl) rfl).mpr ?_
          refine (zq_goto (t := 176) dX11_act_147 rfl).mpr ?_
          exact h
      · replace h := h.2 c
        refine (zq_aload_n dX11_act_114 rfl).mpr ?_
        refine (zq_iload_n dX11_act_115 rfl).mpr ?_
        refine (zq_iload dX11_act_116 rfl).mpr ?_
        refine (zq_aload_n dX11_act_118 rfl).mpr ?_
        refine (zq_getR2 (f := 717) (v := (mR m 717 a0)) dX11_act_119 fl_11_43 (by decide) rfl rfl (by first | rfl | simp only [zm_Is, zm_Rs, zm_As, zm_Os, zm_In0, zm_Rn0])).mpr ⟨g1, ?_⟩
        refine (zq_iload_n dX11_act_122 rfl).mpr ?_
        refine (zq_iconst (v := 2) dX11_act_123 (by decide)).mpr ?_
        refine (zq_iadd dX11_act_124).mpr ?_
        obtain ⟨g13, h⟩ := h
        refine (zq_iald2 (v := (mA m (mR m 717 a0) (Int.toNat (wr ((wr (4 * (wr ((wr (60 * a1)) + (mA m (mR m 718 a0) (Int.toNat a1)))))) + 2))))) dX11_act_125 (by first | rfl | simp only [zm_Is, zm_Rs, zm_As, zm_Os, zm_In0, zm_Rn0])).mpr ⟨⟨g4, g13⟩, ?_⟩
        refine zq_virtualI (n := 3) dX11_act_126 mr_11_182 zn_149 rfl rfl rfl (zrcv_R zo_149 (by decide) g1) (Nat.le_of_ble_eq_true rfl) ?_
        refine h.mono (fun r m14 h => ?_)
        obtain ⟨v15, rfl, h⟩ := h
        refine ⟨_, rfl, ?_⟩
        refine (zq_istore (l := [zR a0, zI a1, zI (wr (4 * (wr ((wr (60 * a1)) + (mA m (mR m 718 a0) (Int.toNat a1)))))), zI (mA m (mR m 717 a0) (Int.toNat (wr (4 * (wr ((wr (60 * a1)) + (mA m (mR m 718 a0) (Int.toNat a1)))))))), zI (mA m (mR m 717 a0) (Int.toNat (wr ((wr (4 * (wr ((wr (60 * a1)) + (mA m (mR m 718 a0) (Int.toNat a1)))))) + 1)))), zI v15]) dX11_act_129 (Nat.le_of_ble_eq_true rfl) rfl).mpr ?_
        refine (zq_goto (t := 176) dX11_act_131 rfl).mpr ?_
        exact h
    · replace h := h.2 c
      refine (zq_aload_n dX11_act_88 rfl).mpr ?_
      refine (zq_getR2 (f := 725) (v := (mR m 725 a0)) dX11_act_89 fl_11_67 (by decide) rfl rfl (by first | rfl | simp only [zm_Is, zm_Rs, zm_As, zm_Os, zm_In0, zm_Rn0])).mpr ⟨g1, ?_⟩
      refine (zq_iload_n dX11_act_92 rfl).mpr ?_
      refine (zq_dup2IR dX11_act_93).mpr ?_
      obtain ⟨g16, h⟩ := h
      obtain ⟨g17, h⟩ := h
      refine (zq_iald2 (v := (mA m (mR m 725 a0) (Int.toNat a1))) dX11_act_94 (by first | rfl | simp only [zm_Is, zm_Rs, zm_As, zm_Os, zm_In0, zm_Rn0])).mpr ⟨⟨g16, g17⟩, ?_⟩
      refine (zq_iconst (v := 1) dX11_act_95 (by decide)).mpr ?_
      refine (zq_iload dX11_act_96 rfl).mpr ?_
      refine (zq_ishl dX11_act_98).mpr ?_
      refine (zq_iconst (v := (-1)) dX11_act_99 (by decide)).mpr ?_
      refine (zq_ixor dX11_act_100).mpr ?_
      refine (zq_iand dX11_act_101).mpr ?_
      refine (zq_iast dX11_act_102).mpr ⟨⟨g16, g17⟩, ?_⟩
      refine (zq_iconst (v := 1) dX11_act_103 (by decide)).mpr ?_
      refine (zq_istore (l := [zR a0, zI a1, zI (wr (4 * (wr ((wr (60 * a1)) + (mA m (mR m 718 a0) (Int.toNat a1)))))), zI (mA m (mR m 717 a0) (Int.toNat (wr (4 * (wr ((wr (60 * a1)) + (mA m (mR m 718 a0) (Int.toNat a1)))))))), zI (mA m (mR m 717 a0) (Int.toNat (wr ((wr (4 * (wr ((wr (60 * a1)) + (mA m (mR m 718 a0) (Int.toNat a1)))))) + 1)))), zI 1]) dX11_act_104 (Nat.le_of_ble_eq_true rfl) rfl).mpr ?_
      refine (zq_goto (t := 176) dX11_act_106 rfl).mpr ?_
      exact h
  · replace h := h.2 c
    refine (zq_aload_n dX11_act_35 rfl).mpr ?_
    refine (zq_getR2 (f := 725) (v := (mR m 725 a0)) dX11_act_36 fl_11_67 (by decide) rfl rfl (by first | rfl | simp only [zm_Is, zm_Rs, zm_As, zm_Os, zm_In0, zm_Rn0])).mpr ⟨g1, ?_⟩
    refine (zq_iload_n dX11_act_39 rfl).mpr ?_
    obtain ⟨g18, h⟩ := h
    obtain ⟨g19, h⟩ := h
    refine (zq_iald2 (v := (mA m (mR m 725 a0) (Int.toNat a1))) dX11_act_40 (by first | rfl | simp only [zm_Is, zm_Rs, zm_As, zm_Os, zm_In0, zm_Rn0])).mpr ⟨⟨g18, g19⟩, ?_⟩
    refine (zq_iload dX11_act_41 rfl).mpr ?_
    refine (zq_ishr dX11_act_43).mpr ?_
    refine (zq_iconst (v := 1) dX11_act_44 (by decide)).mpr ?_
    refine (zq_iand dX11_act_45).mpr ?_
    refine (zq_iconst (v := 1) dX11_act_46 (by decide)).mpr ?_
    refine (zq_icmp_ne (t := 54) dX11_act_47 rfl).mpr ⟨fun c => ?_, fun c => ?_⟩
    · replace h := h.1 c
      refine (zq_iconst (v := 0) dX11_act_54 (by decide)).mpr ?_
      refine (zq_istore (l := [zR a0, zI a1, zI (wr (4 * (wr ((wr (60 * a1)) + (mA m (mR m 718 a0) (Int.toNat a1)))))), zI (mA m (mR m 717 a0) (Int.toNat (wr (4 * (wr ((wr (60 * a1)) + (mA m (mR m 718 a0) (Int.toNat a1)))))))), zI (mA m (mR m 717 a0) (Int.toNat (wr ((wr (4 * (wr ((wr (60 * a1)) + (mA m (mR m 718 a0) (Int.toNat a1)))))) + 1)))), zI 0]) dX11_act_55 (Nat.le_of_ble_eq_true rfl) rfl).mpr ?_
      refine (zq_iload dX11_act_57 rfl).mpr ?_
      refine (zq_if_ne (t := 176) dX11_act_59 rfl).mpr ⟨fun c => absurd c (by decide), fun _ => ?_⟩
      refine (zq_aload_n dX11_act_62 rfl).mpr ?_
      refine (zq_getR2 (f := 726) (v := (mR m 726 a0)) dX11_act_63 fl_11_70 (by decide) rfl rfl (by first | rfl | simp only [zm_Is, zm_Rs, zm_As, zm_Os, zm_In0, zm_Rn0])).mpr ⟨g1, ?_⟩
      refine (zq_iload_n dX11_act_66 rfl).mpr ?_
      obtain ⟨g20, h⟩ := h
      obtain ⟨g21, h⟩ := h
      refine (zq_iald2 (v := (mA m (mR m 726 a0) (Int.toNat a1))) dX11_act_67 (by first | rfl | simp only [zm_Is, zm_Rs, zm_As, zm_Os, zm_In0, zm_Rn0])).mpr ⟨⟨g20, g21⟩, ?_⟩
      refine (zq_iconst (v := (-1)) dX11_act_68 (by decide)).mpr ?_
      refine (zq_icmp_ne (t := 176) dX11_act_69 rfl).mpr ⟨fun c => ?_, fun c => ?_⟩
      · replace h := h.1 c
        exact h
      · replace h := h.2 c
        refine (zq_aload_n dX11_act_72 rfl).mpr ?_
        refine (zq_iload_n dX11_act_73 rfl).mpr ?_
        refine (zq_iload dX11_act_74 rfl).mpr ?_
        refine (zq_iconst (v := 0) dX11_act_76 (by decide)).mpr ?_
        refine zq_virtualV (n := 3) dX11_act_77 mr_11_178 zn_142 rfl rfl rfl (zrcv_R zo_142 (by decide) g1) (Nat.le_of_ble_eq_true rfl) ?_
        refine h.mono (fun r m22 h => ?_)
        obtain ⟨rfl, h⟩ := h
        refine ⟨rfl, ?_⟩
        refine (zq_goto (t := 176) dX11_act_80 rfl).mpr ?_
        exact h
    · replace h := h.2 c
      refine (zq_iconst (v := 1) dX11_act_50 (by decide)).mpr ?_
      refine (zq_goto (t := 55) dX11_act_51 rfl).mpr ?_
      refine (zq_istore (l := [zR a0, zI a1, zI (wr (4 * (wr ((wr (60 * a1)) + (mA m (mR m 718 a0) (Int.toNat a1)))))), zI (mA m (mR m 717 a0) (Int.toNat (wr (4 * (wr ((wr (60 * a1)) + (mA m (mR m 718 a0) (Int.toNat a1)))))))), zI (mA m (mR m 717 a0) (Int.toNat (wr ((wr (4 * (wr ((wr (60 * a1)) + (mA m (mR m 718 a0) (Int.toNat a1)))))) + 1)))), zI 1]) dX11_act_55 (Nat.le_of_ble_eq_true rfl) rfl).mpr ?_
      refine (zq_iload dX11_act_57 rfl).mpr ?_
      refine (zq_if_ne (t := 176) dX11_act_59 rfl).mpr ⟨fun _ => ?_, fun c => absurd (by decide) c⟩
      exact h
theorem bX11_act_176 {a0 : Nat} {a1 : Int} {a2 : Int} {a3 : Int} {a4 : Int} {a5 : Int} (h : ((a5 ≠ 0 → (mC m a0 = 12) ∧ (mC m (mR m 718 a0) = 20) ∧ (0 ≤ a1 ∧ a1 < mN m (mR m 718 a0)) ∧ (0 ≤ a1 ∧ a1 < mN m (mR m 720 a0)) ∧ (mC m (mR m 720 a0) = 20) ∧ (mC m (mR m 716 a0) = 20) ∧ (0 ≤ a1 ∧ a1 < mN m (mR m 716 a0)) ∧ (((mA (sA (sA m (mR m 718 a0) (Int.toNat a1) (wr ((mA m (mR m 718 a0) (Int.toNat a1)) + 1))) (mR m 720 a0) (Int.toNat a1) 0) (mR m 718 a0) (Int.toNat a1)) ≠ (mA (sA (sA m (mR m 718 a0) (Int.toNat a1) (wr ((mA m (mR m 718 a0) (Int.toNat a1)) + 1))) (mR m 720 a0) (Int.toNat a1) 0) (mR m 716 a0) (Int.toNat a1)) → Q (.inl none) (sA (sA m (mR m 718 a0) (Int.toNat a1) (wr ((mA m (mR m 718 a0) (Int.toNat a1)) + 1))) (mR m 720 a0) (Int.toNat a1) 0)) ∧ (¬ ((mA (sA (sA m (mR m 718 a0) (Int.toNat a1) (wr ((mA m (mR m 718 a0) (Int.toNat a1)) + 1))) (mR m 720 a0) (Int.toNat a1) 0) (mR m 718 a0) (Int.toNat a1)) ≠ (mA (sA (sA m (mR m 718 a0) (Int.toNat a1) (wr ((mA m (mR m 718 a0) (Int.toNat a1)) + 1))) (mR m 720 a0) (Int.toNat a1) 0) (mR m 716 a0) (Int.toNat a1))) → zC xs xl d 157 [zR a0, zI a1] (sA (sA m (mR m 718 a0) (Int.toNat a1) (wr ((mA m (mR m 718 a0) (Int.toNat a1)) + 1))) (mR m 720 a0) (Int.toNat a1) 0) (fun r m8 => r = .inl none ∧ Q (.inl none) m8)))) ∧ (¬ (a5 ≠ 0) → Q (.inl none) m))) : zW xs xl d cX11_act 11 (none) false [] 176 [zR a0, zI a1, zI a2, zI a3, zI a4, zI a5] [] m Q := by
  refine (zq_iload dX11_act_176 rfl).mpr ?_
  refine (zq_if_ne (t := 182) dX11_act_178 rfl).mpr ⟨fun c => ?_, fun c => ?_⟩
  · replace h := h.1 c
    refine (zq_aload_n dX11_act_182 rfl).mpr ?_
    obtain ⟨g1, h⟩ := h
    refine (zq_getR2 (f := 718) (v := (mR m 718 a0)) dX11_act_183 fl_11_46 (by decide) rfl rfl (by first | rfl | simp only [zm_Is, zm_Rs, zm_As, zm_Os, zm_In0, zm_Rn0])).mpr ⟨g1, ?_⟩
    refine (zq_iload_n dX11_act_186 rfl).mpr ?_
    refine (zq_dup2IR dX11_act_187).mpr ?_
    obtain ⟨g2, h⟩ := h
    obtain ⟨g3, h⟩ := h
    refine (zq_iald2 (v := (mA m (mR m 718 a0) (Int.toNat a1))) dX11_act_188 (by first | rfl | simp only [zm_Is, zm_Rs, zm_As, zm_Os, zm_In0, zm_Rn0])).mpr ⟨⟨g2, g3⟩, ?_⟩
    refine (zq_iconst (v := 1) dX11_act_189 (by decide)).mpr ?_
    refine (zq_iadd dX11_act_190).mpr ?_
    refine (zq_iast dX11_act_191).mpr ⟨⟨g2, g3⟩, ?_⟩
    refine (zq_aload_n dX11_act_192 rfl).mpr ?_
    refine (zq_getR2 (f := 720) (v := (mR m 720 a0)) dX11_act_193 fl_11_52 (by decide) rfl rfl (by first | rfl | simp only [zm_Is, zm_Rs, zm_As, zm_Os, zm_In0, zm_Rn0])).mpr ⟨g1, ?_⟩
    refine (zq_iload_n dX11_act_196 rfl).mpr ?_
    refine (zq_iconst (v := 0) dX11_act_197 (by decide)).mpr ?_
    obtain ⟨g4, h⟩ := h
    obtain ⟨g5, h⟩ := h
    refine (zq_iast dX11_act_198).mpr ⟨⟨g5, g4⟩, ?_⟩
    refine (zq_aload_n dX11_act_199 rfl).mpr ?_
    refine (zq_getR2 (f := 718) (v := (mR m 718 a0)) dX11_act_200 fl_11_46 (by decide) rfl rfl (by first | rfl | simp only [zm_Is, zm_Rs, zm_As, zm_Os, zm_In0, zm_Rn0])).mpr ⟨g1, ?_⟩
    refine (zq_iload_n dX11_act_203 rfl).mpr ?_
    refine (zq_iald2 (v := (mA (sA (sA m (mR m 718 a0) (Int.toNat a1) (wr ((mA m (mR m 718 a0) (Int.toNat a1)) + 1))) (mR m 720 a0) (Int.toNat a1) 0) (mR m 718 a0) (Int.toNat a1))) dX11_act_204 (by first | rfl | simp only [zm_Is, zm_Rs, zm_As, zm_Os, zm_In0, zm_Rn0])).mpr ⟨⟨g2, g3⟩, ?_⟩
    refine (zq_aload_n dX11_act_205 rfl).mpr ?_
    refine (zq_getR2 (f := 716) (v := (mR m 716 a0)) dX11_act_206 fl_11_40 (by decide) rfl rfl (by first | rfl | simp only [zm_Is, zm_Rs, zm_As, zm_Os, zm_In0, zm_Rn0])).mpr ⟨g1, ?_⟩
    refine (zq_iload_n dX11_act_209 rfl).mpr ?_
    obtain ⟨g6, h⟩ := h
    obtain ⟨g7, h⟩ := h
    refine (zq_iald2 (v := (mA (sA (sA m (mR m 718 a0) (Int.toNat a1) (wr ((mA m (mR m 718 a0) (Int.toNat a1)) + 1))) (mR m 720 a0) (Int.toNat a1) 0) (mR m 716 a0) (Int.toNat a1))) dX11_act_210 (by first | rfl | simp only [zm_Is, zm_Rs, zm_As, zm_Os, zm_In0, zm_Rn0])).mpr ⟨⟨g6, g7⟩, ?_⟩
    refine (zq_icmp_ne (t := 219) dX11_act_211 rfl).mpr ⟨fun c => ?_, fun c => ?_⟩
    · replace h := h.1 c
      exact (zq_ret dX11_act_219 rfl).mpr h
    · replace h := h.2 c
      refine (zq_aload_n dX11_act_214 rfl).mpr ?_
      refine (zq_iload_n dX11_act_215 rfl).mpr ?_
      refine zq_virtualV (n := 1) dX11_act_216 mr_11_196 zn_157 rfl rfl rfl (zrcv_R zo_157 (by decide) g1) (Nat.le_of_ble_eq_true rfl) ?_
      refine h.mono (fun r m8 h => ?_)
      obtain ⟨rfl, h⟩ := h
      refine ⟨rfl, ?_⟩
      exact (zq_ret dX11_act_219 rfl).mpr h
  · replace h := h.2 c
    exact (zq_ret dX11_act_181 rfl).mpr h
theorem bX11_cut_0 {a0 : Nat} {a1 : Int} {a2 : Int} {a3 : Int} (h : (mC m a0 = 12) ∧ zC xs xl d 136 [zR a0, zI a2, zI a3] m (fun r m1 => ∃ v2 : Int, r = .inl (some (zI v2)) ∧ ((v2 ≠ (-1) → (mC m1 a0 = 12) ∧ (0 ≤ a1 ∧ a1 < mN m1 (mR m1 729 a0)) ∧ (mC m1 (mR m1 729 a0) = 21) ∧ (0 ≤ a1 ∧ a1 < mN m1 (mR m1 730 a0)) ∧ (mC m1 (mR m1 730 a0) = 20) ∧ (mC m1 (mR m1 708 a0) = 20) ∧ (0 ≤ v2 ∧ v2 < mN m1 (mR m1 708 a0)) ∧ (0 ≤ a1 ∧ a1 < mN m1 (mR m1 731 a0)) ∧ (mC m1 (mR m1 731 a0) = 20) ∧ (0 ≤ a1 ∧ a1 < mN m1 (mR m1 732 a0)) ∧ (mC m1 (mR m1 732 a0) = 20) ∧ (0 ≤ a1 ∧ a1 < mN m1 (mR m1 733 a0)) ∧ (mC m1 (mR m1 733 a0) = 20) ∧ zW xs xl d cX11_cut 11 (some .boolean) false [] 61 [zR a0, zI a1, zI a2, zI a3, zI v2, zI 0] [] (sA (sA (sA (sA (sA m1 (mR m1 729 a0) (Int.toNat a1) 1) (mR m1 730 a0) (Int.toNat a1) a2) (mR m1 731 a0) (Int.toNat a1) (mA (sA (sA m1 (mR m1 729 a0) (Int.toNat a1) 1) (mR m1 730 a0) (Int.toNat a1) a2) (mR m1 708 a0) (Int.toNat v2))) (mR m1 732 a0) (Int.toNat a1) 20) (mR m1 733 a0) (Int.toNat a1) 0) Q) ∧ (¬ (v2 ≠ (-1)) → Q (.inl (some (zI 0))) m1)))) : zC xs xl (d + 1) 149 [zR a0, zI a1, zI a2, zI a3] m Q := by
  refine zk_149 ?_
  refine (zq_aload_n dX11_cut_0 rfl).mpr ?_
  refine (zq_iload_n dX11_cut_1 rfl).mpr ?_
  refine (zq_iload_n dX11_cut_2 rfl).mpr ?_
  obtain ⟨g3, h⟩ := h
  refine zq_virtualI (n := 2) dX11_cut_3 mr_11_199 zn_136 rfl rfl rfl (zrcv_R zo_136 (by decide) g3) (Nat.le_of_ble_eq_true rfl) ?_
  refine h.mono (fun r m1 h => ?_)
  obtain ⟨v2, rfl, h⟩ := h
  refine ⟨_, rfl, ?_⟩
  refine (zq_istore (l := [zR a0, zI a1, zI a2, zI a3, zI v2, zU]) dX11_cut_6 (Nat.le_of_ble_eq_true rfl) rfl).mpr ?_
  refine (zq_iload dX11_cut_8 rfl).mpr ?_
  refine (zq_iconst (v := (-1)) dX11_cut_10 (by decide)).mpr ?_
  refine (zq_icmp_ne (t := 16) dX11_cut_11 rfl).mpr ⟨fun c => ?_, fun c => ?_⟩
  · replace h := h.1 c
    refine (zq_aload_n dX11_cut_16 rfl).mpr ?_
    obtain ⟨g4, h⟩ := h
    refine (zq_getR2 (f := 729) (v := (mR m1 729 a0)) dX11_cut_17 fl_11_79 (by decide) rfl rfl (by first | rfl | simp only [zm_Is, zm_Rs, zm_As, zm_Os, zm_In0, zm_Rn0])).mpr ⟨g4, ?_⟩
    refine (zq_iload_n dX11_cut_20 rfl).mpr ?_
    refine (zq_iconst (v := 1) dX11_cut_21 (by decide)).mpr ?_
    obtain ⟨g5, h⟩ := h
    obtain ⟨g6, h⟩ := h
    refine (zq_bast dX11_cut_22).mpr ⟨⟨Or.inl ⟨g6, Or.inr rfl⟩, g5⟩, ?_⟩
    refine (zq_aload_n dX11_cut_23 rfl).mpr ?_
    refine (zq_getR2 (f := 730) (v := (mR m1 730 a0)) dX11_cut_24 fl_11_82 (by decide) rfl rfl (by first | rfl | simp only [zm_Is, zm_Rs, zm_As, zm_Os, zm_In0, zm_Rn0])).mpr ⟨g4, ?_⟩
    refine (zq_iload_n dX11_cut_27 rfl).mpr ?_
    refine (zq_iload_n dX11_cut_28 rfl).mpr ?_
    obtain ⟨g7, h⟩ := h
    obtain ⟨g8, h⟩ := h
    refine (zq_iast dX11_cut_29).mpr ⟨⟨g8, g7⟩, ?_⟩
    refine (zq_aload_n dX11_cut_30 rfl).mpr ?_
    refine (zq_getR2 (f := 731) (v := (mR m1 731 a0)) dX11_cut_31 fl_11_85 (by decide) rfl rfl (by first | rfl | simp only [zm_Is, zm_Rs, zm_As, zm_Os, zm_In0, zm_Rn0])).mpr ⟨g4, ?_⟩
    refine (zq_iload_n dX11_cut_34 rfl).mpr ?_
    refine (zq_aload_n dX11_cut_35 rfl).mpr ?_
    refine (zq_getR2 (f := 708) (v := (mR m1 708 a0)) dX11_cut_36 fl_11_18 (by decide) rfl rfl (by first | rfl | simp only [zm_Is, zm_Rs, zm_As, zm_Os, zm_In0, zm_Rn0])).mpr ⟨g4, ?_⟩
    refine (zq_iload dX11_cut_39 rfl).mpr ?_
    obtain ⟨g9, h⟩ := h
    obtain ⟨g10, h⟩ := h
    refine (zq_iald2 (v := (mA (sA (sA m1 (mR m1 729 a0) (Int.toNat a1) 1) (mR m1 730 a0) (Int.toNat a1) a2) (mR m1 708 a0) (Int.toNat v2))) dX11_cut_41 (by first | rfl | simp only [zm_Is, zm_Rs, zm_As, zm_Os, zm_In0, zm_Rn0])).mpr ⟨⟨g9, g10⟩, ?_⟩
    obtain ⟨g11, h⟩ := h
    obtain ⟨g12, h⟩ := h
    refine (zq_iast dX11_cut_42).mpr ⟨⟨g12, g11⟩, ?_⟩
    refine (zq_aload_n dX11_cut_43 rfl).mpr ?_
    refine (zq_getR2 (f := 732) (v := (mR m1 732 a0)) dX11_cut_44 fl_11_88 (by decide) rfl rfl (by first | rfl | simp only [zm_Is, zm_Rs, zm_As, zm_Os, zm_In0, zm_Rn0])).mpr ⟨g4, ?_⟩
    refine (zq_iload_n dX11_cut_47 rfl).mpr ?_
    refine (zq_bipush (v := 20) dX11_cut_48 (by decide)).mpr ?_
    obtain ⟨g13, h⟩ := h
    obtain ⟨g14, h⟩ := h
    refine (zq_iast dX11_cut_50).mpr ⟨⟨g14, g13⟩, ?_⟩
    refine (zq_aload_n dX11_cut_51 rfl).mpr ?_
    refine (zq_getR2 (f := 733) (v := (mR m1 733 a0)) dX11_cut_52 fl_11_91 (by decide) rfl rfl (by first | rfl | simp only [zm_Is, zm_Rs, zm_As, zm_Os, zm_In0, zm_Rn0])).mpr ⟨g4, ?_⟩
    refine (zq_iload_n dX11_cut_55 rfl).mpr ?_
    refine (zq_iconst (v := 0) dX11_cut_56 (by decide)).mpr ?_
    obtain ⟨g15, h⟩ := h
    obtain ⟨g16, h⟩ := h
    refine (zq_iast dX11_cut_57).mpr ⟨⟨g16, g15⟩, ?_⟩
    refine (zq_iconst (v := 0) dX11_cut_58 (by decide)).mpr ?_
    refine (zq_istore (l := [zR a0, zI a1, zI a2, zI a3, zI v2, zI 0]) dX11_cut_59 (Nat.le_of_ble_eq_true rfl) rfl).mpr ?_
    exact h
  · replace h := h.2 c
    refine (zq_iconst (v := 0) dX11_cut_14 (by decide)).mpr ?_
    exact (zq_iret dX11_cut_15 rfl).mpr ⟨Or.inl rfl, h⟩
theorem bX11_cut_61 {a0 : Nat} {a1 : Int} {a2 : Int} {a3 : Int} {a4 : Int} {a5 : Int} (h : ((3 ≤ a5 → (mC m a0 = 12) ∧ (mC m (mR m 718 a0) = 20) ∧ (0 ≤ a1 ∧ a1 < mN m (mR m 718 a0)) ∧ (0 ≤ a1 ∧ a1 < mN m (mR m 719 a0)) ∧ (mC m (mR m 719 a0) = 20) ∧ zC xs xl d 134 [zR a0, zI a4, zI a3] (sA m (mR m 719 a0) (Int.toNat a1) (mA m (mR m 718 a0) (Int.toNat a1))) (fun r m6 => ∃ v7 : Int, r = .inl (some (zI v7)) ∧ (mC m6 a0 = 12) ∧ zC xs xl d 139 [zR a0, zI a4, zI v7, zI a3] m6 (fun r m8 => r = .inl none ∧ Q (.inl (some (zI 1))) m8))) ∧ (¬ (3 ≤ a5) → (mC m a0 = 12) ∧ (0 ≤ (wr ((wr (3 * a1)) + a5)) ∧ (wr ((wr (3 * a1)) + a5)) < mN m (mR m 734 a0)) ∧ (mC m (mR m 734 a0) = 20) ∧ (0 ≤ (wr ((wr (3 * a1)) + a5)) ∧ (wr ((wr (3 * a1)) + a5)) < mN m (mR m 735 a0)) ∧ (mC m (mR m 735 a0) = 20) ∧ zW xs xl d cX11_cut 11 (some .boolean) false [] 61 [zR a0, zI a1, zI a2, zI a3, zI a4, zI (wr (a5 + 1))] [] (sA (sA m (mR m 734 a0) (Int.toNat (wr ((wr (3 * a1)) + a5))) 0) (mR m 735 a0) (Int.toNat (wr ((wr (3 * a1)) + a5))) 0) Q))) : zW xs xl d cX11_cut 11 (some .boolean) false [] 61 [zR a0, zI a1, zI a2, zI a3, zI a4, zI a5] [] m Q := by
  refine (zq_iload dX11_cut_61 rfl).mpr ?_
  refine (zq_iconst (v := 3) dX11_cut_63 (by decide)).mpr ?_
  refine (zq_icmp_ge (t := 97) dX11_cut_64 rfl).mpr ⟨fun c => ?_, fun c => ?_⟩
  · replace h := h.1 c
    refine (zq_aload_n dX11_cut_97 rfl).mpr ?_
    obtain ⟨g1, h⟩ := h
    refine (zq_getR2 (f := 719) (v := (mR m 719 a0)) dX11_cut_98 fl_11_49 (by decide) rfl rfl (by first | rfl | simp only [zm_Is, zm_Rs, zm_As, zm_Os, zm_In0, zm_Rn0])).mpr ⟨g1, ?_⟩
    refine (zq_iload_n dX11_cut_101 rfl).mpr ?_
    refine (zq_aload_n dX11_cut_102 rfl).mpr ?_
    refine (zq_getR2 (f := 718) (v := (mR m 718 a0)) dX11_cut_103 fl_11_46 (by decide) rfl rfl (by first | rfl | simp only [zm_Is, zm_Rs, zm_As, zm_Os, zm_In0, zm_Rn0])).mpr ⟨g1, ?_⟩
    refine (zq_iload_n dX11_cut_106 rfl).mpr ?_
    obtain ⟨g2, h⟩ := h
    obtain ⟨g3, h⟩ := h
    refine (zq_iald2 (v := (mA m (mR m 718 a0) (Int.toNat a1))) dX11_cut_107 (by first | rfl | simp only [zm_Is, zm_Rs, zm_As, zm_Os, zm_In0, zm_Rn0])).mpr ⟨⟨g2, g3⟩, ?_⟩
    obtain ⟨g4, h⟩ := h
    obtain ⟨g5, h⟩ := h
    refine (zq_iast dX11_cut_108).mpr ⟨⟨g5, g4⟩, ?_⟩
    refine (zq_aload_n dX11_cut_109 rfl).mpr ?_
    refine (zq_iload dX11_cut_110 rfl).mpr ?_
    refine (zq_aload_n dX11_cut_112 rfl).mpr ?_
    refine (zq_iload dX11_cut_113 rfl).mpr ?_
    refine (zq_iload_n dX11_cut_115 rfl).mpr ?_
    refine zq_virtualI (n := 2) dX11_cut_116 mr_11_145 zn_134 rfl rfl rfl (zrcv_R zo_134 (by decide) g1) (Nat.le_of_ble_eq_true rfl) ?_
    refine h.mono (fun r m6 h => ?_)
    obtain ⟨v7, rfl, h⟩ := h
    refine ⟨_, rfl, ?_⟩
    refine (zq_iload_n dX11_cut_119 rfl).mpr ?_
    obtain ⟨g10, h⟩ := h
    refine zq_virtualV (n := 3) dX11_cut_120 mr_11_202 zn_139 rfl rfl rfl (zrcv_R zo_139 (by decide) g10) (Nat.le_of_ble_eq_true rfl) ?_
    refine h.mono (fun r m8 h => ?_)
    obtain ⟨rfl, h⟩ := h
    refine ⟨rfl, ?_⟩
    refine (zq_iconst (v := 1) dX11_cut_123 (by decide)).mpr ?_
    exact (zq_iret dX11_cut_124 rfl).mpr ⟨Or.inr rfl, h⟩
  · replace h := h.2 c
    refine (zq_aload_n dX11_cut_67 rfl).mpr ?_
    obtain ⟨g11, h⟩ := h
    refine (zq_getR2 (f := 734) (v := (mR m 734 a0)) dX11_cut_68 fl_11_94 (by decide) rfl rfl (by first | rfl | simp only [zm_Is, zm_Rs, zm_As, zm_Os, zm_In0, zm_Rn0])).mpr ⟨g11, ?_⟩
    refine (zq_iconst (v := 3) dX11_cut_71 (by decide)).mpr ?_
    refine (zq_iload_n dX11_cut_72 rfl).mpr ?_
    refine (zq_imul dX11_cut_73).mpr ?_
    refine (zq_iload dX11_cut_74 rfl).mpr ?_
    refine (zq_iadd dX11_cut_76).mpr ?_
    refine (zq_iconst (v := 0) dX11_cut_77 (by decide)).mpr ?_
    obtain ⟨g12, h⟩ := h
    obtain ⟨g13, h⟩ := h
    refine (zq_iast dX11_cut_78).mpr ⟨⟨g13, g12⟩, ?_⟩
    refine (zq_aload_n dX11_cut_79 rfl).mpr ?_
    refine (zq_getR2 (f := 735) (v := (mR m 735 a0)) dX11_cut_80 fl_11_97 (by decide) rfl rfl (by first | rfl | simp only [zm_Is, zm_Rs, zm_As, zm_Os, zm_In0, zm_Rn0])).mpr ⟨g11, ?_⟩
    refine (zq_iconst (v := 3) dX11_cut_83 (by decide)).mpr ?_
    refine (zq_iload_n dX11_cut_84 rfl).mpr ?_
    refine (zq_imul dX11_cut_85).mpr ?_
    refine (zq_iload dX11_cut_86 rfl).mpr ?_
    refine (zq_iadd dX11_cut_88).mpr ?_
    refine (zq_iconst (v := 0) dX11_cut_89 (by decide)).mpr ?_
    obtain ⟨g14, h⟩ := h
    obtain ⟨g15, h⟩ := h
    refine (zq_iast dX11_cut_90).mpr ⟨⟨g15, g14⟩, ?_⟩
    refine (zq_iinc (l := [zR a0, zI a1, zI a2, zI a3, zI a4, zI (wr (a5 + 1))]) dX11_cut_91 rfl rfl).mpr ?_
    refine (zq_goto (t := 61) dX11_cut_94 rfl).mpr ?_
    exact h
theorem bX11_warm_0 {a0 : Nat} {a1 : Int} {a2 : Int} (h : (mC m a0 = 12) ∧ (mC m (mR m 732 a0) = 20) ∧ (0 ≤ a1 ∧ a1 < mN m (mR m 732 a0)) ∧ Q (.inl none) (sA m (mR m 732 a0) (Int.toNat a1) (if 20 < (if (wr ((mA m (mR m 732 a0) (Int.toNat a1)) + a2)) < 200 then (wr ((mA m (mR m 732 a0) (Int.toNat a1)) + a2)) else 200) then (if (wr ((mA m (mR m 732 a0) (Int.toNat a1)) + a2)) < 200 then (wr ((mA m (mR m 732 a0) (Int.toNat a1)) + a2)) else 200) else 20))) : zC xs xl (d + 1) 150 [zR a0, zI a1, zI a2] m Q := by
  refine zk_150 ?_
  refine (zq_aload_n dX11_warm_0 rfl).mpr ?_
  obtain ⟨g1, h⟩ := h
  refine (zq_getR2 (f := 732) (v := (mR m 732 a0)) dX11_warm_1 fl_11_88 (by decide) rfl rfl (by first | rfl | simp only [zm_Is, zm_Rs, zm_As, zm_Os, zm_In0, zm_Rn0])).mpr ⟨g1, ?_⟩
  refine (zq_iload_n dX11_warm_4 rfl).mpr ?_
  refine (zq_bipush (v := 20) dX11_warm_5 (by decide)).mpr ?_
  refine (zq_sipush (v := 200) dX11_warm_7 (by decide)).mpr ?_
  refine (zq_aload_n dX11_warm_10 rfl).mpr ?_
  refine (zq_getR2 (f := 732) (v := (mR m 732 a0)) dX11_warm_11 fl_11_88 (by decide) rfl rfl (by first | rfl | simp only [zm_Is, zm_Rs, zm_As, zm_Os, zm_In0, zm_Rn0])).mpr ⟨g1, ?_⟩
  refine (zq_iload_n dX11_warm_14 rfl).mpr ?_
  obtain ⟨g2, h⟩ := h
  obtain ⟨g3, h⟩ := h
  refine (zq_iald2 (v := (mA m (mR m 732 a0) (Int.toNat a1))) dX11_warm_15 (by first | rfl | simp only [zm_Is, zm_Rs, zm_As, zm_Os, zm_In0, zm_Rn0])).mpr ⟨⟨g2, g3⟩, ?_⟩
  refine (zq_iload_n dX11_warm_16 rfl).mpr ?_
  refine (zq_iadd dX11_warm_17).mpr ?_
  refine (zq_min dX11_warm_18 mr_11_206).mpr ⟨(Nat.le_of_ble_eq_true rfl), ?_⟩
  refine (zq_max dX11_warm_21 mr_11_139).mpr ⟨(Nat.le_of_ble_eq_true rfl), ?_⟩
  refine (zq_iast dX11_warm_24).mpr ⟨⟨g2, g3⟩, ?_⟩
  exact (zq_ret dX11_warm_25 rfl).mpr h
theorem bX11_moisten_0 {a0 : Nat} {a1 : Int} {a2 : Int} (h : (mC m a0 = 12) ∧ (mC m (mR m 731 a0) = 20) ∧ (0 ≤ a1 ∧ a1 < mN m (mR m 731 a0)) ∧ Q (.inl none) (sA m (mR m 731 a0) (Int.toNat a1) (if 0 < (if (wr ((mA m (mR m 731 a0) (Int.toNat a1)) + a2)) < 100 then (wr ((mA m (mR m 731 a0) (Int.toNat a1)) + a2)) else 100) then (if (wr ((mA m (mR m 731 a0) (Int.toNat a1)) + a2)) < 100 then (wr ((mA m (mR m 731 a0) (Int.toNat a1)) + a2)) else 100) else 0))) : zC xs xl (d + 1) 151 [zR a0, zI a1, zI a2] m Q := by
  refine zk_151 ?_
  refine (zq_aload_n dX11_moisten_0 rfl).mpr ?_
  obtain ⟨g1, h⟩ := h
  refine (zq_getR2 (f := 731) (v := (mR m 731 a0)) dX11_moisten_1 fl_11_85 (by decide) rfl rfl (by first | rfl | simp only [zm_Is, zm_Rs, zm_As, zm_Os, zm_In0, zm_Rn0])).mpr ⟨g1, ?_⟩
  refine (zq_iload_n dX11_moisten_4 rfl).mpr ?_
  refine (zq_iconst (v := 0) dX11_moisten_5 (by decide)).mpr ?_
  refine (zq_bipush (v := 100) dX11_moisten_6 (by decide)).mpr ?_
  refine (zq_aload_n dX11_moisten_8 rfl).mpr ?_
  refine (zq_getR2 (f := 731) (v := (mR m 731 a0)) dX11_moisten_9 fl_11_85 (by decide) rfl rfl (by first | rfl | simp only [zm_Is, zm_Rs, zm_As, zm_Os, zm_In0, zm_Rn0])).mpr ⟨g1, ?_⟩
  refine (zq_iload_n dX11_moisten_12 rfl).mpr ?_
  obtain ⟨g2, h⟩ := h
  obtain ⟨g3, h⟩ := h
  refine (zq_iald2 (v := (mA m (mR m 731 a0) (Int.toNat a1))) dX11_moisten_13 (by first | rfl | simp only [zm_Is, zm_Rs, zm_As, zm_Os, zm_In0, zm_Rn0])).mpr ⟨⟨g2, g3⟩, ?_⟩
  refine (zq_iload_n dX11_moisten_14 rfl).mpr ?_
  refine (zq_iadd dX11_moisten_15).mpr ?_
  refine (zq_min dX11_moisten_16 mr_11_206).mpr ⟨(Nat.le_of_ble_eq_true rfl), ?_⟩
  refine (zq_max dX11_moisten_19 mr_11_139).mpr ⟨(Nat.le_of_ble_eq_true rfl), ?_⟩
  refine (zq_iast dX11_moisten_22).mpr ⟨⟨g2, g3⟩, ?_⟩
  exact (zq_ret dX11_moisten_23 rfl).mpr h
theorem bX11_treat_0 {a0 : Nat} {a1 : Int} {a2 : Int} {a3 : Int} (h : ((a2 ≠ 3 → ((a2 ≠ 4 → zW xs xl d cX11_treat 11 (some .boolean) false [] 24 [zR a0, zI a1, zI a2, zI a3] [zI (-15), zI a1, zR a0] m Q) ∧ (¬ (a2 ≠ 4) → zW xs xl d cX11_treat 11 (some .boolean) false [] 24 [zR a0, zI a1, zI a2, zI a3] [zI 25, zI a1, zR a0] m Q))) ∧ (¬ (a2 ≠ 3) → zW xs xl d cX11_treat 11 (some .boolean) false [] 24 [zR a0, zI a1, zI a2, zI a3] [zI (-10), zI a1, zR a0] m Q))) : zC xs xl (d + 1) 152 [zR a0, zI a1, zI a2, zI a3] m Q := by
  refine zk_152 ?_
  refine (zq_aload_n dX11_treat_0 rfl).mpr ?_
  refine (zq_iload_n dX11_treat_1 rfl).mpr ?_
  refine (zq_iload_n dX11_treat_2 rfl).mpr ?_
  refine (zq_iconst (v := 3) dX11_treat_3 (by decide)).mpr ?_
  refine (zq_icmp_ne (t := 12) dX11_treat_4 rfl).mpr ⟨fun c => ?_, fun c => ?_⟩
  · replace h := h.1 c
    refine (zq_iload_n dX11_treat_12 rfl).mpr ?_
    refine (zq_iconst (v := 4) dX11_treat_13 (by decide)).mpr ?_
    refine (zq_icmp_ne (t := 22) dX11_treat_14 rfl).mpr ⟨fun c => ?_, fun c => ?_⟩
    · replace h := h.1 c
      refine (zq_bipush (v := (-15)) dX11_treat_22 (by decide)).mpr ?_
      exact h
    · replace h := h.2 c
      refine (zq_bipush (v := 25) dX11_treat_17 (by decide)).mpr ?_
      refine (zq_goto (t := 24) dX11_treat_19 rfl).mpr ?_
      exact h
  · replace h := h.2 c
    refine (zq_bipush (v := (-10)) dX11_treat_7 (by decide)).mpr ?_
    refine (zq_goto (t := 24) dX11_treat_9 rfl).mpr ?_
    exact h
theorem bX11_treat_24 {a0 : Nat} {a1 : Int} {a2 : Int} {a3 : Int} {s0 : Nat} {s1 : Int} {s2 : Int} (h : (mC m s0 = 12) ∧ zC xs xl d 150 [zR s0, zI s1, zI s2] m (fun r m1 => r = .inl none ∧ ((a2 ≠ 3 → ((a2 ≠ 4 → (mC m1 a0 = 12) ∧ zC xs xl d 151 [zR a0, zI a1, zI (-4)] m1 (fun r m4 => r = .inl none ∧ ((a2 ≠ 4 → zW xs xl d cX11_treat 11 (some .boolean) false [] 88 [zR a0, zI a1, zI a2, zI a3] [] m4 Q) ∧ (¬ (a2 ≠ 4) → (mC m4 a0 = 12) ∧ (mC m4 (mR m4 732 a0) = 20) ∧ (0 ≤ a1 ∧ a1 < mN m4 (mR m4 732 a0)) ∧ (((mA m4 (mR m4 732 a0) (Int.toNat a1)) ≤ 150 → zW xs xl d cX11_treat 11 (some .boolean) false [] 88 [zR a0, zI a1, zI a2, zI a3] [] m4 Q) ∧ (¬ ((mA m4 (mR m4 732 a0) (Int.toNat a1)) ≤ 150) → (mC m4 (mR m4 731 a0) = 20) ∧ (0 ≤ a1 ∧ a1 < mN m4 (mR m4 731 a0)) ∧ ((10 ≤ (mA m4 (mR m4 731 a0) (Int.toNat a1)) → zW xs xl d cX11_treat 11 (some .boolean) false [] 88 [zR a0, zI a1, zI a2, zI a3] [] m4 Q) ∧ (¬ (10 ≤ (mA m4 (mR m4 731 a0) (Int.toNat a1))) → zC xs xl d 156 [zR a0, zI a1] m4 (fun r m12 => ∃ v13 : Int, r = .inl (some (zI v13)) ∧ (v13 = 0 ∨ v13 = 1) ∧ Q (.inl (some (zI v13))) m12))))))))) ∧ (¬ (a2 ≠ 4) → (mC m1 a0 = 12) ∧ zC xs xl d 151 [zR a0, zI a1, zI (-3)] m1 (fun r m15 => r = .inl none ∧ ((a2 ≠ 4 → zW xs xl d cX11_treat 11 (some .boolean) false [] 88 [zR a0, zI a1, zI a2, zI a3] [] m15 Q) ∧ (¬ (a2 ≠ 4) → (mC m15 a0 = 12) ∧ (mC m15 (mR m15 732 a0) = 20) ∧ (0 ≤ a1 ∧ a1 < mN m15 (mR m15 732 a0)) ∧ (((mA m15 (mR m15 732 a0) (Int.toNat a1)) ≤ 150 → zW xs xl d cX11_treat 11 (some .boolean) false [] 88 [zR a0, zI a1, zI a2, zI a3] [] m15 Q) ∧ (¬ ((mA m15 (mR m15 732 a0) (Int.toNat a1)) ≤ 150) → (mC m15 (mR m15 731 a0) = 20) ∧ (0 ≤ a1 ∧ a1 < mN m15 (mR m15 731 a0)) ∧ ((10 ≤ (mA m15 (mR m15 731 a0) (Int.toNat a1)) → zW xs xl d cX11_treat 11 (some .boolean) false [] 88 [zR a0, zI a1, zI a2, zI a3] [] m15 Q) ∧ (¬ (10 ≤ (mA m15 (mR m15 731 a0) (Int.toNat a1))) → zC xs xl d 156 [zR a0, zI a1] m15 (fun r m23 => ∃ v24 : Int, r = .inl (some (zI v24)) ∧ (v24 = 0 ∨ v24 = 1) ∧ Q (.inl (some (zI v24))) m23))))))))))) ∧ (¬ (a2 ≠ 3) → (mC m1 a0 = 12) ∧ zC xs xl d 151 [zR a0, zI a1, zI 8] m1 (fun r m26 => r = .inl none ∧ ((a2 ≠ 4 → zW xs xl d cX11_treat 11 (some .boolean) false [] 88 [zR a0, zI a1, zI a2, zI a3] [] m26 Q) ∧ (¬ (a2 ≠ 4) → (mC m26 a0 = 12) ∧ (mC m26 (mR m26 732 a0) = 20) ∧ (0 ≤ a1 ∧ a1 < mN m26 (mR m26 732 a0)) ∧ (((mA m26 (mR m26 732 a0) (Int.toNat a1)) ≤ 150 → zW xs xl d cX11_treat 11 (some .boolean) false [] 88 [zR a0, zI a1, zI a2, zI a3] [] m26 Q) ∧ (¬ ((mA m26 (mR m26 732 a0) (Int.toNat a1)) ≤ 150) → (mC m26 (mR m26 731 a0) = 20) ∧ (0 ≤ a1 ∧ a1 < mN m26 (mR m26 731 a0)) ∧ ((10 ≤ (mA m26 (mR m26 731 a0) (Int.toNat a1)) → zW xs xl d cX11_treat 11 (some .boolean) false [] 88 [zR a0, zI a1, zI a2, zI a3] [] m26 Q) ∧ (¬ (10 ≤ (mA m26 (mR m26 731 a0) (Int.toNat a1))) → zC xs xl d 156 [zR a0, zI a1] m26 (fun r m34 => ∃ v35 : Int, r = .inl (some (zI v35)) ∧ (v35 = 0 ∨ v35 = 1) ∧ Q (.inl (some (zI v35))) m34)))))))))))) : zW xs xl d cX11_treat 11 (some .boolean) false [] 24 [zR a0, zI a1, zI a2, zI a3] [zI s2, zI s1, zR s0] m Q := by
  obtain ⟨g3, h⟩ := h
  refine zq_virtualV (n := 2) dX11_treat_24 mr_11_209 zn_150 rfl rfl rfl (zrcv_R zo_150 (by decide) g3) (Nat.le_of_ble_eq_true rfl) ?_
  refine h.mono (fun r m1 h => ?_)
  obtain ⟨rfl, h⟩ := h
  refine ⟨rfl, ?_⟩
  refine (zq_aload_n dX11_treat_27 rfl).mpr ?_
  refine (zq_iload_n dX11_treat_28 rfl).mpr ?_
  refine (zq_iload_n dX11_treat_29 rfl).mpr ?_
  refine (zq_iconst (v := 3) dX11_treat_30 (by decide)).mpr ?_
  refine (zq_icmp_ne (t := 39) dX11_treat_31 rfl).mpr ⟨fun c => ?_, fun c => ?_⟩
  · replace h := h.1 c
    refine (zq_iload_n dX11_treat_39 rfl).mpr ?_
    refine (zq_iconst (v := 4) dX11_treat_40 (by decide)).mpr ?_
    refine (zq_icmp_ne (t := 49) dX11_treat_41 rfl).mpr ⟨fun c => ?_, fun c => ?_⟩
    · replace h := h.1 c
      refine (zq_bipush (v := (-4)) dX11_treat_49 (by decide)).mpr ?_
      obtain ⟨g6, h⟩ := h
      refine zq_virtualV (n := 2) dX11_treat_51 mr_11_212 zn_151 rfl rfl rfl (zrcv_R zo_151 (by decide) g6) (Nat.le_of_ble_eq_true rfl) ?_
      refine h.mono (fun r m4 h => ?_)
      obtain ⟨rfl, h⟩ := h
      refine ⟨rfl, ?_⟩
      refine (zq_iload_n dX11_treat_54 rfl).mpr ?_
      refine (zq_iconst (v := 4) dX11_treat_55 (by decide)).mpr ?_
      refine (zq_icmp_ne (t := 88) dX11_treat_56 rfl).mpr ⟨fun c => ?_, fun c => ?_⟩
      · replace h := h.1 c
        exact h
      · replace h := h.2 c
        refine (zq_aload_n dX11_treat_59 rfl).mpr ?_
        obtain ⟨g7, h⟩ := h
        refine (zq_getR2 (f := 732) (v := (mR m4 732 a0)) dX11_treat_60 fl_11_88 (by decide) rfl rfl (by first | rfl | simp only [zm_Is, zm_Rs, zm_As, zm_Os, zm_In0, zm_Rn0])).mpr ⟨g7, ?_⟩
        refine (zq_iload_n dX11_treat_63 rfl).mpr ?_
        obtain ⟨g8, h⟩ := h
        obtain ⟨g9, h⟩ := h
        refine (zq_iald2 (v := (mA m4 (mR m4 732 a0) (Int.toNat a1))) dX11_treat_64 (by first | rfl | simp only [zm_Is, zm_Rs, zm_As, zm_Os, zm_In0, zm_Rn0])).mpr ⟨⟨g8, g9⟩, ?_⟩
        refine (zq_sipush (v := 150) dX11_treat_65 (by decide)).mpr ?_
        refine (zq_icmp_le (t := 88) dX11_treat_68 rfl).mpr ⟨fun c => ?_, fun c => ?_⟩
        · replace h := h.1 c
          exact h
        · replace h := h.2 c
          refine (zq_aload_n dX11_treat_71 rfl).mpr ?_
          refine (zq_getR2 (f := 731) (v := (mR m4 731 a0)) dX11_treat_72 fl_11_85 (by decide) rfl rfl (by first | rfl | simp only [zm_Is, zm_Rs, zm_As, zm_Os, zm_In0, zm_Rn0])).mpr ⟨g7, ?_⟩
          refine (zq_iload_n dX11_treat_75 rfl).mpr ?_
          obtain ⟨g10, h⟩ := h
          obtain ⟨g11, h⟩ := h
          refine (zq_iald2 (v := (mA m4 (mR m4 731 a0) (Int.toNat a1))) dX11_treat_76 (by first | rfl | simp only [zm_Is, zm_Rs, zm_As, zm_Os, zm_In0, zm_Rn0])).mpr ⟨⟨g10, g11⟩, ?_⟩
          refine (zq_bipush (v := 10) dX11_treat_77 (by decide)).mpr ?_
          refine (zq_icmp_ge (t := 88) dX11_treat_79 rfl).mpr ⟨fun c => ?_, fun c => ?_⟩
          · replace h := h.1 c
            exact h
          · replace h := h.2 c
            refine (zq_aload_n dX11_treat_82 rfl).mpr ?_
            refine (zq_iload_n dX11_treat_83 rfl).mpr ?_
            refine zq_virtualI (n := 1) dX11_treat_84 mr_11_215 zn_156 rfl rfl rfl (zrcv_R zo_156 (by decide) g7) (Nat.le_of_ble_eq_true rfl) ?_
            refine h.mono (fun r m12 h => ?_)
            obtain ⟨v13, rfl, h⟩ := h
            refine ⟨_, rfl, ?_⟩
            obtain ⟨g14, h⟩ := h
            exact (zq_iret dX11_treat_87 rfl).mpr ⟨g14, h⟩
    · replace h := h.2 c
      refine (zq_bipush (v := (-3)) dX11_treat_44 (by decide)).mpr ?_
      refine (zq_goto (t := 51) dX11_treat_46 rfl).mpr ?_
      obtain ⟨g17, h⟩ := h
      refine zq_virtualV (n := 2) dX11_treat_51 mr_11_212 zn_151 rfl rfl rfl (zrcv_R zo_151 (by decide) g17) (Nat.le_of_ble_eq_true rfl) ?_
      refine h.mono (fun r m15 h => ?_)
      obtain ⟨rfl, h⟩ := h
      refine ⟨rfl, ?_⟩
      refine (zq_iload_n dX11_treat_54 rfl).mpr ?_
      refine (zq_iconst (v := 4) dX11_treat_55 (by decide)).mpr ?_
      refine (zq_icmp_ne (t := 88) dX11_treat_56 rfl).mpr ⟨fun c => ?_, fun c => ?_⟩
      · replace h := h.1 c
        exact h
      · replace h := h.2 c
        refine (zq_aload_n dX11_treat_59 rfl).mpr ?_
        obtain ⟨g18, h⟩ := h
        refine (zq_getR2 (f := 732) (v := (mR m15 732 a0)) dX11_treat_60 fl_11_88 (by decide) rfl rfl (by first | rfl | simp only [zm_Is, zm_Rs, zm_As, zm_Os, zm_In0, zm_Rn0])).mpr ⟨g18, ?_⟩
        refine (zq_iload_n dX11_treat_63 rfl).mpr ?_
        obtain ⟨g19, h⟩ := h
        obtain ⟨g20, h⟩ := h
        refine (zq_iald2 (v := (mA m15 (mR m15 732 a0) (Int.toNat a1))) dX11_treat_64 (by first | rfl | simp only [zm_Is, zm_Rs, zm_As, zm_Os, zm_In0, zm_Rn0])).mpr ⟨⟨g19, g20⟩, ?_⟩
        refine (zq_sipush (v := 150) dX11_treat_65 (by decide)).mpr ?_
        refine (zq_icmp_le (t := 88) dX11_treat_68 rfl).mpr ⟨fun c => ?_, fun c => ?_⟩
        · replace h := h.1 c
          exact h
        · replace h := h.2 c
          refine (zq_aload_n dX11_treat_71 rfl).mpr ?_
          refine (zq_getR2 (f := 731) (v := (mR m15 731 a0)) dX11_treat_72 fl_11_85 (by decide) rfl rfl (by first | rfl | simp only [zm_Is, zm_Rs, zm_As, zm_Os, zm_In0, zm_Rn0])).mpr ⟨g18, ?_⟩
          refine (zq_iload_n dX11_treat_75 rfl).mpr ?_
          obtain ⟨g21, h⟩ := h
          obtain ⟨g22, h⟩ := h
          refine (zq_iald2 (v := (mA m15 (mR m15 731 a0) (Int.toNat a1))) dX11_treat_76 (by first | rfl | simp only [zm_Is, zm_Rs, zm_As, zm_Os, zm_In0, zm_Rn0])).mpr ⟨⟨g21, g22⟩, ?_⟩
          refine (zq_bipush (v := 10) dX11_treat_77 (by decide)).mpr ?_
          refine (zq_icmp_ge (t := 88) dX11_treat_79 rfl).mpr ⟨fun c => ?_, fun c => ?_⟩
          · replace h := h.1 c
            exact h
          · replace h := h.2 c
            refine (zq_aload_n dX11_treat_82 rfl).mpr ?_
            refine (zq_iload_n dX11_treat_83 rfl).mpr ?_
            refine zq_virtualI (n := 1) dX11_treat_84 mr_11_215 zn_156 rfl rfl rfl (zrcv_R zo_156 (by decide) g18) (Nat.le_of_ble_eq_true rfl) ?_
            refine h.mono (fun r m23 h => ?_)
            obtain ⟨v24, rfl, h⟩ := h
            refine ⟨_, rfl, ?_⟩
            obtain ⟨g25, h⟩ := h
            exact (zq_iret dX11_treat_87 rfl).mpr ⟨g25, h⟩
  · replace h := h.2 c
    refine (zq_bipush (v := 8) dX11_treat_34 (by decide)).mpr ?_
    refine (zq_goto (t := 51) dX11_treat_36 rfl).mpr ?_
    obtain ⟨g28, h⟩ := h
    refine zq_virtualV (n := 2) dX11_treat_51 mr_11_212 zn_151 rfl rfl rfl (zrcv_R zo_151 (by decide) g28) (Nat.le_of_ble_eq_true rfl) ?_
    refine h.mono (fun r m26 h => ?_)
    obtain ⟨rfl, h⟩ := h
    refine ⟨rfl, ?_⟩
    refine (zq_iload_n dX11_treat_54 rfl).mpr ?_
    refine (zq_iconst (v := 4) dX11_treat_55 (by decide)).mpr ?_
    refine (zq_icmp_ne (t := 88) dX11_treat_56 rfl).mpr ⟨fun c => ?_, fun c => ?_⟩
    · replace h := h.1 c
      exact h
    · replace h := h.2 c
      refine (zq_aload_n dX11_treat_59 rfl).mpr ?_
      obtain ⟨g29, h⟩ := h
      refine (zq_getR2 (f := 732) (v := (mR m26 732 a0)) dX11_treat_60 fl_11_88 (by decide) rfl rfl (by first | rfl | simp only [zm_Is, zm_Rs, zm_As, zm_Os, zm_In0, zm_Rn0])).mpr ⟨g29, ?_⟩
      refine (zq_iload_n dX11_treat_63 rfl).mpr ?_
      obtain ⟨g30, h⟩ := h
      obtain ⟨g31, h⟩ := h
      refine (zq_iald2 (v := (mA m26 (mR m26 732 a0) (Int.toNat a1))) dX11_treat_64 (by first | rfl | simp only [zm_Is, zm_Rs, zm_As, zm_Os, zm_In0, zm_Rn0])).mpr ⟨⟨g30, g31⟩, ?_⟩
      refine (zq_sipush (v := 150) dX11_treat_65 (by decide)).mpr ?_
      refine (zq_icmp_le (t := 88) dX11_treat_68 rfl).mpr ⟨fun c => ?_, fun c => ?_⟩
      · replace h := h.1 c
        exact h
      · replace h := h.2 c
        refine (zq_aload_n dX11_treat_71 rfl).mpr ?_
        refine (zq_getR2 (f := 731) (v := (mR m26 731 a0)) dX11_treat_72 fl_11_85 (by decide) rfl rfl (by first | rfl | simp only [zm_Is, zm_Rs, zm_As, zm_Os, zm_In0, zm_Rn0])).mpr ⟨g29, ?_⟩
        refine (zq_iload_n dX11_treat_75 rfl).mpr ?_
        obtain ⟨g32, h⟩ := h
        obtain ⟨g33, h⟩ := h
        refine (zq_iald2 (v := (mA m26 (mR m26 731 a0) (Int.toNat a1))) dX11_treat_76 (by first | rfl | simp only [zm_Is, zm_Rs, zm_As, zm_Os, zm_In0, zm_Rn0])).mpr ⟨⟨g32, g33⟩, ?_⟩
        refine (zq_bipush (v := 10) dX11_treat_77 (by decide)).mpr ?_
        refine (zq_icmp_ge (t := 88) dX11_treat_79 rfl).mpr ⟨fun c => ?_, fun c => ?_⟩
        · replace h := h.1 c
          exact h
        · replace h := h.2 c
          refine (zq_aload_n dX11_treat_82 rfl).mpr ?_
          refine (zq_iload_n dX11_treat_83 rfl).mpr ?_
          refine zq_virtualI (n := 1) dX11_treat_84 mr_11_215 zn_156 rfl rfl rfl (zrcv_R zo_156 (by decide) g29) (Nat.le_of_ble_eq_true rfl) ?_
          refine h.mono (fun r m34 h => ?_)
          obtain ⟨v35, rfl, h⟩ := h
          refine ⟨_, rfl, ?_⟩
          obtain ⟨g36, h⟩ := h
          exact (zq_iret dX11_treat_87 rfl).mpr ⟨g36, h⟩
theorem bX11_treat_88 {a0 : Nat} {a1 : Int} {a2 : Int} {a3 : Int} (h : (mC m a0 = 12) ∧ (mC m (mR m 720 a0) = 20) ∧ (0 ≤ a1 ∧ a1 < mN m (mR m 720 a0)) ∧ (((wr ((mA m (mR m 720 a0) (Int.toNat a1)) + 1)) ≠ a3 → Q (.inl (some (zI 0))) (sA m (mR m 720 a0) (Int.toNat a1) (wr ((mA m (mR m 720 a0) (Int.toNat a1)) + 1)))) ∧ (¬ ((wr ((mA m (mR m 720 a0) (Int.toNat a1)) + 1)) ≠ a3) → Q (.inl (some (zI 1))) (sA m (mR m 720 a0) (Int.toNat a1) (wr ((mA m (mR m 720 a0) (Int.toNat a1)) + 1)))))) : zW xs xl d cX11_treat 11 (some .boolean) false [] 88 [zR a0, zI a1, zI a2, zI a3] [] m Q := by
  refine (zq_aload_n dX11_treat_88 rfl).mpr ?_
  obtain ⟨g1, h⟩ := h
  refine (zq_getR2 (f := 720) (v := (mR m 720 a0)) dX11_treat_89 fl_11_52 (by decide) rfl rfl (by first | rfl | simp only [zm_Is, zm_Rs, zm_As, zm_Os, zm_In0, zm_Rn0])).mpr ⟨g1, ?_⟩
  refine (zq_iload_n dX11_treat_92 rfl).mpr ?_
  refine (zq_dup2IR dX11_treat_93).mpr ?_
  obtain ⟨g2, h⟩ := h
  obtain ⟨g3, h⟩ := h
  refine (zq_iald2 (v := (mA m (mR m 720 a0) (Int.toNat a1))) dX11_treat_94 (by first | rfl | simp only [zm_Is, zm_Rs, zm_As, zm_Os, zm_In0, zm_Rn0])).mpr ⟨⟨g2, g3⟩, ?_⟩
  refine (zq_iconst (v := 1) dX11_treat_95 (by decide)).mpr ?_
  refine (zq_iadd dX11_treat_96).mpr ?_
  refine (zq_iast dX11_treat_97).mpr ⟨⟨g2, g3⟩, ?_⟩
  refine (zq_aload_n dX11_treat_98 rfl).mpr ?_
  refine (zq_getR2 (f := 720) (v := (mR m 720 a0)) dX11_treat_99 fl_11_52 (by decide) rfl rfl (by first | rfl | simp only [zm_Is, zm_Rs, zm_As, zm_Os, zm_In0, zm_Rn0])).mpr ⟨g1, ?_⟩
  refine (zq_iload_n dX11_treat_102 rfl).mpr ?_
  refine (zq_iald2 (v := (wr ((mA m (mR m 720 a0) (Int.toNat a1)) + 1))) dX11_treat_103 (by first | rfl | simp only [zm_Is, zm_Rs, zm_As, zm_Os, zm_In0, zm_Rn0])).mpr ⟨⟨g2, g3⟩, ?_⟩
  refine (zq_iload_n dX11_treat_104 rfl).mpr ?_
  refine (zq_icmp_ne (t := 112) dX11_treat_105 rfl).mpr ⟨fun c => ?_, fun c => ?_⟩
  · replace h := h.1 c
    refine (zq_iconst (v := 0) dX11_treat_112 (by decide)).mpr ?_
    exact (zq_iret dX11_treat_113 rfl).mpr ⟨Or.inl rfl, h⟩
  · replace h := h.2 c
    refine (zq_iconst (v := 1) dX11_treat_108 (by decide)).mpr ?_
    refine (zq_goto (t := 113) dX11_treat_109 rfl).mpr ?_
    exact (zq_iret dX11_treat_113 rfl).mpr ⟨Or.inr rfl, h⟩
end ZB5
