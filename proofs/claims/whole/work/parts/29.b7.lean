section ZB7
variable {xs : Nat → Int} {xl d : Nat} {m : zM} {Q : zRes → zM → Prop}
theorem bX11_slip_0 {a0 : Nat} {a1 : Int} {a2 : Int} (h : (mC (nwA m 20 15) a0 = 12) ∧ (mC (nwA m 20 15) (mR m 714 a0) = 21 ∨ mC (nwA m 20 15) (mR m 714 a0) = 22) ∧ (0 ≤ a1 ∧ a1 < mN (nwA m 20 15) (mR m 714 a0)) ∧ (((mA (nwA m 20 15) (mR m 714 a0) (Int.toNat a1)) = 0 → zW xs xl d cX11_slip 11 (some .int) false [] 20 [zR a0, zI a1, zI a2, zU] [zI 0, zI 0, zR (mz m), zR (mz m)] (nwA m 20 15) Q) ∧ (¬ ((mA (nwA m 20 15) (mR m 714 a0) (Int.toNat a1)) = 0) → zW xs xl d cX11_slip 11 (some .int) false [] 20 [zR a0, zI a1, zI a2, zU] [zI 1, zI 0, zR (mz m), zR (mz m)] (nwA m 20 15) Q))) : zC xs xl (d + 1) 158 [zR a0, zI a1, zI a2] m Q := by
  refine zk_158 ?_
  refine (zq_bipush dX11_slip_0 (by decide)).mpr ?_
  refine (zq_newarray (kd := 20) dX11_slip_2 rfl (by decide)).mpr ⟨by decide, ?_⟩
  refine (zq_dupR dX11_slip_4).mpr ?_
  refine (zq_iconst dX11_slip_5 (by decide)).mpr ?_
  refine (zq_aload_n dX11_slip_6 rfl).mpr ?_
  obtain ⟨g2, h⟩ := h
  refine (zq_getR2 (f := 714) (v := (mR m 714 a0)) dX11_slip_7 fl_11_33 (by decide) rfl rfl (by first | rfl | simp only [zm_Is, zm_Rs, zm_As, zm_Os, zm_In0, zm_Rn0])).mpr ⟨g2, ?_⟩
  refine (zq_iload_n dX11_slip_10 rfl).mpr ?_
  obtain ⟨g3, h⟩ := h
  obtain ⟨g4, h⟩ := h
  refine (zq_bald2 (v := (mA (nwA m 20 15) (mR m 714 a0) (Int.toNat a1))) dX11_slip_11 (by first | rfl | simp only [zm_Is, zm_Rs, zm_As, zm_Os, zm_In0, zm_Rn0])).mpr ⟨⟨g3, g4⟩, ?_⟩
  refine (zq_if_eq (t := 19) dX11_slip_12 rfl).mpr ⟨fun c => ?_, fun c => ?_⟩
  · replace h := h.1 c
    refine (zq_iconst dX11_slip_19 (by decide)).mpr ?_
    exact h
  · replace h := h.2 c
    refine (zq_iconst dX11_slip_15 (by decide)).mpr ?_
    refine (zq_goto (t := 20) dX11_slip_16 rfl).mpr ?_
    exact h
theorem bX11_slip_20 {a0 : Nat} {a1 : Int} {a2 : Int} {a3 : zV} {s0 : Nat} {s1 : Nat} {s2 : Int} {s3 : Int} (h : (0 ≤ s2 ∧ s2 < mN m s1) ∧ (mC m s1 = 20) ∧ (mC m a0 = 12) ∧ (mC m (mR m 713 a0) = 20) ∧ (0 ≤ a1 ∧ a1 < mN m (mR m 713 a0)) ∧ (1 < mN m s0) ∧ (mC m s0 = 20) ∧ (mC m (mR m 718 a0) = 20) ∧ (0 ≤ a1 ∧ a1 < mN m (mR m 718 a0)) ∧ (2 < mN m s0) ∧ (mC m (mR m 721 a0) = 20) ∧ (0 ≤ a1 ∧ a1 < mN m (mR m 721 a0)) ∧ (3 < mN m s0) ∧ (mC m (mR m 722 a0) = 20) ∧ (0 ≤ a1 ∧ a1 < mN m (mR m 722 a0)) ∧ (4 < mN m s0) ∧ (mC m (mR m 729 a0) = 21 ∨ mC m (mR m 729 a0) = 22) ∧ (0 ≤ a1 ∧ a1 < mN m (mR m 729 a0)) ∧ (((mA (sA (sA (sA (sA (sA m s1 (Int.toNat s2) s3) s0 1 (mA (sA m s1 (Int.toNat s2) s3) (mR m 713 a0) (Int.toNat a1))) s0 2 (mA (sA (sA m s1 (Int.toNat s2) s3) s0 1 (mA (sA m s1 (Int.toNat s2) s3) (mR m 713 a0) (Int.toNat a1))) (mR m 718 a0) (Int.toNat a1))) s0 3 (mA (sA (sA (sA m s1 (Int.toNat s2) s3) s0 1 (mA (sA m s1 (Int.toNat s2) s3) (mR m 713 a0) (Int.toNat a1))) s0 2 (mA (sA (sA m s1 (Int.toNat s2) s3) s0 1 (mA (sA m s1 (Int.toNat s2) s3) (mR m 713 a0) (Int.toNat a1))) (mR m 718 a0) (Int.toNat a1))) (mR m 721 a0) (Int.toNat a1))) s0 4 (mA (sA (sA (sA (sA m s1 (Int.toNat s2) s3) s0 1 (mA (sA m s1 (Int.toNat s2) s3) (mR m 713 a0) (Int.toNat a1))) s0 2 (mA (sA (sA m s1 (Int.toNat s2) s3) s0 1 (mA (sA m s1 (Int.toNat s2) s3) (mR m 713 a0) (Int.toNat a1))) (mR m 718 a0) (Int.toNat a1))) s0 3 (mA (sA (sA (sA m s1 (Int.toNat s2) s3) s0 1 (mA (sA m s1 (Int.toNat s2) s3) (mR m 713 a0) (Int.toNat a1))) s0 2 (mA (sA (sA m s1 (Int.toNat s2) s3) s0 1 (mA (sA m s1 (Int.toNat s2) s3) (mR m 713 a0) (Int.toNat a1))) (mR m 718 a0) (Int.toNat a1))) (mR m 721 a0) (Int.toNat a1))) (mR m 722 a0) (Int.toNat a1))) (mR m 729 a0) (Int.toNat a1)) = 0 → zW xs xl d cX11_slip 11 (some .int) false [] 73 [zR a0, zI a1, zI a2, a3] [zI 0, zI 5, zR s0, zR s0] (sA (sA (sA (sA (sA m s1 (Int.toNat s2) s3) s0 1 (mA (sA m s1 (Int.toNat s2) s3) (mR m 713 a0) (Int.toNat a1))) s0 2 (mA (sA (sA m s1 (Int.toNat s2) s3) s0 1 (mA (sA m s1 (Int.toNat s2) s3) (mR m 713 a0) (Int.toNat a1))) (mR m 718 a0) (Int.toNat a1))) s0 3 (mA (sA (sA (sA m s1 (Int.toNat s2) s3) s0 1 (mA (sA m s1 (Int.toNat s2) s3) (mR m 713 a0) (Int.toNat a1))) s0 2 (mA (sA (sA m s1 (Int.toNat s2) s3) s0 1 (mA (sA m s1 (Int.toNat s2) s3) (mR m 713 a0) (Int.toNat a1))) (mR m 718 a0) (Int.toNat a1))) (mR m 721 a0) (Int.toNat a1))) s0 4 (mA (sA (sA (sA (sA m s1 (Int.toNat s2) s3) s0 1 (mA (sA m s1 (Int.toNat s2) s3) (mR m 713 a0) (Int.toNat a1))) s0 2 (mA (sA (sA m s1 (Int.toNat s2) s3) s0 1 (mA (sA m s1 (Int.toNat s2) s3) (mR m 713 a0) (Int.toNat a1))) (mR m 718 a0) (Int.toNat a1))) s0 3 (mA (sA (sA (sA m s1 (Int.toNat s2) s3) s0 1 (mA (sA m s1 (Int.toNat s2) s3) (mR m 713 a0) (Int.toNat a1))) s0 2 (mA (sA (sA m s1 (Int.toNat s2) s3) s0 1 (mA (sA m s1 (Int.toNat s2) s3) (mR m 713 a0) (Int.toNat a1))) (mR m 718 a0) (Int.toNat a1))) (mR m 721 a0) (Int.toNat a1))) (mR m 722 a0) (Int.toNat a1))) Q) ∧ (¬ ((mA (sA (sA (sA (sA (sA m s1 (Int.toNat s2) s3) s0 1 (mA (sA m s1 (Int.toNat s2) s3) (mR m 713 a0) (Int.toNat a1))) s0 2 (mA (sA (sA m s1 (Int.toNat s2) s3) s0 1 (mA (sA m s1 (Int.toNat s2) s3) (mR m 713 a0) (Int.toNat a1))) (mR m 718 a0) (Int.toNat a1))) s0 3 (mA (sA (sA (sA m s1 (Int.toNat s2) s3) s0 1 (mA (sA m s1 (Int.toNat s2) s3) (mR m 713 a0) (Int.toNat a1))) s0 2 (mA (sA (sA m s1 (Int.toNat s2) s3) s0 1 (mA (sA m s1 (Int.toNat s2) s3) (mR m 713 a0) (Int.toNat a1))) (mR m 718 a0) (Int.toNat a1))) (mR m 721 a0) (Int.toNat a1))) s0 4 (mA (sA (sA (sA (sA m s1 (Int.toNat s2) s3) s0 1 (mA (sA m s1 (Int.toNat s2) s3) (mR m 713 a0) (Int.toNat a1))) s0 2 (mA (sA (sA m s1 (Int.toNat s2) s3) s0 1 (mA (sA m s1 (Int.toNat s2) s3) (mR m 713 a0) (Int.toNat a1))) (mR m 718 a0) (Int.toNat a1))) s0 3 (mA (sA (sA (sA m s1 (Int.toNat s2) s3) s0 1 (mA (sA m s1 (Int.toNat s2) s3) (mR m 713 a0) (Int.toNat a1))) s0 2 (mA (sA (sA m s1 (Int.toNat s2) s3) s0 1 (mA (sA m s1 (Int.toNat s2) s3) (mR m 713 a0) (Int.toNat a1))) (mR m 718 a0) (Int.toNat a1))) (mR m 721 a0) (Int.toNat a1))) (mR m 722 a0) (Int.toNat a1))) (mR m 729 a0) (Int.toNat a1)) = 0) → zW xs xl d cX11_slip 11 (some .int) false [] 73 [zR a0, zI a1, zI a2, a3] [zI 1, zI 5, zR s0, zR s0] (sA (sA (sA (sA (sA m s1 (Int.toNat s2) s3) s0 1 (mA (sA m s1 (Int.toNat s2) s3) (mR m 713 a0) (Int.toNat a1))) s0 2 (mA (sA (sA m s1 (Int.toNat s2) s3) s0 1 (mA (sA m s1 (Int.toNat s2) s3) (mR m 713 a0) (Int.toNat a1))) (mR m 718 a0) (Int.toNat a1))) s0 3 (mA (sA (sA (sA m s1 (Int.toNat s2) s3) s0 1 (mA (sA m s1 (Int.toNat s2) s3) (mR m 713 a0) (Int.toNat a1))) s0 2 (mA (sA (sA m s1 (Int.toNat s2) s3) s0 1 (mA (sA m s1 (Int.toNat s2) s3) (mR m 713 a0) (Int.toNat a1))) (mR m 718 a0) (Int.toNat a1))) (mR m 721 a0) (Int.toNat a1))) s0 4 (mA (sA (sA (sA (sA m s1 (Int.toNat s2) s3) s0 1 (mA (sA m s1 (Int.toNat s2) s3) (mR m 713 a0) (Int.toNat a1))) s0 2 (mA (sA (sA m s1 (Int.toNat s2) s3) s0 1 (mA (sA m s1 (Int.toNat s2) s3) (mR m 713 a0) (Int.toNat a1))) (mR m 718 a0) (Int.toNat a1))) s0 3 (mA (sA (sA (sA m s1 (Int.toNat s2) s3) s0 1 (mA (sA m s1 (Int.toNat s2) s3) (mR m 713 a0) (Int.toNat a1))) s0 2 (mA (sA (sA m s1 (Int.toNat s2) s3) s0 1 (mA (sA m s1 (Int.toNat s2) s3) (mR m 713 a0) (Int.toNat a1))) (mR m 718 a0) (Int.toNat a1))) (mR m 721 a0) (Int.toNat a1))) (mR m 722 a0) (Int.toNat a1))) Q))) : zW xs xl d cX11_slip 11 (some .int) false [] 20 [zR a0, zI a1, zI a2, a3] [zI s3, zI s2, zR s1, zR s0] m Q := by
  obtain ⟨g1, h⟩ := h
  obtain ⟨g2, h⟩ := h
  refine (zq_iast dX11_slip_20).mpr ⟨⟨g2, g1⟩, ?_⟩
  refine (zq_dupR dX11_slip_21).mpr ?_
  refine (zq_iconst dX11_slip_22 (by decide)).mpr ?_
  refine (zq_aload_n dX11_slip_23 rfl).mpr ?_
  obtain ⟨g3, h⟩ := h
  refine (zq_getR2 (f := 713) (v := (mR m 713 a0)) dX11_slip_24 fl_11_30 (by decide) rfl rfl (by first | rfl | simp only [zm_Is, zm_Rs, zm_As, zm_Os, zm_In0, zm_Rn0])).mpr ⟨g3, ?_⟩
  refine (zq_iload_n dX11_slip_27 rfl).mpr ?_
  obtain ⟨g4, h⟩ := h
  obtain ⟨g5, h⟩ := h
  refine (zq_iald2 (v := (mA (sA m s1 (Int.toNat s2) s3) (mR m 713 a0) (Int.toNat a1))) dX11_slip_28 (by first | rfl | simp only [zm_Is, zm_Rs, zm_As, zm_Os, zm_In0, zm_Rn0])).mpr ⟨⟨g4, g5⟩, ?_⟩
  obtain ⟨g6, h⟩ := h
  obtain ⟨g7, h⟩ := h
  refine (zq_iast dX11_slip_29).mpr ⟨⟨g7, ⟨by decide, g6⟩⟩, ?_⟩
  refine (zq_dupR dX11_slip_30).mpr ?_
  refine (zq_iconst dX11_slip_31 (by decide)).mpr ?_
  refine (zq_aload_n dX11_slip_32 rfl).mpr ?_
  refine (zq_getR2 (f := 718) (v := (mR m 718 a0)) dX11_slip_33 fl_11_46 (by decide) rfl rfl (by first | rfl | simp only [zm_Is, zm_Rs, zm_As, zm_Os, zm_In0, zm_Rn0])).mpr ⟨g3, ?_⟩
  refine (zq_iload_n dX11_slip_36 rfl).mpr ?_
  obtain ⟨g8, h⟩ := h
  obtain ⟨g9, h⟩ := h
  refine (zq_iald2 (v := (mA (sA (sA m s1 (Int.toNat s2) s3) s0 1 (mA (sA m s1 (Int.toNat s2) s3) (mR m 713 a0) (Int.toNat a1))) (mR m 718 a0) (Int.toNat a1))) dX11_slip_37 (by first | rfl | simp only [zm_Is, zm_Rs, zm_As, zm_Os, zm_In0, zm_Rn0])).mpr ⟨⟨g8, g9⟩, ?_⟩
  obtain ⟨g10, h⟩ := h
  refine (zq_iast dX11_slip_38).mpr ⟨⟨g7, ⟨by decide, g10⟩⟩, ?_⟩
  refine (zq_dupR dX11_slip_39).mpr ?_
  refine (zq_iconst dX11_slip_40 (by decide)).mpr ?_
  refine (zq_aload_n dX11_slip_41 rfl).mpr ?_
  refine (zq_getR2 (f := 721) (v := (mR m 721 a0)) dX11_slip_42 fl_11_55 (by decide) rfl rfl (by first | rfl | simp only [zm_Is, zm_Rs, zm_As, zm_Os, zm_In0, zm_Rn0])).mpr ⟨g3, ?_⟩
  refine (zq_iload_n dX11_slip_45 rfl).mpr ?_
  obtain ⟨g11, h⟩ := h
  obtain ⟨g12, h⟩ := h
  refine (zq_iald2 (v := (mA (sA (sA (sA m s1 (Int.toNat s2) s3) s0 1 (mA (sA m s1 (Int.toNat s2) s3) (mR m 713 a0) (Int.toNat a1))) s0 2 (mA (sA (sA m s1 (Int.toNat s2) s3) s0 1 (mA (sA m s1 (Int.toNat s2) s3) (mR m 713 a0) (Int.toNat a1))) (mR m 718 a0) (Int.toNat a1))) (mR m 721 a0) (Int.toNat a1))) dX11_slip_46 (by first | rfl | simp only [zm_Is, zm_Rs, zm_As, zm_Os, zm_In0, zm_Rn0])).mpr ⟨⟨g11, g12⟩, ?_⟩
  obtain ⟨g13, h⟩ := h
  refine (zq_iast dX11_slip_47).mpr ⟨⟨g7, ⟨by decide, g13⟩⟩, ?_⟩
  refine (zq_dupR dX11_slip_48).mpr ?_
  refine (zq_iconst dX11_slip_49 (by decide)).mpr ?_
  refine (zq_aload_n dX11_slip_50 rfl).mpr ?_
  refine (zq_getR2 (f := 722) (v := (mR m 722 a0)) dX11_slip_51 fl_11_58 (by decide) rfl rfl (by first | rfl | simp only [zm_Is, zm_Rs, zm_As, zm_Os, zm_In0, zm_Rn0])).mpr ⟨g3, ?_⟩
  refine (zq_iload_n dX11_slip_54 rfl).mpr ?_
  obtain ⟨g14, h⟩ := h
  obtain ⟨g15, h⟩ := h
  refine (zq_iald2 (v := (mA (sA (sA (sA (sA m s1 (Int.toNat s2) s3) s0 1 (mA (sA m s1 (Int.toNat s2) s3) (mR m 713 a0) (Int.toNat a1))) s0 2 (mA (sA (sA m s1 (Int.toNat s2) s3) s0 1 (mA (sA m s1 (Int.toNat s2) s3) (mR m 713 a0) (Int.toNat a1))) (mR m 718 a0) (Int.toNat a1))) s0 3 (mA (sA (sA (sA m s1 (Int.toNat s2) s3) s0 1 (mA (sA m s1 (Int.toNat s2) s3) (mR m 713 a0) (Int.toNat a1))) s0 2 (mA (sA (sA m s1 (Int.toNat s2) s3) s0 1 (mA (sA m s1 (Int.toNat s2) s3) (mR m 713 a0) (Int.toNat a1))) (mR m 718 a0) (Int.toNat a1))) (mR m 721 a0) (Int.toNat a1))) (mR m 722 a0) (Int.toNat a1))) dX11_slip_55 (by first | rfl | simp only [zm_Is, zm_Rs, zm_As, zm_Os, zm_In0, zm_Rn0])).mpr ⟨⟨g14, g15⟩, ?_⟩
  obtain ⟨g16, h⟩ := h
  refine (zq_iast dX11_slip_56).mpr ⟨⟨g7, ⟨by decide, g16⟩⟩, ?_⟩
  refine (zq_dupR dX11_slip_57).mpr ?_
  refine (zq_iconst dX11_slip_58 (by decide)).mpr ?_
  refine (zq_aload_n dX11_slip_59 rfl).mpr ?_
  refine (zq_getR2 (f := 729) (v := (mR m 729 a0)) dX11_slip_60 fl_11_79 (by decide) rfl rfl (by first | rfl | simp only [zm_Is, zm_Rs, zm_As, zm_Os, zm_In0, zm_Rn0])).mpr ⟨g3, ?_⟩
  refine (zq_iload_n dX11_slip_63 rfl).mpr ?_
  obtain ⟨g17, h⟩ := h
  obtain ⟨g18, h⟩ := h
  refine (zq_bald2 (v := (mA (sA (sA (sA (sA (sA m s1 (Int.toNat s2) s3) s0 1 (mA (sA m s1 (Int.toNat s2) s3) (mR m 713 a0) (Int.toNat a1))) s0 2 (mA (sA (sA m s1 (Int.toNat s2) s3) s0 1 (mA (sA m s1 (Int.toNat s2) s3) (mR m 713 a0) (Int.toNat a1))) (mR m 718 a0) (Int.toNat a1))) s0 3 (mA (sA (sA (sA m s1 (Int.toNat s2) s3) s0 1 (mA (sA m s1 (Int.toNat s2) s3) (mR m 713 a0) (Int.toNat a1))) s0 2 (mA (sA (sA m s1 (Int.toNat s2) s3) s0 1 (mA (sA m s1 (Int.toNat s2) s3) (mR m 713 a0) (Int.toNat a1))) (mR m 718 a0) (Int.toNat a1))) (mR m 721 a0) (Int.toNat a1))) s0 4 (mA (sA (sA (sA (sA m s1 (Int.toNat s2) s3) s0 1 (mA (sA m s1 (Int.toNat s2) s3) (mR m 713 a0) (Int.toNat a1))) s0 2 (mA (sA (sA m s1 (Int.toNat s2) s3) s0 1 (mA (sA m s1 (Int.toNat s2) s3) (mR m 713 a0) (Int.toNat a1))) (mR m 718 a0) (Int.toNat a1))) s0 3 (mA (sA (sA (sA m s1 (Int.toNat s2) s3) s0 1 (mA (sA m s1 (Int.toNat s2) s3) (mR m 713 a0) (Int.toNat a1))) s0 2 (mA (sA (sA m s1 (Int.toNat s2) s3) s0 1 (mA (sA m s1 (Int.toNat s2) s3) (mR m 713 a0) (Int.toNat a1))) (mR m 718 a0) (Int.toNat a1))) (mR m 721 a0) (Int.toNat a1))) (mR m 722 a0) (Int.toNat a1))) (mR m 729 a0) (Int.toNat a1))) dX11_slip_64 (by first | rfl | simp only [zm_Is, zm_Rs, zm_As, zm_Os, zm_In0, zm_Rn0])).mpr ⟨⟨g17, g18⟩, ?_⟩
  refine (zq_if_eq (t := 72) dX11_slip_65 rfl).mpr ⟨fun c => ?_, fun c => ?_⟩
  · replace h := h.1 c
    refine (zq_iconst dX11_slip_72 (by decide)).mpr ?_
    exact h
  · replace h := h.2 c
    refine (zq_iconst dX11_slip_68 (by decide)).mpr ?_
    refine (zq_goto (t := 73) dX11_slip_69 rfl).mpr ?_
    exact h
theorem bX11_slip_73 {a0 : Nat} {a1 : Int} {a2 : Int} {a3 : zV} {s0 : Nat} {s1 : Nat} {s2 : Int} {s3 : Int} (h : (0 ≤ s2 ∧ s2 < mN m s1) ∧ (mC m s1 = 20) ∧ (mC m a0 = 12) ∧ (mC m (mR m 731 a0) = 20) ∧ (0 ≤ a1 ∧ a1 < mN m (mR m 731 a0)) ∧ (6 < mN m s0) ∧ (mC m s0 = 20) ∧ (mC m (mR m 732 a0) = 20) ∧ (0 ≤ a1 ∧ a1 < mN m (mR m 732 a0)) ∧ (7 < mN m s0) ∧ (mC m (mR m 733 a0) = 20) ∧ (0 ≤ a1 ∧ a1 < mN m (mR m 733 a0)) ∧ (8 < mN m s0) ∧ (mC m (mR m 726 a0) = 20) ∧ (0 ≤ a1 ∧ a1 < mN m (mR m 726 a0)) ∧ (9 < mN m s0) ∧ (mC m (mR m 727 a0) = 20) ∧ (0 ≤ a1 ∧ a1 < mN m (mR m 727 a0)) ∧ (10 < mN m s0) ∧ (mC m (mR m 728 a0) = 21 ∨ mC m (mR m 728 a0) = 22) ∧ (0 ≤ a1 ∧ a1 < mN m (mR m 728 a0)) ∧ (((mA (sA (sA (sA (sA (sA (sA m s1 (Int.toNat s2) s3) s0 6 (mA (sA m s1 (Int.toNat s2) s3) (mR m 731 a0) (Int.toNat a1))) s0 7 (mA (sA (sA m s1 (Int.toNat s2) s3) s0 6 (mA (sA m s1 (Int.toNat s2) s3) (mR m 731 a0) (Int.toNat a1))) (mR m 732 a0) (Int.toNat a1))) s0 8 (mA (sA (sA (sA m s1 (Int.toNat s2) s3) s0 6 (mA (sA m s1 (Int.toNat s2) s3) (mR m 731 a0) (Int.toNat a1))) s0 7 (mA (sA (sA m s1 (Int.toNat s2) s3) s0 6 (mA (sA m s1 (Int.toNat s2) s3) (mR m 731 a0) (Int.toNat a1))) (mR m 732 a0) (Int.toNat a1))) (mR m 733 a0) (Int.toNat a1))) s0 9 (mA (sA (sA (sA (sA m s1 (Int.toNat s2) s3) s0 6 (mA (sA m s1 (Int.toNat s2) s3) (mR m 731 a0) (Int.toNat a1))) s0 7 (mA (sA (sA m s1 (Int.toNat s2) s3) s0 6 (mA (sA m s1 (Int.toNat s2) s3) (mR m 731 a0) (Int.toNat a1))) (mR m 732 a0) (Int.toNat a1))) s0 8 (mA (sA (sA (sA m s1 (Int.toNat s2) s3) s0 6 (mA (sA m s1 (Int.toNat s2) s3) (mR m 731 a0) (Int.toNat a1))) s0 7 (mA (sA (sA m s1 (Int.toNat s2) s3) s0 6 (mA (sA m s1 (Int.toNat s2) s3) (mR m 731 a0) (Int.toNat a1))) (mR m 732 a0) (Int.toNat a1))) (mR m 733 a0) (Int.toNat a1))) (mR m 726 a0) (Int.toNat a1))) s0 10 (mA (sA (sA (sA (sA (sA m s1 (Int.toNat s2) s3) s0 6 (mA (sA m s1 (Int.toNat s2) s3) (mR m 731 a0) (Int.toNat a1))) s0 7 (mA (sA (sA m s1 (Int.toNat s2) s3) s0 6 (mA (sA m s1 (Int.toNat s2) s3) (mR m 731 a0) (Int.toNat a1))) (mR m 732 a0) (Int.toNat a1))) s0 8 (mA (sA (sA (sA m s1 (Int.toNat s2) s3) s0 6 (mA (sA m s1 (Int.toNat s2) s3) (mR m 731 a0) (Int.toNat a1))) s0 7 (mA (sA (sA m s1 (Int.toNat s2) s3) s0 6 (mA (sA m s1 (Int.toNat s2) s3) (mR m 731 a0) (Int.toNat a1))) (mR m 732 a0) (Int.toNat a1))) (mR m 733 a0) (Int.toNat a1))) s0 9 (mA (sA (sA (sA (sA m s1 (Int.toNat s2) s3) s0 6 (mA (sA m s1 (Int.toNat s2) s3) (mR m 731 a0) (Int.toNat a1))) s0 7 (mA (sA (sA m s1 (Int.toNat s2) s3) s0 6 (mA (sA m s1 (Int.toNat s2) s3) (mR m 731 a0) (Int.toNat a1))) (mR m 732 a0) (Int.toNat a1))) s0 8 (mA (sA (sA (sA m s1 (Int.toNat s2) s3) s0 6 (mA (sA m s1 (Int.toNat s2) s3) (mR m 731 a0) (Int.toNat a1))) s0 7 (mA (sA (sA m s1 (Int.toNat s2) s3) s0 6 (mA (sA m s1 (Int.toNat s2) s3) (mR m 731 a0) (Int.toNat a1))) (mR m 732 a0) (Int.toNat a1))) (mR m 733 a0) (Int.toNat a1))) (mR m 726 a0) (Int.toNat a1))) (mR m 727 a0) (Int.toNat a1))) (mR m 728 a0) (Int.toNat a1)) = 0 → zW xs xl d cX11_slip 11 (some .int) false [] 141 [zR a0, zI a1, zI a2, a3] [zI 0, zI 11, zR s0, zR s0] (sA (sA (sA (sA (sA (sA m s1 (Int.toNat s2) s3) s0 6 (mA (sA m s1 (Int.toNat s2) s3) (mR m 731 a0) (Int.toNat a1))) s0 7 (mA (sA (sA m s1 (Int.toNat s2) s3) s0 6 (mA (sA m s1 (Int.toNat s2) s3) (mR m 731 a0) (Int.toNat a1))) (mR m 732 a0) (Int.toNat a1))) s0 8 (mA (sA (sA (sA m s1 (Int.toNat s2) s3) s0 6 (mA (sA m s1 (Int.toNat s2) s3) (mR m 731 a0) (Int.toNat a1))) s0 7 (mA (sA (sA m s1 (Int.toNat s2) s3) s0 6 (mA (sA m s1 (Int.toNat s2) s3) (mR m 731 a0) (Int.toNat a1))) (mR m 732 a0) (Int.toNat a1))) (mR m 733 a0) (Int.toNat a1))) s0 9 (mA (sA (sA (sA (sA m s1 (Int.toNat s2) s3) s0 6 (mA (sA m s1 (Int.toNat s2) s3) (mR m 731 a0) (Int.toNat a1))) s0 7 (mA (sA (sA m s1 (Int.toNat s2) s3) s0 6 (mA (sA m s1 (Int.toNat s2) s3) (mR m 731 a0) (Int.toNat a1))) (mR m 732 a0) (Int.toNat a1))) s0 8 (mA (sA (sA (sA m s1 (Int.toNat s2) s3) s0 6 (mA (sA m s1 (Int.toNat s2) s3) (mR m 731 a0) (Int.toNat a1))) s0 7 (mA (sA (sA m s1 (Int.toNat s2) s3) s0 6 (mA (sA m s1 (Int.toNat s2) s3) (mR m 731 a0) (Int.toNat a1))) (mR m 732 a0) (Int.toNat a1))) (mR m 733 a0) (Int.toNat a1))) (mR m 726 a0) (Int.toNat a1))) s0 10 (mA (sA (sA (sA (sA (sA m s1 (Int.toNat s2) s3) s0 6 (mA (sA m s1 (Int.toNat s2) s3) (mR m 731 a0) (Int.toNat a1))) s0 7 (mA (sA (sA m s1 (Int.toNat s2) s3) s0 6 (mA (sA m s1 (Int.toNat s2) s3) (mR m 731 a0) (Int.toNat a1))) (mR m 732 a0) (Int.toNat a1))) s0 8 (mA (sA (sA (sA m s1 (Int.toNat s2) s3) s0 6 (mA (sA m s1 (Int.toNat s2) s3) (mR m 731 a0) (Int.toNat a1))) s0 7 (mA (sA (sA m s1 (Int.toNat s2) s3) s0 6 (mA (sA m s1 (Int.toNat s2) s3) (mR m 731 a0) (Int.toNat a1))) (mR m 732 a0) (Int.toNat a1))) (mR m 733 a0) (Int.toNat a1))) s0 9 (mA (sA (sA (sA (sA m s1 (Int.toNat s2) s3) s0 6 (mA (sA m s1 (Int.toNat s2) s3) (mR m 731 a0) (Int.toNat a1))) s0 7 (mA (sA (sA m s1 (Int.toNat s2) s3) s0 6 (mA (sA m s1 (Int.toNat s2) s3) (mR m 731 a0) (Int.toNat a1))) (mR m 732 a0) (Int.toNat a1))) s0 8 (mA (sA (sA (sA m s1 (Int.toNat s2) s3) s0 6 (mA (sA m s1 (Int.toNat s2) s3) (mR m 731 a0) (Int.toNat a1))) s0 7 (mA (sA (sA m s1 (Int.toNat s2) s3) s0 6 (mA (sA m s1 (Int.toNat s2) s3) (mR m 731 a0) (Int.toNat a1))) (mR m 732 a0) (Int.toNat a1))) (mR m 733 a0) (Int.toNat a1))) (mR m 726 a0) (Int.toNat a1))) (mR m 727 a0) (Int.toNat a1))) Q) ∧ (¬ ((mA (sA (sA (sA (sA (sA (sA m s1 (Int.toNat s2) s3) s0 6 (mA (sA m s1 (Int.toNat s2) s3) (mR m 731 a0) (Int.toNat a1))) s0 7 (mA (sA (sA m s1 (Int.toNat s2) s3) s0 6 (mA (sA m s1 (Int.toNat s2) s3) (mR m 731 a0) (Int.toNat a1))) (mR m 732 a0) (Int.toNat a1))) s0 8 (mA (sA (sA (sA m s1 (Int.toNat s2) s3) s0 6 (mA (sA m s1 (Int.toNat s2) s3) (mR m 731 a0) (Int.toNat a1))) s0 7 (mA (sA (sA m s1 (Int.toNat s2) s3) s0 6 (mA (sA m s1 (Int.toNat s2) s3) (mR m 731 a0) (Int.toNat a1))) (mR m 732 a0) (Int.toNat a1))) (mR m 733 a0) (Int.toNat a1))) s0 9 (mA (sA (sA (sA (sA m s1 (Int.toNat s2) s3) s0 6 (mA (sA m s1 (Int.toNat s2) s3) (mR m 731 a0) (Int.toNat a1))) s0 7 (mA (sA (sA m s1 (Int.toNat s2) s3) s0 6 (mA (sA m s1 (Int.toNat s2) s3) (mR m 731 a0) (Int.toNat a1))) (mR m 732 a0) (Int.toNat a1))) s0 8 (mA (sA (sA (sA m s1 (Int.toNat s2) s3) s0 6 (mA (sA m s1 (Int.toNat s2) s3) (mR m 731 a0) (Int.toNat a1))) s0 7 (mA (sA (sA m s1 (Int.toNat s2) s3) s0 6 (mA (sA m s1 (Int.toNat s2) s3) (mR m 731 a0) (Int.toNat a1))) (mR m 732 a0) (Int.toNat a1))) (mR m 733 a0) (Int.toNat a1))) (mR m 726 a0) (Int.toNat a1))) s0 10 (mA (sA (sA (sA (sA (sA m s1 (Int.toNat s2) s3) s0 6 (mA (sA m s1 (Int.toNat s2) s3) (mR m 731 a0) (Int.toNat a1))) s0 7 (mA (sA (sA m s1 (Int.toNat s2) s3) s0 6 (mA (sA m s1 (Int.toNat s2) s3) (mR m 731 a0) (Int.toNat a1))) (mR m 732 a0) (Int.toNat a1))) s0 8 (mA (sA (sA (sA m s1 (Int.toNat s2) s3) s0 6 (mA (sA m s1 (Int.toNat s2) s3) (mR m 731 a0) (Int.toNat a1))) s0 7 (mA (sA (sA m s1 (Int.toNat s2) s3) s0 6 (mA (sA m s1 (Int.toNat s2) s3) (mR m 731 a0) (Int.toNat a1))) (mR m 732 a0) (Int.toNat a1))) (mR m 733 a0) (Int.toNat a1))) s0 9 (mA (sA (sA (sA (sA m s1 (Int.toNat s2) s3) s0 6 (mA (sA m s1 (Int.toNat s2) s3) (mR m 731 a0) (Int.toNat a1))) s0 7 (mA (sA (sA m s1 (Int.toNat s2) s3) s0 6 (mA (sA m s1 (Int.toNat s2) s3) (mR m 731 a0) (Int.toNat a1))) (mR m 732 a0) (Int.toNat a1))) s0 8 (mA (sA (sA (sA m s1 (Int.toNat s2) s3) s0 6 (mA (sA m s1 (Int.toNat s2) s3) (mR m 731 a0) (Int.toNat a1))) s0 7 (mA (sA (sA m s1 (Int.toNat s2) s3) s0 6 (mA (sA m s1 (Int.toNat s2) s3) (mR m 731 a0) (Int.toNat a1))) (mR m 732 a0) (Int.toNat a1))) (mR m 733 a0) (Int.toNat a1))) (mR m 726 a0) (Int.toNat a1))) (mR m 727 a0) (Int.toNat a1))) (mR m 728 a0) (Int.toNat a1)) = 0) → zW xs xl d cX11_slip 11 (some .int) false [] 141 [zR a0, zI a1, zI a2, a3] [zI 1, zI 11, zR s0, zR s0] (sA (sA (sA (sA (sA (sA m s1 (Int.toNat s2) s3) s0 6 (mA (sA m s1 (Int.toNat s2) s3) (mR m 731 a0) (Int.toNat a1))) s0 7 (mA (sA (sA m s1 (Int.toNat s2) s3) s0 6 (mA (sA m s1 (Int.toNat s2) s3) (mR m 731 a0) (Int.toNat a1))) (mR m 732 a0) (Int.toNat a1))) s0 8 (mA (sA (sA (sA m s1 (Int.toNat s2) s3) s0 6 (mA (sA m s1 (Int.toNat s2) s3) (mR m 731 a0) (Int.toNat a1))) s0 7 (mA (sA (sA m s1 (Int.toNat s2) s3) s0 6 (mA (sA m s1 (Int.toNat s2) s3) (mR m 731 a0) (Int.toNat a1))) (mR m 732 a0) (Int.toNat a1))) (mR m 733 a0) (Int.toNat a1))) s0 9 (mA (sA (sA (sA (sA m s1 (Int.toNat s2) s3) s0 6 (mA (sA m s1 (Int.toNat s2) s3) (mR m 731 a0) (Int.toNat a1))) s0 7 (mA (sA (sA m s1 (Int.toNat s2) s3) s0 6 (mA (sA m s1 (Int.toNat s2) s3) (mR m 731 a0) (Int.toNat a1))) (mR m 732 a0) (Int.toNat a1))) s0 8 (mA (sA (sA (sA m s1 (Int.toNat s2) s3) s0 6 (mA (sA m s1 (Int.toNat s2) s3) (mR m 731 a0) (Int.toNat a1))) s0 7 (mA (sA (sA m s1 (Int.toNat s2) s3) s0 6 (mA (sA m s1 (Int.toNat s2) s3) (mR m 731 a0) (Int.toNat a1))) (mR m 732 a0) (Int.toNat a1))) (mR m 733 a0) (Int.toNat a1))) (mR m 726 a0) (Int.toNat a1))) s0 10 (mA (sA (sA (sA (sA (sA m s1 (Int.toNat s2) s3) s0 6 (mA (sA m s1 (Int.toNat s2) s3) (mR m 731 a0) (Int.toNat a1))) s0 7 (mA (sA (sA m s1 (Int.toNat s2) s3) s0 6 (mA (sA m s1 (Int.toNat s2) s3) (mR m 731 a0) (Int.toNat a1))) (mR m 732 a0) (Int.toNat a1))) s0 8 (mA (sA (sA (sA m s1 (Int.toNat s2) s3) s0 6 (mA (sA m s1 (Int.toNat s2) s3) (mR m 731 a0) (Int.toNat a1))) s0 7 (mA (sA (sA m s1 (Int.toNat s2) s3) s0 6 (mA (sA m s1 (Int.toNat s2) s3) (mR m 731 a0) (Int.toNat a1))) (mR m 732 a0) (Int.toNat a1))) (mR m 733 a0) (Int.toNat a1))) s0 9 (mA (sA (sA (sA (sA m s1 (Int.toNat s2) s3) s0 6 (mA (sA m s1 (Int.toNat s2) s3) (mR m 731 a0) (Int.toNat a1))) s0 7 (mA (sA (sA m s1 (Int.toNat s2) s3) s0 6 (mA (sA m s1 (Int.toNat s2) s3) (mR m 731 a0) (Int.toNat a1))) (mR m 732 a0) (Int.toNat a1))) s0 8 (mA (sA (sA (sA m s1 (Int.toNat s2) s3) s0 6 (mA (sA m s1 (Int.toNat s2) s3) (mR m 731 a0) (Int.toNat a1))) s0 7 (mA (sA (sA m s1 (Int.toNat s2) s3) s0 6 (mA (sA m s1 (Int.toNat s2) s3) (mR m 731 a0) (Int.toNat a1))) (mR m 732 a0) (Int.toNat a1))) (mR m 733 a0) (Int.toNat a1))) (mR m 726 a0) (Int.toNat a1))) (mR m 727 a0) (Int.toNat a1))) Q))) : zW xs xl d cX11_slip 11 (some .int) false [] 73 [zR a0, zI a1, zI a2, a3] [zI s3, zI s2, zR s1, zR s0] m Q := by
  obtain ⟨g1, h⟩ := h
  obtain ⟨g2, h⟩ := h
  refine (zq_iast dX11_slip_73).mpr ⟨⟨g2, g1⟩, ?_⟩
  refine (zq_dupR dX11_slip_74).mpr ?_
  refine (zq_bipush dX11_slip_75 (by decide)).mpr ?_
  refine (zq_aload_n dX11_slip_77 rfl).mpr ?_
  obtain ⟨g3, h⟩ := h
  refine (zq_getR2 (f := 731) (v := (mR m 731 a0)) dX11_slip_78 fl_11_85 (by decide) rfl rfl (by first | rfl | simp only [zm_Is, zm_Rs, zm_As, zm_Os, zm_In0, zm_Rn0])).mpr ⟨g3, ?_⟩
  refine (zq_iload_n dX11_slip_81 rfl).mpr ?_
  obtain ⟨g4, h⟩ := h
  obtain ⟨g5, h⟩ := h
  refine (zq_iald2 (v := (mA (sA m s1 (Int.toNat s2) s3) (mR m 731 a0) (Int.toNat a1))) dX11_slip_82 (by first | rfl | simp only [zm_Is, zm_Rs, zm_As, zm_Os, zm_In0, zm_Rn0])).mpr ⟨⟨g4, g5⟩, ?_⟩
  obtain ⟨g6, h⟩ := h
  obtain ⟨g7, h⟩ := h
  refine (zq_iast dX11_slip_83).mpr ⟨⟨g7, ⟨by decide, g6⟩⟩, ?_⟩
  refine (zq_dupR dX11_slip_84).mpr ?_
  refine (zq_bipush dX11_slip_85 (by decide)).mpr ?_
  refine (zq_aload_n dX11_slip_87 rfl).mpr ?_
  refine (zq_getR2 (f := 732) (v := (mR m 732 a0)) dX11_slip_88 fl_11_88 (by decide) rfl rfl (by first | rfl | simp only [zm_Is, zm_Rs, zm_As, zm_Os, zm_In0, zm_Rn0])).mpr ⟨g3, ?_⟩
  refine (zq_iload_n dX11_slip_91 rfl).mpr ?_
  obtain ⟨g8, h⟩ := h
  obtain ⟨g9, h⟩ := h
  refine (zq_iald2 (v := (mA (sA (sA m s1 (Int.toNat s2) s3) s0 6 (mA (sA m s1 (Int.toNat s2) s3) (mR m 731 a0) (Int.toNat a1))) (mR m 732 a0) (Int.toNat a1))) dX11_slip_92 (by first | rfl | simp only [zm_Is, zm_Rs, zm_As, zm_Os, zm_In0, zm_Rn0])).mpr ⟨⟨g8, g9⟩, ?_⟩
  obtain ⟨g10, h⟩ := h
  refine (zq_iast dX11_slip_93).mpr ⟨⟨g7, ⟨by decide, g10⟩⟩, ?_⟩
  refine (zq_dupR dX11_slip_94).mpr ?_
  refine (zq_bipush dX11_slip_95 (by decide)).mpr ?_
  refine (zq_aload_n dX11_slip_97 rfl).mpr ?_
  refine (zq_getR2 (f := 733) (v := (mR m 733 a0)) dX11_slip_98 fl_11_91 (by decide) rfl rfl (by first | rfl | simp only [zm_Is, zm_Rs, zm_As, zm_Os, zm_In0, zm_Rn0])).mpr ⟨g3, ?_⟩
  refine (zq_iload_n dX11_slip_101 rfl).mpr ?_
  obtain ⟨g11, h⟩ := h
  obtain ⟨g12, h⟩ := h
  refine (zq_iald2 (v := (mA (sA (sA (sA m s1 (Int.toNat s2) s3) s0 6 (mA (sA m s1 (Int.toNat s2) s3) (mR m 731 a0) (Int.toNat a1))) s0 7 (mA (sA (sA m s1 (Int.toNat s2) s3) s0 6 (mA (sA m s1 (Int.toNat s2) s3) (mR m 731 a0) (Int.toNat a1))) (mR m 732 a0) (Int.toNat a1))) (mR m 733 a0) (Int.toNat a1))) dX11_slip_102 (by first | rfl | simp only [zm_Is, zm_Rs, zm_As, zm_Os, zm_In0, zm_Rn0])).mpr ⟨⟨g11, g12⟩, ?_⟩
  obtain ⟨g13, h⟩ := h
  refine (zq_iast dX11_slip_103).mpr ⟨⟨g7, ⟨by decide, g13⟩⟩, ?_⟩
  refine (zq_dupR dX11_slip_104).mpr ?_
  refine (zq_bipush dX11_slip_105 (by decide)).mpr ?_
  refine (zq_aload_n dX11_slip_107 rfl).mpr ?_
  refine (zq_getR2 (f := 726) (v := (mR m 726 a0)) dX11_slip_108 fl_11_70 (by decide) rfl rfl (by first | rfl | simp only [zm_Is, zm_Rs, zm_As, zm_Os, zm_In0, zm_Rn0])).mpr ⟨g3, ?_⟩
  refine (zq_iload_n dX11_slip_111 rfl).mpr ?_
  obtain ⟨g14, h⟩ := h
  obtain ⟨g15, h⟩ := h
  refine (zq_iald2 (v := (mA (sA (sA (sA (sA m s1 (Int.toNat s2) s3) s0 6 (mA (sA m s1 (Int.toNat s2) s3) (mR m 731 a0) (Int.toNat a1))) s0 7 (mA (sA (sA m s1 (Int.toNat s2) s3) s0 6 (mA (sA m s1 (Int.toNat s2) s3) (mR m 731 a0) (Int.toNat a1))) (mR m 732 a0) (Int.toNat a1))) s0 8 (mA (sA (sA (sA m s1 (Int.toNat s2) s3) s0 6 (mA (sA m s1 (Int.toNat s2) s3) (mR m 731 a0) (Int.toNat a1))) s0 7 (mA (sA (sA m s1 (Int.toNat s2) s3) s0 6 (mA (sA m s1 (Int.toNat s2) s3) (mR m 731 a0) (Int.toNat a1))) (mR m 732 a0) (Int.toNat a1))) (mR m 733 a0) (Int.toNat a1))) (mR m 726 a0) (Int.toNat a1))) dX11_slip_112 (by first | rfl | simp only [zm_Is, zm_Rs, zm_As, zm_Os, zm_In0, zm_Rn0])).mpr ⟨⟨g14, g15⟩, ?_⟩
  obtain ⟨g16, h⟩ := h
  refine (zq_iast dX11_slip_113).mpr ⟨⟨g7, ⟨by decide, g16⟩⟩, ?_⟩
  refine (zq_dupR dX11_slip_114).mpr ?_
  refine (zq_bipush dX11_slip_115 (by decide)).mpr ?_
  refine (zq_aload_n dX11_slip_117 rfl).mpr ?_
  refine (zq_getR2 (f := 727) (v := (mR m 727 a0)) dX11_slip_118 fl_11_73 (by decide) rfl rfl (by first | rfl | simp only [zm_Is, zm_Rs, zm_As, zm_Os, zm_In0, zm_Rn0])).mpr ⟨g3, ?_⟩
  refine (zq_iload_n dX11_slip_121 rfl).mpr ?_
  obtain ⟨g17, h⟩ := h
  obtain ⟨g18, h⟩ := h
  refine (zq_iald2 (v := (mA (sA (sA (sA (sA (sA m s1 (Int.toNat s2) s3) s0 6 (mA (sA m s1 (Int.toNat s2) s3) (mR m 731 a0) (Int.toNat a1))) s0 7 (mA (sA (sA m s1 (Int.toNat s2) s3) s0 6 (mA (sA m s1 (Int.toNat s2) s3) (mR m 731 a0) (Int.toNat a1))) (mR m 732 a0) (Int.toNat a1))) s0 8 (mA (sA (sA (sA m s1 (Int.toNat s2) s3) s0 6 (mA (sA m s1 (Int.toNat s2) s3) (mR m 731 a0) (Int.toNat a1))) s0 7 (mA (sA (sA m s1 (Int.toNat s2) s3) s0 6 (mA (sA m s1 (Int.toNat s2) s3) (mR m 731 a0) (Int.toNat a1))) (mR m 732 a0) (Int.toNat a1))) (mR m 733 a0) (Int.toNat a1))) s0 9 (mA (sA (sA (sA (sA m s1 (Int.toNat s2) s3) s0 6 (mA (sA m s1 (Int.toNat s2) s3) (mR m 731 a0) (Int.toNat a1))) s0 7 (mA (sA (sA m s1 (Int.toNat s2) s3) s0 6 (mA (sA m s1 (Int.toNat s2) s3) (mR m 731 a0) (Int.toNat a1))) (mR m 732 a0) (Int.toNat a1))) s0 8 (mA (sA (sA (sA m s1 (Int.toNat s2) s3) s0 6 (mA (sA m s1 (Int.toNat s2) s3) (mR m 731 a0) (Int.toNat a1))) s0 7 (mA (sA (sA m s1 (Int.toNat s2) s3) s0 6 (mA (sA m s1 (Int.toNat s2) s3) (mR m 731 a0) (Int.toNat a1))) (mR m 732 a0) (Int.toNat a1))) (mR m 733 a0) (Int.toNat a1))) (mR m 726 a0) (Int.toNat a1))) (mR m 727 a0) (Int.toNat a1))) dX11_slip_122 (by first | rfl | simp only [zm_Is, zm_Rs, zm_As, zm_Os, zm_In0, zm_Rn0])).mpr ⟨⟨g17, g18⟩, ?_⟩
  obtain ⟨g19, h⟩ := h
  refine (zq_iast dX11_slip_123).mpr ⟨⟨g7, ⟨by decide, g19⟩⟩, ?_⟩
  refine (zq_dupR dX11_slip_124).mpr ?_
  refine (zq_bipush dX11_slip_125 (by decide)).mpr ?_
  refine (zq_aload_n dX11_slip_127 rfl).mpr ?_
  refine (zq_getR2 (f := 728) (v := (mR m 728 a0)) dX11_slip_128 fl_11_76 (by decide) rfl rfl (by first | rfl | simp only [zm_Is, zm_Rs, zm_As, zm_Os, zm_In0, zm_Rn0])).mpr ⟨g3, ?_⟩
  refine (zq_iload_n dX11_slip_131 rfl).mpr ?_
  obtain ⟨g20, h⟩ := h
  obtain ⟨g21, h⟩ := h
  refine (zq_bald2 (v := (mA (sA (sA (sA (sA (sA (sA m s1 (Int.toNat s2) s3) s0 6 (mA (sA m s1 (Int.toNat s2) s3) (mR m 731 a0) (Int.toNat a1))) s0 7 (mA (sA (sA m s1 (Int.toNat s2) s3) s0 6 (mA (sA m s1 (Int.toNat s2) s3) (mR m 731 a0) (Int.toNat a1))) (mR m 732 a0) (Int.toNat a1))) s0 8 (mA (sA (sA (sA m s1 (Int.toNat s2) s3) s0 6 (mA (sA m s1 (Int.toNat s2) s3) (mR m 731 a0) (Int.toNat a1))) s0 7 (mA (sA (sA m s1 (Int.toNat s2) s3) s0 6 (mA (sA m s1 (Int.toNat s2) s3) (mR m 731 a0) (Int.toNat a1))) (mR m 732 a0) (Int.toNat a1))) (mR m 733 a0) (Int.toNat a1))) s0 9 (mA (sA (sA (sA (sA m s1 (Int.toNat s2) s3) s0 6 (mA (sA m s1 (Int.toNat s2) s3) (mR m 731 a0) (Int.toNat a1))) s0 7 (mA (sA (sA m s1 (Int.toNat s2) s3) s0 6 (mA (sA m s1 (Int.toNat s2) s3) (mR m 731 a0) (Int.toNat a1))) (mR m 732 a0) (Int.toNat a1))) s0 8 (mA (sA (sA (sA m s1 (Int.toNat s2) s3) s0 6 (mA (sA m s1 (Int.toNat s2) s3) (mR m 731 a0) (Int.toNat a1))) s0 7 (mA (sA (sA m s1 (Int.toNat s2) s3) s0 6 (mA (sA m s1 (Int.toNat s2) s3) (mR m 731 a0) (Int.toNat a1))) (mR m 732 a0) (Int.toNat a1))) (mR m 733 a0) (Int.toNat a1))) (mR m 726 a0) (Int.toNat a1))) s0 10 (mA (sA (sA (sA (sA (sA m s1 (Int.toNat s2) s3) s0 6 (mA (sA m s1 (Int.toNat s2) s3) (mR m 731 a0) (Int.toNat a1))) s0 7 (mA (sA (sA m s1 (Int.toNat s2) s3) s0 6 (mA (sA m s1 (Int.toNat s2) s3) (mR m 731 a0) (Int.toNat a1))) (mR m 732 a0) (Int.toNat a1))) s0 8 (mA (sA (sA (sA m s1 (Int.toNat s2) s3) s0 6 (mA (sA m s1 (Int.toNat s2) s3) (mR m 731 a0) (Int.toNat a1))) s0 7 (mA (sA (sA m s1 (Int.toNat s2) s3) s0 6 (mA (sA m s1 (Int.toNat s2) s3) (mR m 731 a0) (Int.toNat a1))) (mR m 732 a0) (Int.toNat a1))) (mR m 733 a0) (Int.toNat a1))) s0 9 (mA (sA (sA (sA (sA m s1 (Int.toNat s2) s3) s0 6 (mA (sA m s1 (Int.toNat s2) s3) (mR m 731 a0) (Int.toNat a1))) s0 7 (mA (sA (sA m s1 (Int.toNat s2) s3) s0 6 (mA (sA m s1 (Int.toNat s2) s3) (mR m 731 a0) (Int.toNat a1))) (mR m 732 a0) (Int.toNat a1))) s0 8 (mA (sA (sA (sA m s1 (Int.toNat s2) s3) s0 6 (mA (sA m s1 (Int.toNat s2) s3) (mR m 731 a0) (Int.toNat a1))) s0 7 (mA (sA (sA m s1 (Int.toNat s2) s3) s0 6 (mA (sA m s1 (Int.toNat s2) s3) (mR m 731 a0) (Int.toNat a1))) (mR m 732 a0) (Int.toNat a1))) (mR m 733 a0) (Int.toNat a1))) (mR m 726 a0) (Int.toNat a1))) (mR m 727 a0) (Int.toNat a1))) (mR m 728 a0) (Int.toNat a1))) dX11_slip_132 (by first | rfl | simp only [zm_Is, zm_Rs, zm_As, zm_Os, zm_In0, zm_Rn0])).mpr ⟨⟨g20, g21⟩, ?_⟩
  refine (zq_if_eq (t := 140) dX11_slip_133 rfl).mpr ⟨fun c => ?_, fun c => ?_⟩
  · replace h := h.1 c
    refine (zq_iconst dX11_slip_140 (by decide)).mpr ?_
    exact h
  · replace h := h.2 c
    refine (zq_iconst dX11_slip_136 (by decide)).mpr ?_
    refine (zq_goto (t := 141) dX11_slip_137 rfl).mpr ?_
    exact h
theorem bX11_slip_141 {a0 : Nat} {a1 : Int} {a2 : Int} {a3 : zV} {s0 : Nat} {s1 : Nat} {s2 : Int} {s3 : Int} (h : (0 ≤ s2 ∧ s2 < mN m s1) ∧ (mC m s1 = 20) ∧ (mC m a0 = 12) ∧ (mC m (mR m 725 a0) = 20) ∧ (0 ≤ a1 ∧ a1 < mN m (mR m 725 a0)) ∧ (12 < mN m s0) ∧ (mC m s0 = 20) ∧ (mC m (mR m 723 a0) = 20) ∧ (0 ≤ a1 ∧ a1 < mN m (mR m 723 a0)) ∧ (13 < mN m s0) ∧ (mC m (mR m 724 a0) = 20) ∧ (0 ≤ a1 ∧ a1 < mN m (mR m 724 a0)) ∧ (14 < mN m s0) ∧ (0 ≤ a2 ∧ a2 < mN m s0) ∧ Q (.inl (some (zI (mA (sA (sA (sA (sA m s1 (Int.toNat s2) s3) s0 12 (mA (sA m s1 (Int.toNat s2) s3) (mR m 725 a0) (Int.toNat a1))) s0 13 (mA (sA (sA m s1 (Int.toNat s2) s3) s0 12 (mA (sA m s1 (Int.toNat s2) s3) (mR m 725 a0) (Int.toNat a1))) (mR m 723 a0) (Int.toNat a1))) s0 14 (mA (sA (sA (sA m s1 (Int.toNat s2) s3) s0 12 (mA (sA m s1 (Int.toNat s2) s3) (mR m 725 a0) (Int.toNat a1))) s0 13 (mA (sA (sA m s1 (Int.toNat s2) s3) s0 12 (mA (sA m s1 (Int.toNat s2) s3) (mR m 725 a0) (Int.toNat a1))) (mR m 723 a0) (Int.toNat a1))) (mR m 724 a0) (Int.toNat a1))) s0 (Int.toNat a2))))) (sA (sA (sA (sA m s1 (Int.toNat s2) s3) s0 12 (mA (sA m s1 (Int.toNat s2) s3) (mR m 725 a0) (Int.toNat a1))) s0 13 (mA (sA (sA m s1 (Int.toNat s2) s3) s0 12 (mA (sA m s1 (Int.toNat s2) s3) (mR m 725 a0) (Int.toNat a1))) (mR m 723 a0) (Int.toNat a1))) s0 14 (mA (sA (sA (sA m s1 (Int.toNat s2) s3) s0 12 (mA (sA m s1 (Int.toNat s2) s3) (mR m 725 a0) (Int.toNat a1))) s0 13 (mA (sA (sA m s1 (Int.toNat s2) s3) s0 12 (mA (sA m s1 (Int.toNat s2) s3) (mR m 725 a0) (Int.toNat a1))) (mR m 723 a0) (Int.toNat a1))) (mR m 724 a0) (Int.toNat a1)))) : zW xs xl d cX11_slip 11 (some .int) false [] 141 [zR a0, zI a1, zI a2, a3] [zI s3, zI s2, zR s1, zR s0] m Q := by
  obtain ⟨g1, h⟩ := h
  obtain ⟨g2, h⟩ := h
  refine (zq_iast dX11_slip_141).mpr ⟨⟨g2, g1⟩, ?_⟩
  refine (zq_dupR dX11_slip_142).mpr ?_
  refine (zq_bipush dX11_slip_143 (by decide)).mpr ?_
  refine (zq_aload_n dX11_slip_145 rfl).mpr ?_
  obtain ⟨g3, h⟩ := h
  refine (zq_getR2 (f := 725) (v := (mR m 725 a0)) dX11_slip_146 fl_11_67 (by decide) rfl rfl (by first | rfl | simp only [zm_Is, zm_Rs, zm_As, zm_Os, zm_In0, zm_Rn0])).mpr ⟨g3, ?_⟩
  refine (zq_iload_n dX11_slip_149 rfl).mpr ?_
  obtain ⟨g4, h⟩ := h
  obtain ⟨g5, h⟩ := h
  refine (zq_iald2 (v := (mA (sA m s1 (Int.toNat s2) s3) (mR m 725 a0) (Int.toNat a1))) dX11_slip_150 (by first | rfl | simp only [zm_Is, zm_Rs, zm_As, zm_Os, zm_In0, zm_Rn0])).mpr ⟨⟨g4, g5⟩, ?_⟩
  obtain ⟨g6, h⟩ := h
  obtain ⟨g7, h⟩ := h
  refine (zq_iast dX11_slip_151).mpr ⟨⟨g7, ⟨by decide, g6⟩⟩, ?_⟩
  refine (zq_dupR dX11_slip_152).mpr ?_
  refine (zq_bipush dX11_slip_153 (by decide)).mpr ?_
  refine (zq_aload_n dX11_slip_155 rfl).mpr ?_
  refine (zq_getR2 (f := 723) (v := (mR m 723 a0)) dX11_slip_156 fl_11_61 (by decide) rfl rfl (by first | rfl | simp only [zm_Is, zm_Rs, zm_As, zm_Os, zm_In0, zm_Rn0])).mpr ⟨g3, ?_⟩
  refine (zq_iload_n dX11_slip_159 rfl).mpr ?_
  obtain ⟨g8, h⟩ := h
  obtain ⟨g9, h⟩ := h
  refine (zq_iald2 (v := (mA (sA (sA m s1 (Int.toNat s2) s3) s0 12 (mA (sA m s1 (Int.toNat s2) s3) (mR m 725 a0) (Int.toNat a1))) (mR m 723 a0) (Int.toNat a1))) dX11_slip_160 (by first | rfl | simp only [zm_Is, zm_Rs, zm_As, zm_Os, zm_In0, zm_Rn0])).mpr ⟨⟨g8, g9⟩, ?_⟩
  obtain ⟨g10, h⟩ := h
  refine (zq_iast dX11_slip_161).mpr ⟨⟨g7, ⟨by decide, g10⟩⟩, ?_⟩
  refine (zq_dupR dX11_slip_162).mpr ?_
  refine (zq_bipush dX11_slip_163 (by decide)).mpr ?_
  refine (zq_aload_n dX11_slip_165 rfl).mpr ?_
  refine (zq_getR2 (f := 724) (v := (mR m 724 a0)) dX11_slip_166 fl_11_64 (by decide) rfl rfl (by first | rfl | simp only [zm_Is, zm_Rs, zm_As, zm_Os, zm_In0, zm_Rn0])).mpr ⟨g3, ?_⟩
  refine (zq_iload_n dX11_slip_169 rfl).mpr ?_
  obtain ⟨g11, h⟩ := h
  obtain ⟨g12, h⟩ := h
  refine (zq_iald2 (v := (mA (sA (sA (sA m s1 (Int.toNat s2) s3) s0 12 (mA (sA m s1 (Int.toNat s2) s3) (mR m 725 a0) (Int.toNat a1))) s0 13 (mA (sA (sA m s1 (Int.toNat s2) s3) s0 12 (mA (sA m s1 (Int.toNat s2) s3) (mR m 725 a0) (Int.toNat a1))) (mR m 723 a0) (Int.toNat a1))) (mR m 724 a0) (Int.toNat a1))) dX11_slip_170 (by first | rfl | simp only [zm_Is, zm_Rs, zm_As, zm_Os, zm_In0, zm_Rn0])).mpr ⟨⟨g11, g12⟩, ?_⟩
  obtain ⟨g13, h⟩ := h
  refine (zq_iast dX11_slip_171).mpr ⟨⟨g7, ⟨by decide, g13⟩⟩, ?_⟩
  refine (zq_astore_n dX11_slip_172 (by simp) rfl).mpr ?_
  refine (zq_aload_n dX11_slip_173 rfl).mpr ?_
  refine (zq_iload_n dX11_slip_174 rfl).mpr ?_
  obtain ⟨g14, h⟩ := h
  refine (zq_iald2 (v := (mA (sA (sA (sA (sA m s1 (Int.toNat s2) s3) s0 12 (mA (sA m s1 (Int.toNat s2) s3) (mR m 725 a0) (Int.toNat a1))) s0 13 (mA (sA (sA m s1 (Int.toNat s2) s3) s0 12 (mA (sA m s1 (Int.toNat s2) s3) (mR m 725 a0) (Int.toNat a1))) (mR m 723 a0) (Int.toNat a1))) s0 14 (mA (sA (sA (sA m s1 (Int.toNat s2) s3) s0 12 (mA (sA m s1 (Int.toNat s2) s3) (mR m 725 a0) (Int.toNat a1))) s0 13 (mA (sA (sA m s1 (Int.toNat s2) s3) s0 12 (mA (sA m s1 (Int.toNat s2) s3) (mR m 725 a0) (Int.toNat a1))) (mR m 723 a0) (Int.toNat a1))) (mR m 724 a0) (Int.toNat a1))) s0 (Int.toNat a2))) dX11_slip_175 (by first | rfl | simp only [zm_Is, zm_Rs, zm_As, zm_Os, zm_In0, zm_Rn0])).mpr ⟨⟨g7, g14⟩, ?_⟩
  exact (zq_iret dX11_slip_176 rfl).mpr ⟨trivial, h⟩
theorem bX11_counted_0 {a0 : Nat} {a1 : Int} (h : zW xs xl d cX11_counted 11 (some .int) false [] 7 [zR a0, zI a1, zI 0, zI 0, zI 0] [] m Q) : zC xs xl (d + 1) 159 [zR a0, zI a1] m Q := by
  refine zk_159 ?_
  refine (zq_iconst dX11_counted_0 (by decide)).mpr ?_
  refine (zq_istore_n dX11_counted_1 (by simp) rfl).mpr ?_
  refine (zq_iconst dX11_counted_2 (by decide)).mpr ?_
  refine (zq_istore_n dX11_counted_3 (by simp) rfl).mpr ?_
  refine (zq_iconst dX11_counted_4 (by decide)).mpr ?_
  refine (zq_istore dX11_counted_5 (by simp) rfl).mpr ?_
  exact h
theorem bX11_counted_7 {a0 : Nat} {a1 : Int} {a2 : Int} {a3 : Int} {a4 : Int} (h : (mC m a0 = 12) ∧ (((mI m 712 a0) ≤ a4 → zW xs xl d cX11_counted 11 (some .int) false [] 43 [zR a0, zI a1, zI a2, zI a3, zI 0] [] m Q) ∧ (¬ ((mI m 712 a0) ≤ a4) → (mC m (mR m 714 a0) = 21 ∨ mC m (mR m 714 a0) = 22) ∧ (0 ≤ a4 ∧ a4 < mN m (mR m 714 a0)) ∧ (((mA m (mR m 714 a0) (Int.toNat a4)) = 0 → zW xs xl d cX11_counted 11 (some .int) false [] 7 [zR a0, zI a1, zI (wr (a2 + 0)), zI a3, zI (wr (a4 + 1))] [] m Q) ∧ (¬ ((mA m (mR m 714 a0) (Int.toNat a4)) = 0) → zW xs xl d cX11_counted 11 (some .int) false [] 7 [zR a0, zI a1, zI (wr (a2 + 1)), zI a3, zI (wr (a4 + 1))] [] m Q))))) : zW xs xl d cX11_counted 11 (some .int) false [] 7 [zR a0, zI a1, zI a2, zI a3, zI a4] [] m Q := by
  refine (zq_iload dX11_counted_7 rfl).mpr ?_
  refine (zq_aload_n dX11_counted_9 rfl).mpr ?_
  obtain ⟨g1, h⟩ := h
  refine (zq_getI2 (f := 712) (v := (mI m 712 a0)) dX11_counted_10 fl_11_116 (by decide) rfl rfl (by first | rfl | simp only [zm_Is, zm_Rs, zm_As, zm_Os, zm_In0, zm_Rn0])).mpr ⟨g1, ?_⟩
  refine (zq_icmp_ge (t := 40) dX11_counted_13 rfl).mpr ⟨fun c => ?_, fun c => ?_⟩
  · replace h := h.1 c
    refine (zq_iconst dX11_counted_40 (by decide)).mpr ?_
    refine (zq_istore dX11_counted_41 (by simp) rfl).mpr ?_
    exact h
  · replace h := h.2 c
    refine (zq_iload_n dX11_counted_16 rfl).mpr ?_
    refine (zq_aload_n dX11_counted_17 rfl).mpr ?_
    refine (zq_getR2 (f := 714) (v := (mR m 714 a0)) dX11_counted_18 fl_11_33 (by decide) rfl rfl (by first | rfl | simp only [zm_Is, zm_Rs, zm_As, zm_Os, zm_In0, zm_Rn0])).mpr ⟨g1, ?_⟩
    refine (zq_iload dX11_counted_21 rfl).mpr ?_
    obtain ⟨g2, h⟩ := h
    obtain ⟨g3, h⟩ := h
    refine (zq_bald2 (v := (mA m (mR m 714 a0) (Int.toNat a4))) dX11_counted_23 (by first | rfl | simp only [zm_Is, zm_Rs, zm_As, zm_Os, zm_In0, zm_Rn0])).mpr ⟨⟨g2, g3⟩, ?_⟩
    refine (zq_if_eq (t := 31) dX11_counted_24 rfl).mpr ⟨fun c => ?_, fun c => ?_⟩
    · replace h := h.1 c
      refine (zq_iconst dX11_counted_31 (by decide)).mpr ?_
      refine (zq_iadd dX11_counted_32).mpr ?_
      refine (zq_istore_n dX11_counted_33 (by simp) rfl).mpr ?_
      refine (zq_iinc dX11_counted_34 rfl rfl).mpr ?_
      refine (zq_goto (t := 7) dX11_counted_37 rfl).mpr ?_
      exact h
    · replace h := h.2 c
      refine (zq_iconst dX11_counted_27 (by decide)).mpr ?_
      refine (zq_goto (t := 32) dX11_counted_28 rfl).mpr ?_
      refine (zq_iadd dX11_counted_32).mpr ?_
      refine (zq_istore_n dX11_counted_33 (by simp) rfl).mpr ?_
      refine (zq_iinc dX11_counted_34 rfl rfl).mpr ?_
      refine (zq_goto (t := 7) dX11_counted_37 rfl).mpr ?_
      exact h
theorem bX11_counted_43 {a0 : Nat} {a1 : Int} {a2 : Int} {a3 : Int} {a4 : Int} (h : (mC m a0 = 12) ∧ (((mI m 705 a0) ≤ a4 → (mC (nwA m 20 9) a0 = 12) ∧ (0 < mN (nwA m 20 9) (mz m)) ∧ (mC (nwA m 20 9) (mz m) = 20) ∧ (1 < mN (nwA m 20 9) (mz m)) ∧ (2 < mN (nwA m 20 9) (mz m)) ∧ (3 < mN (nwA m 20 9) (mz m)) ∧ zC xs xl d 141 [zR a0, zI (-1)] (sA (sA (sA (sA (nwA m 20 9) (mz m) 0 (mI m 704 a0)) (mz m) 1 (mI m 705 a0)) (mz m) 2 (mI m 712 a0)) (mz m) 3 a2) (fun r m9 => ∃ v10 : Int, r = .inl (some (zI v10)) ∧ (4 < mN m9 (mz m)) ∧ (mC m9 (mz m) = 20) ∧ (mC m9 a0 = 12) ∧ (5 < mN m9 (mz m)) ∧ (6 < mN m9 (mz m)) ∧ (7 < mN m9 (mz m)) ∧ (8 < mN m9 (mz m)) ∧ (0 ≤ a1 ∧ a1 < mN m9 (mz m)) ∧ Q (.inl (some (zI (mA (sA (sA (sA (sA (sA m9 (mz m) 4 v10) (mz m) 5 (mI m9 736 a0)) (mz m) 6 (mI m9 737 a0)) (mz m) 7 (mI m9 738 a0)) (mz m) 8 a3) (mz m) (Int.toNat a1))))) (sA (sA (sA (sA (sA m9 (mz m) 4 v10) (mz m) 5 (mI m9 736 a0)) (mz m) 6 (mI m9 737 a0)) (mz m) 7 (mI m9 738 a0)) (mz m) 8 a3))) ∧ (¬ ((mI m 705 a0) ≤ a4) → (mC m (mR m 707 a0) = 20) ∧ (0 ≤ a4 ∧ a4 < mN m (mR m 707 a0)) ∧ zW xs xl d cX11_counted 11 (some .int) false [] 43 [zR a0, zI a1, zI a2, zI (wr (a3 + (mA m (mR m 707 a0) (Int.toNat a4)))), zI (wr (a4 + 1))] [] m Q))) : zW xs xl d cX11_counted 11 (some .int) false [] 43 [zR a0, zI a1, zI a2, zI a3, zI a4] [] m Q := by
  refine (zq_iload dX11_counted_43 rfl).mpr ?_
  refine (zq_aload_n dX11_counted_45 rfl).mpr ?_
  obtain ⟨g1, h⟩ := h
  refine (zq_getI2 (f := 705) (v := (mI m 705 a0)) dX11_counted_46 fl_11_113 (by decide) rfl rfl (by first | rfl | simp only [zm_Is, zm_Rs, zm_As, zm_Os, zm_In0, zm_Rn0])).mpr ⟨g1, ?_⟩
  refine (zq_icmp_ge (t := 68) dX11_counted_49 rfl).mpr ⟨fun c => ?_, fun c => ?_⟩
  · replace h := h.1 c
    refine (zq_bipush dX11_counted_68 (by decide)).mpr ?_
    refine (zq_newarray (kd := 20) dX11_counted_70 rfl (by decide)).mpr ⟨by decide, ?_⟩
    refine (zq_dupR dX11_counted_72).mpr ?_
    refine (zq_iconst dX11_counted_73 (by decide)).mpr ?_
    refine (zq_aload_n dX11_counted_74 rfl).mpr ?_
    obtain ⟨g3, h⟩ := h
    refine (zq_getI2 (f := 704) (v := (mI m 704 a0)) dX11_counted_75 fl_11_109 (by decide) rfl rfl (by first | rfl | simp only [zm_Is, zm_Rs, zm_As, zm_Os, zm_In0, zm_Rn0])).mpr ⟨g3, ?_⟩
    obtain ⟨g4, h⟩ := h
    obtain ⟨g5, h⟩ := h
    refine (zq_iast dX11_counted_78).mpr ⟨⟨g5, ⟨by decide, g4⟩⟩, ?_⟩
    refine (zq_dupR dX11_counted_79).mpr ?_
    refine (zq_iconst dX11_counted_80 (by decide)).mpr ?_
    refine (zq_aload_n dX11_counted_81 rfl).mpr ?_
    refine (zq_getI2 (f := 705) (v := (mI m 705 a0)) dX11_counted_82 fl_11_113 (by decide) rfl rfl (by first | rfl | simp only [zm_Is, zm_Rs, zm_As, zm_Os, zm_In0, zm_Rn0])).mpr ⟨g3, ?_⟩
    obtain ⟨g6, h⟩ := h
    refine (zq_iast dX11_counted_85).mpr ⟨⟨g5, ⟨by decide, g6⟩⟩, ?_⟩
    refine (zq_dupR dX11_counted_86).mpr ?_
    refine (zq_iconst dX11_counted_87 (by decide)).mpr ?_
    refine (zq_aload_n dX11_counted_88 rfl).mpr ?_
    refine (zq_getI2 (f := 712) (v := (mI m 712 a0)) dX11_counted_89 fl_11_116 (by decide) rfl rfl (by first | rfl | simp only [zm_Is, zm_Rs, zm_As, zm_Os, zm_In0, zm_Rn0])).mpr ⟨g3, ?_⟩
    obtain ⟨g7, h⟩ := h
    refine (zq_iast dX11_counted_92).mpr ⟨⟨g5, ⟨by decide, g7⟩⟩, ?_⟩
    refine (zq_dupR dX11_counted_93).mpr ?_
    refine (zq_iconst dX11_counted_94 (by decide)).mpr ?_
    refine (zq_iload_n dX11_counted_95 rfl).mpr ?_
    obtain ⟨g8, h⟩ := h
    refine (zq_iast dX11_counted_96).mpr ⟨⟨g5, ⟨by decide, g8⟩⟩, ?_⟩
    refine (zq_dupR dX11_counted_97).mpr ?_
    refine (zq_iconst dX11_counted_98 (by decide)).mpr ?_
    refine (zq_aload_n dX11_counted_99 rfl).mpr ?_
    refine (zq_iconst dX11_counted_100 (by decide)).mpr ?_
    refine zq_virtualI (n := 1) dX11_counted_101 mr_11_227 zn_141 rfl rfl rfl (zrcv_R zo_141 (by decide) g3) (Nat.le_of_ble_eq_true rfl) ?_
    refine h.mono (fun r m9 h => ?_)
    obtain ⟨v10, rfl, h⟩ := h
    refine ⟨_, rfl, ?_⟩
    obtain ⟨g11, h⟩ := h
    obtain ⟨g12, h⟩ := h
    refine (zq_iast dX11_counted_104).mpr ⟨⟨g12, ⟨by decide, g11⟩⟩, ?_⟩
    refine (zq_dupR dX11_counted_105).mpr ?_
    refine (zq_iconst dX11_counted_106 (by decide)).mpr ?_
    refine (zq_aload_n dX11_counted_107 rfl).mpr ?_
    obtain ⟨g13, h⟩ := h
    refine (zq_getI2 (f := 736) (v := (mI m9 736 a0)) dX11_counted_108 fl_11_119 (by decide) rfl rfl (by first | rfl | simp only [zm_Is, zm_Rs, zm_As, zm_Os, zm_In0, zm_Rn0])).mpr ⟨g13, ?_⟩
    obtain ⟨g14, h⟩ := h
    refine (zq_iast dX11_counted_111).mpr ⟨⟨g12, ⟨by decide, g14⟩⟩, ?_⟩
    refine (zq_dupR dX11_counted_112).mpr ?_
    refine (zq_bipush dX11_counted_113 (by decide)).mpr ?_
    refine (zq_aload_n dX11_counted_115 rfl).mpr ?_
    refine (zq_getI2 (f := 737) (v := (mI m9 737 a0)) dX11_counted_116 fl_11_122 (by decide) rfl rfl (by first | rfl | simp only [zm_Is, zm_Rs, zm_As, zm_Os, zm_In0, zm_Rn0])).mpr ⟨g13, ?_⟩
    obtain ⟨g15, h⟩ := h
    refine (zq_iast dX11_counted_119).mpr ⟨⟨g12, ⟨by decide, g15⟩⟩, ?_⟩
    refine (zq_dupR dX11_counted_120).mpr ?_
    refine (zq_bipush dX11_counted_121 (by decide)).mpr ?_
    refine (zq_aload_n dX11_counted_123 rfl).mpr ?_
    refine (zq_getI2 (f := 738) (v := (mI m9 738 a0)) dX11_counted_124 fl_11_125 (by decide) rfl rfl (by first | rfl | simp only [zm_Is, zm_Rs, zm_As, zm_Os, zm_In0, zm_Rn0])).mpr ⟨g13, ?_⟩
    obtain ⟨g16, h⟩ := h
    refine (zq_iast dX11_counted_127).mpr ⟨⟨g12, ⟨by decide, g16⟩⟩, ?_⟩
    refine (zq_dupR dX11_counted_128).mpr ?_
    refine (zq_bipush dX11_counted_129 (by decide)).mpr ?_
    refine (zq_iload_n dX11_counted_131 rfl).mpr ?_
    obtain ⟨g17, h⟩ := h
    refine (zq_iast dX11_counted_132).mpr ⟨⟨g12, ⟨by decide, g17⟩⟩, ?_⟩
    refine (zq_astore dX11_counted_133 (by simp) rfl).mpr ?_
    refine (zq_aload dX11_counted_135 rfl).mpr ?_
    refine (zq_iload_n dX11_counted_137 rfl).mpr ?_
    obtain ⟨g18, h⟩ := h
    refine (zq_iald2 (v := (mA (sA (sA (sA (sA (sA m9 (mz m) 4 v10) (mz m) 5 (mI m9 736 a0)) (mz m) 6 (mI m9 737 a0)) (mz m) 7 (mI m9 738 a0)) (mz m) 8 a3) (mz m) (Int.toNat a1))) dX11_counted_138 (by first | rfl | simp only [zm_Is, zm_Rs, zm_As, zm_Os, zm_In0, zm_Rn0])).mpr ⟨⟨g12, g18⟩, ?_⟩
    exact (zq_iret dX11_counted_139 rfl).mpr ⟨trivial, h⟩
  · replace h := h.2 c
    refine (zq_iload_n dX11_counted_52 rfl).mpr ?_
    refine (zq_aload_n dX11_counted_53 rfl).mpr ?_
    refine (zq_getR2 (f := 707) (v := (mR m 707 a0)) dX11_counted_54 fl_11_15 (by decide) rfl rfl (by first | rfl | simp only [zm_Is, zm_Rs, zm_As, zm_Os, zm_In0, zm_Rn0])).mpr ⟨g1, ?_⟩
    refine (zq_iload dX11_counted_57 rfl).mpr ?_
    obtain ⟨g19, h⟩ := h
    obtain ⟨g20, h⟩ := h
    refine (zq_iald2 (v := (mA m (mR m 707 a0) (Int.toNat a4))) dX11_counted_59 (by first | rfl | simp only [zm_Is, zm_Rs, zm_As, zm_Os, zm_In0, zm_Rn0])).mpr ⟨⟨g19, g20⟩, ?_⟩
    refine (zq_iadd dX11_counted_60).mpr ?_
    refine (zq_istore_n dX11_counted_61 (by simp) rfl).mpr ?_
    refine (zq_iinc dX11_counted_62 rfl rfl).mpr ?_
    refine (zq_goto (t := 43) dX11_counted_65 rfl).mpr ?_
    exact h
theorem bX12_init_0 {a0 : Nat} (h : (a0 ≠ 0) ∧ (mC (nwA m 20 1000) a0 = 13) ∧ (mC (nwA (sI (sR (nwA m 20 1000) 769 a0 (mz m)) 771 a0 (-1)) 20 1001) a0 = 13) ∧ (mC (nwA (sR (nwA (sI (sR (nwA m 20 1000) 769 a0 (mz m)) 771 a0 (-1)) 20 1001) 773 a0 (mz m + 1)) 20 1001) a0 = 13) ∧ (mC (nwA (sR (nwA (sR (nwA (sI (sR (nwA m 20 1000) 769 a0 (mz m)) 771 a0 (-1)) 20 1001) 773 a0 (mz m + 1)) 20 1001) 774 a0 (mz m + 2)) 20 1001) a0 = 13) ∧ (mC (nwA (sR (nwA (sR (nwA (sR (nwA (sI (sR (nwA m 20 1000) 769 a0 (mz m)) 771 a0 (-1)) 20 1001) 773 a0 (mz m + 1)) 20 1001) 774 a0 (mz m + 2)) 20 1001) 775 a0 (mz m + 3)) 20 6) a0 = 13) ∧ (mC (nwA (sR (nwA (sR (nwA (sR (nwA (sR (nwA (sI (sR (nwA m 20 1000) 769 a0 (mz m)) 771 a0 (-1)) 20 1001) 773 a0 (mz m + 1)) 20 1001) 774 a0 (mz m + 2)) 20 1001) 775 a0 (mz m + 3)) 20 6) 777 a0 (mz m + 4)) 20 1440) a0 = 13) ∧ (mC (nwA (sR (nwA (sR (nwA (sR (nwA (sR (nwA (sR (nwA (sI (sR (nwA m 20 1000) 769 a0 (mz m)) 771 a0 (-1)) 20 1001) 773 a0 (mz m + 1)) 20 1001) 774 a0 (mz m + 2)) 20 1001) 775 a0 (mz m + 3)) 20 6) 777 a0 (mz m + 4)) 20 1440) 778 a0 (mz m + 5)) 20 240) a0 = 13) ∧ ((mz m + 7) ≠ 0) ∧ zC xs xl d 129 [zR (mz m + 7)] (nwO (sR (nwA (sR (nwA (sR (nwA (sR (nwA (sR (nwA (sR (nwA (sI (sR (nwA m 20 1000) 769 a0 (mz m)) 771 a0 (-1)) 20 1001) 773 a0 (mz m + 1)) 20 1001) 774 a0 (mz m + 2)) 20 1001) 775 a0 (mz m + 3)) 20 6) 777 a0 (mz m + 4)) 20 1440) 778 a0 (mz m + 5)) 20 240) 780 a0 (mz m + 6)) 11 36) (fun r m16 => r = .inl none ∧ (mC m16 a0 = 13) ∧ ((mz m16) ≠ 0) ∧ zC xs xl d 129 [zR (mz m16)] (nwO (sR m16 784 a0 (mz m + 7)) 11 36) (fun r m20 => r = .inl none ∧ (mC m20 a0 = 13) ∧ Q (.inl none) (sR m20 785 a0 (mz m16))))) : zC xs xl (d + 1) 160 [zR a0] m Q := by
  refine zk_160 ?_
  refine (zq_aload_n dX12_init_0 rfl).mpr ?_
  obtain ⟨g1, h⟩ := h
  refine (zq_oinit dX12_init_1 mr_12_1).mpr ⟨⟨g1, (Nat.le_of_ble_eq_true rfl)⟩, ?_⟩
  refine (zq_aload_n dX12_init_4 rfl).mpr ?_
  refine (zq_sipush dX12_init_5 (by decide)).mpr ?_
  refine (zq_newarray (kd := 20) dX12_init_8 rfl (by decide)).mpr ⟨by decide, ?_⟩
  obtain ⟨g3, h⟩ := h
  refine (zq_putR (f := 769) dX12_init_10 fl_12_9 (by decide) rfl rfl rfl).mpr ⟨g3, ?_⟩
  refine (zq_aload_n dX12_init_13 rfl).mpr ?_
  refine (zq_iconst dX12_init_14 (by decide)).mpr ?_
  refine (zq_putI (f := 771) dX12_init_15 fl_12_13 (by decide) rfl rfl rfl).mpr ⟨g3, ?_⟩
  refine (zq_aload_n dX12_init_18 rfl).mpr ?_
  refine (zq_sipush dX12_init_19 (by decide)).mpr ?_
  refine (zq_newarray (kd := 20) dX12_init_22 rfl (by decide)).mpr ⟨by decide, ?_⟩
  obtain ⟨g5, h⟩ := h
  refine (zq_putR (f := 773) dX12_init_24 fl_12_17 (by decide) rfl rfl rfl).mpr ⟨g5, ?_⟩
  refine (zq_aload_n dX12_init_27 rfl).mpr ?_
  refine (zq_sipush dX12_init_28 (by decide)).mpr ?_
  refine (zq_newarray (kd := 20) dX12_init_31 rfl (by decide)).mpr ⟨by decide, ?_⟩
  obtain ⟨g7, h⟩ := h
  refine (zq_putR (f := 774) dX12_init_33 fl_12_20 (by decide) rfl rfl rfl).mpr ⟨g7, ?_⟩
  refine (zq_aload_n dX12_init_36 rfl).mpr ?_
  refine (zq_sipush dX12_init_37 (by decide)).mpr ?_
  refine (zq_newarray (kd := 20) dX12_init_40 rfl (by decide)).mpr ⟨by decide, ?_⟩
  obtain ⟨g9, h⟩ := h
  refine (zq_putR (f := 775) dX12_init_42 fl_12_23 (by decide) rfl rfl rfl).mpr ⟨g9, ?_⟩
  refine (zq_aload_n dX12_init_45 rfl).mpr ?_
  refine (zq_bipush dX12_init_46 (by decide)).mpr ?_
  refine (zq_newarray (kd := 20) dX12_init_48 rfl (by decide)).mpr ⟨by decide, ?_⟩
  obtain ⟨g11, h⟩ := h
  refine (zq_putR (f := 777) dX12_init_50 fl_12_26 (by decide) rfl rfl rfl).mpr ⟨g11, ?_⟩
  refine (zq_aload_n dX12_init_53 rfl).mpr ?_
  refine (zq_sipush dX12_init_54 (by decide)).mpr ?_
  refine (zq_newarray (kd := 20) dX12_init_57 rfl (by decide)).mpr ⟨by decide, ?_⟩
  obtain ⟨g13, h⟩ := h
  refine (zq_putR (f := 778) dX12_init_59 fl_12_29 (by decide) rfl rfl rfl).mpr ⟨g13, ?_⟩
  refine (zq_aload_n dX12_init_62 rfl).mpr ?_
  refine (zq_sipush dX12_init_63 (by decide)).mpr ?_
  refine (zq_newarray (kd := 20) dX12_init_66 rfl (by decide)).mpr ⟨by decide, ?_⟩
  obtain ⟨g15, h⟩ := h
  refine (zq_putR (f := 780) dX12_init_68 fl_12_32 (by decide) rfl rfl rfl).mpr ⟨g15, ?_⟩
  refine (zq_aload_n dX12_init_71 rfl).mpr ?_
  refine (zq_new dX12_init_72 nw_12_35 rfl).mpr ?_
  refine (zq_dupR dX12_init_75).mpr ?_
  obtain ⟨g18, h⟩ := h
  refine zq_special2 (n := 0) dX12_init_76 mr_12_37 zn_129 rfl rfl g18 (Nat.le_of_ble_eq_true rfl) ?_
  refine h.mono (fun r m16 h => ?_)
  obtain ⟨rfl, h⟩ := h
  refine ⟨rfl, ?_⟩
  obtain ⟨g19, h⟩ := h
  refine (zq_putR (f := 784) dX12_init_79 fl_12_38 (by decide) rfl rfl rfl).mpr ⟨g19, ?_⟩
  refine (zq_aload_n dX12_init_82 rfl).mpr ?_
  refine (zq_new dX12_init_83 nw_12_35 rfl).mpr ?_
  refine (zq_dupR dX12_init_86).mpr ?_
  obtain ⟨g22, h⟩ := h
  refine zq_special2 (n := 0) dX12_init_87 mr_12_37 zn_129 rfl rfl g22 (Nat.le_of_ble_eq_true rfl) ?_
  refine h.mono (fun r m20 h => ?_)
  obtain ⟨rfl, h⟩ := h
  refine ⟨rfl, ?_⟩
  obtain ⟨g23, h⟩ := h
  refine (zq_putR (f := 785) dX12_init_90 fl_12_42 (by decide) rfl rfl rfl).mpr ⟨g23, ?_⟩
  exact (zq_ret dX12_init_93 rfl).mpr h
theorem bX12_thrown_0 {a0 : Nat} (h : (mC m a0 = 13) ∧ Q (.inl (some (zI (mI m 768 a0)))) m) : zC xs xl (d + 1) 161 [zR a0] m Q := by
  refine zk_161 ?_
  refine (zq_aload_n dX12_thrown_0 rfl).mpr ?_
  obtain ⟨g1, h⟩ := h
  refine (zq_getI2 (f := 768) (v := (mI m 768 a0)) dX12_thrown_1 fl_12_45 (by decide) rfl rfl (by first | rfl | simp only [zm_Is, zm_Rs, zm_As, zm_Os, zm_In0, zm_Rn0])).mpr ⟨g1, ?_⟩
  exact (zq_iret dX12_thrown_4 rfl).mpr ⟨trivial, h⟩
theorem bX12_no_0 {a0 : Nat} {a1 : Int} (h : (mC m a0 = 13) ∧ Q (.inl (some (zI 0))) (sI m 768 a0 a1)) : zC xs xl (d + 1) 162 [zR a0, zI a1] m Q := by
  refine zk_162 ?_
  refine (zq_aload_n dX12_no_0 rfl).mpr ?_
  refine (zq_iload_n dX12_no_1 rfl).mpr ?_
  obtain ⟨g1, h⟩ := h
  refine (zq_putI (f := 768) dX12_no_2 fl_12_45 (by decide) rfl rfl rfl).mpr ⟨g1, ?_⟩
  refine (zq_iconst dX12_no_5 (by decide)).mpr ?_
  exact (zq_iret dX12_no_6 rfl).mpr ⟨trivial, h⟩
theorem bX12_isIn_0 {a0 : Int} {a1 : Int} {a2 : Int} (h : ((a0 < a1 → Q (.inl (some (zI 0))) m) ∧ (¬ (a0 < a1) → ((a2 < a0 → Q (.inl (some (zI 0))) m) ∧ (¬ (a2 < a0) → Q (.inl (some (zI 1))) m))))) : zC xs xl (d + 1) 163 [zI a0, zI a1, zI a2] m Q := by
  refine zk_163 ?_
  refine (zq_iload_n dX12_isIn_0 rfl).mpr ?_
  refine (zq_iload_n dX12_isIn_1 rfl).mpr ?_
  refine (zq_icmp_lt (t := 14) dX12_isIn_2 rfl).mpr ⟨fun c => ?_, fun c => ?_⟩
  · replace h := h.1 c
    refine (zq_iconst dX12_isIn_14 (by decide)).mpr ?_
    exact (zq_iret dX12_isIn_15 rfl).mpr ⟨by decide, h⟩
  · replace h := h.2 c
    refine (zq_iload_n dX12_isIn_5 rfl).mpr ?_
    refine (zq_iload_n dX12_isIn_6 rfl).mpr ?_
    refine (zq_icmp_gt (t := 14) dX12_isIn_7 rfl).mpr ⟨fun c => ?_, fun c => ?_⟩
    · replace h := h.1 c
      refine (zq_iconst dX12_isIn_14 (by decide)).mpr ?_
      exact (zq_iret dX12_isIn_15 rfl).mpr ⟨by decide, h⟩
    · replace h := h.2 c
      refine (zq_iconst dX12_isIn_10 (by decide)).mpr ?_
      refine (zq_goto (t := 15) dX12_isIn_11 rfl).mpr ?_
      exact (zq_iret dX12_isIn_15 rfl).mpr ⟨by decide, h⟩
theorem bX12_feed_0 {a0 : Nat} {a1 : Int} {a2 : Int} {a3 : Int} {a4 : Int} {a5 : Int} (h : (mC m a0 = 13) ∧ (((wr ((mI m 770 a0) + 20)) ≤ 1000 → (0 < mN (nwA (sI m 768 a0 0) 20 5) (mz m)) ∧ (mC (nwA (sI m 768 a0 0) 20 5) (mz m) = 20) ∧ (1 < mN (nwA (sI m 768 a0 0) 20 5) (mz m)) ∧ (2 < mN (nwA (sI m 768 a0 0) 20 5) (mz m)) ∧ (3 < mN (nwA (sI m 768 a0 0) 20 5) (mz m)) ∧ (4 < mN (nwA (sI m 768 a0 0) 20 5) (mz m)) ∧ (20 ≤ mC (nwA (sI m 768 a0 0) 20 5) (mz m) ∧ mC (nwA (sI m 768 a0 0) 20 5) (mz m) < 43) ∧ zW xs xl d cX12_feed 12 (some .int) false [] 63 [zR a0, zI a1, zI a2, zI a3, zI a4, zI a5, zR (mz m), zR (mz m), zI (wr (mN (nwA (sI m 768 a0 0) 20 5) (mz m))), zI 0, zU, zU] [] (sA (sA (sA (sA (sA (nwA (sI m 768 a0 0) 20 5) (mz m) 0 a1) (mz m) 1 a2) (mz m) 2 a3) (mz m) 3 a4) (mz m) 4 a5) Q) ∧ (¬ ((wr ((mI m 770 a0) + 20)) ≤ 1000) → zC xs xl d 162 [zR a0, zI 1] (sI m 768 a0 0) (fun r m10 => ∃ v11 : Int, r = .inl (some (zI v11)) ∧ Q (.inl (some (zI v11))) m10)))) : zC xs xl (d + 1) 164 [zR a0, zI a1, zI a2, zI a3, zI a4, zI a5] m Q := by
  refine zk_164 ?_
  refine (zq_aload_n dX12_feed_0 rfl).mpr ?_
  refine (zq_iconst dX12_feed_1 (by decide)).mpr ?_
  obtain ⟨g1, h⟩ := h
  refine (zq_putI (f := 768) dX12_feed_2 fl_12_45 (by decide) rfl rfl rfl).mpr ⟨g1, ?_⟩
  refine (zq_aload_n dX12_feed_5 rfl).mpr ?_
  refine (zq_getI2 (f := 770) (v := (mI m 770 a0)) dX12_feed_6 fl_12_48 (by decide) rfl rfl (by first | rfl | simp only [zm_Is, zm_Rs, zm_As, zm_Os, zm_In0, zm_Rn0])).mpr ⟨g1, ?_⟩
  refine (zq_bipush dX12_feed_9 (by decide)).mpr ?_
  refine (zq_iadd dX12_feed_11).mpr ?_
  refine (zq_sipush dX12_feed_12 (by decide)).mpr ?_
  refine (zq_icmp_le (t := 24) dX12_feed_15 rfl).mpr ⟨fun c => ?_, fun c => ?_⟩
  · replace h := h.1 c
    refine (zq_iconst dX12_feed_24 (by decide)).mpr ?_
    refine (zq_newarray (kd := 20) dX12_feed_25 rfl (by decide)).mpr ⟨by decide, ?_⟩
    refine (zq_dupR dX12_feed_27).mpr ?_
    refine (zq_iconst dX12_feed_28 (by decide)).mpr ?_
    refine (zq_iload_n dX12_feed_29 rfl).mpr ?_
    obtain ⟨g3, h⟩ := h
    obtain ⟨g4, h⟩ := h
    refine (zq_iast dX12_feed_30).mpr ⟨⟨g4, ⟨by decide, g3⟩⟩, ?_⟩
    refine (zq_dupR dX12_feed_31).mpr ?_
    refine (zq_iconst dX12_feed_32 (by decide)).mpr ?_
    refine (zq_iload_n dX12_feed_33 rfl).mpr ?_
    obtain ⟨g5, h⟩ := h
    refine (zq_iast dX12_feed_34).mpr ⟨⟨g4, ⟨by decide, g5⟩⟩, ?_⟩
    refine (zq_dupR dX12_feed_35).mpr ?_
    refine (zq_iconst dX12_feed_36 (by decide)).mpr ?_
    refine (zq_iload_n dX12_feed_37 rfl).mpr ?_
    obtain ⟨g6, h⟩ := h
    refine (zq_iast dX12_feed_38).mpr ⟨⟨g4, ⟨by decide, g6⟩⟩, ?_⟩
    refine (zq_dupR dX12_feed_39).mpr ?_
    refine (zq_iconst dX12_feed_40 (by decide)).mpr ?_
    refine (zq_iload dX12_feed_41 rfl).mpr ?_
    obtain ⟨g7, h⟩ := h
    refine (zq_iast dX12_feed_43).mpr ⟨⟨g4, ⟨by decide, g7⟩⟩, ?_⟩
    refine (zq_dupR dX12_feed_44).mpr ?_
    refine (zq_iconst dX12_feed_45 (by decide)).mpr ?_
    refine (zq_iload dX12_feed_46 rfl).mpr ?_
    obtain ⟨g8, h⟩ := h
    refine (zq_iast dX12_feed_48).mpr ⟨⟨g4, ⟨by decide, g8⟩⟩, ?_⟩
    refine (zq_astore dX12_feed_49 (by simp) rfl).mpr ?_
    refine (zq_aload dX12_feed_51 rfl).mpr ?_
    refine (zq_astore dX12_feed_53 (by simp) rfl).mpr ?_
    refine (zq_aload dX12_feed_55 rfl).mpr ?_
    obtain ⟨g9, h⟩ := h
    refine (zq_alen dX12_feed_57).mpr ⟨g9, ?_⟩
    refine (zq_istore dX12_feed_58 (by simp) rfl).mpr ?_
    refine (zq_iconst dX12_feed_60 (by decide)).mpr ?_
    refine (zq_istore dX12_feed_61 (by simp) rfl).mpr ?_
    exact h
  · replace h := h.2 c
    refine (zq_aload_n dX12_feed_18 rfl).mpr ?_
    refine (zq_iconst dX12_feed_19 (by decide)).mpr ?_
    refine zq_virtualI (n := 1) dX12_feed_20 mr_12_51 zn_162 rfl rfl rfl (zrcv_R zo_162 (by decide) g1) (Nat.le_of_ble_eq_true rfl) ?_
    refine h.mono (fun r m10 h => ?_)
    obtain ⟨v11, rfl, h⟩ := h
    refine ⟨_, rfl, ?_⟩
    exact (zq_iret dX12_feed_23 rfl).mpr ⟨trivial, h⟩
theorem bX12_feed_63 {a0 : Nat} {a1 : Int} {a2 : Int} {a3 : Int} {a4 : Int} {a5 : Int} {a6 : Nat} {a7 : Nat} {a8 : Int} {a9 : Int} {a10 : zV} {a11 : zV} (h : ((a8 ≤ a9 → (mC m a0 = 13) ∧ Q (.inl (some (zI (mI m 770 a0)))) m) ∧ (¬ (a8 ≤ a9) → (mC m a7 = 20) ∧ (0 ≤ a9 ∧ a9 < mN m a7) ∧ zW xs xl d cX12_feed 12 (some .int) false [] 80 [zR a0, zI a1, zI a2, zI a3, zI a4, zI a5, zR a6, zR a7, zI a8, zI a9, zI (mA m a7 (Int.toNat a9)), zI 3] [] m Q))) : zW xs xl d cX12_feed 12 (some .int) false [] 63 [zR a0, zI a1, zI a2, zI a3, zI a4, zI a5, zR a6, zR a7, zI a8, zI a9, a10, a11] [] m Q := by
  refine (zq_iload dX12_feed_63 rfl).mpr ?_
  refine (zq_iload dX12_feed_65 rfl).mpr ?_
  refine (zq_icmp_ge (t := 128) dX12_feed_67 rfl).mpr ⟨fun c => ?_, fun c => ?_⟩
  · replace h := h.1 c
    refine (zq_aload_n dX12_feed_128 rfl).mpr ?_
    obtain ⟨g1, h⟩ := h
    refine (zq_getI2 (f := 770) (v := (mI m 770 a0)) dX12_feed_129 fl_12_48 (by decide) rfl rfl (by first | rfl | simp only [zm_Is, zm_Rs, zm_As, zm_Os, zm_In0, zm_Rn0])).mpr ⟨g1, ?_⟩
    exact (zq_iret dX12_feed_132 rfl).mpr ⟨trivial, h⟩
  · replace h := h.2 c
    refine (zq_aload dX12_feed_70 rfl).mpr ?_
    refine (zq_iload dX12_feed_72 rfl).mpr ?_
    obtain ⟨g2, h⟩ := h
    obtain ⟨g3, h⟩ := h
    refine (zq_iald2 (v := (mA m a7 (Int.toNat a9))) dX12_feed_74 (by first | rfl | simp only [zm_Is, zm_Rs, zm_As, zm_Os, zm_In0, zm_Rn0])).mpr ⟨⟨g2, g3⟩, ?_⟩
    refine (zq_istore dX12_feed_75 (by simp) rfl).mpr ?_
    refine (zq_iconst dX12_feed_77 (by decide)).mpr ?_
    refine (zq_istore dX12_feed_78 (by simp) rfl).mpr ?_
    exact h
theorem bX12_feed_80 {a0 : Nat} {a1 : Int} {a2 : Int} {a3 : Int} {a4 : Int} {a5 : Int} {a6 : Nat} {a7 : Nat} {a8 : Int} {a9 : Int} {a10 : Int} {a11 : Int} (h : ((a11 < 0 → zW xs xl d cX12_feed 12 (some .int) false [] 63 [zR a0, zI a1, zI a2, zI a3, zI a4, zI a5, zR a6, zR a7, zI a8, zI (wr (a9 + 1)), zI a10, zI a11] [] m Q) ∧ (¬ (a11 < 0) → (mC m a0 = 13) ∧ (0 ≤ (mI m 770 a0) ∧ (mI m 770 a0) < mN m (mR m 769 a0)) ∧ (mC m (mR m 769 a0) = 20) ∧ zW xs xl d cX12_feed 12 (some .int) false [] 80 [zR a0, zI a1, zI a2, zI a3, zI a4, zI a5, zR a6, zR a7, zI a8, zI a9, zI a10, zI (wr (a11 + (-1)))] [] (sI (sA m (mR m 769 a0) (Int.toNat (mI m 770 a0)) (bAnd (bShr a10 (wr (8 * a11))) 255)) 770 a0 (wr ((mI m 770 a0) + 1))) Q))) : zW xs xl d cX12_feed 12 (some .int) false [] 80 [zR a0, zI a1, zI a2, zI a3, zI a4, zI a5, zR a6, zR a7, zI a8, zI a9, zI a10, zI a11] [] m Q := by
  refine (zq_iload dX12_feed_80 rfl).mpr ?_
  refine (zq_if_lt (t := 122) dX12_feed_82 rfl).mpr ⟨fun c => ?_, fun c => ?_⟩
  · replace h := h.1 c
    refine (zq_iinc dX12_feed_122 rfl rfl).mpr ?_
    refine (zq_goto (t := 63) dX12_feed_125 rfl).mpr ?_
    exact h
  · replace h := h.2 c
    refine (zq_aload_n dX12_feed_85 rfl).mpr ?_
    obtain ⟨g1, h⟩ := h
    refine (zq_getR2 (f := 769) (v := (mR m 769 a0)) dX12_feed_86 fl_12_9 (by decide) rfl rfl (by first | rfl | simp only [zm_Is, zm_Rs, zm_As, zm_Os, zm_In0, zm_Rn0])).mpr ⟨g1, ?_⟩
    refine (zq_aload_n dX12_feed_89 rfl).mpr ?_
    refine (zq_getI2 (f := 770) (v := (mI m 770 a0)) dX12_feed_90 fl_12_48 (by decide) rfl rfl (by first | rfl | simp only [zm_Is, zm_Rs, zm_As, zm_Os, zm_In0, zm_Rn0])).mpr ⟨g1, ?_⟩
    refine (zq_iload dX12_feed_93 rfl).mpr ?_
    refine (zq_bipush dX12_feed_95 (by decide)).mpr ?_
    refine (zq_iload dX12_feed_97 rfl).mpr ?_
    refine (zq_imul dX12_feed_99).mpr ?_
    refine (zq_ishr dX12_feed_100).mpr ?_
    refine (zq_sipush dX12_feed_101 (by decide)).mpr ?_
    refine (zq_iand dX12_feed_104).mpr ?_
    obtain ⟨g2, h⟩ := h
    obtain ⟨g3, h⟩ := h
    refine (zq_iast dX12_feed_105).mpr ⟨⟨g3, g2⟩, ?_⟩
    refine (zq_aload_n dX12_feed_106 rfl).mpr ?_
    refine (zq_dupR dX12_feed_107).mpr ?_
    refine (zq_getI2 (f := 770) (v := (mI m 770 a0)) dX12_feed_108 fl_12_48 (by decide) rfl rfl (by first | rfl | simp only [zm_Is, zm_Rs, zm_As, zm_Os, zm_In0, zm_Rn0])).mpr ⟨g1, ?_⟩
    refine (zq_iconst dX12_feed_111 (by decide)).mpr ?_
    refine (zq_iadd dX12_feed_112).mpr ?_
    refine (zq_putI (f := 770) dX12_feed_113 fl_12_48 (by decide) rfl rfl rfl).mpr ⟨g1, ?_⟩
    refine (zq_iinc dX12_feed_116 rfl rfl).mpr ?_
    refine (zq_goto (t := 80) dX12_feed_119 rfl).mpr ?_
    exact h
theorem bX12_trim_0 {a0 : Nat} {a1 : Int} (h : (mC m a0 = 13) ∧ zC xs xl d 163 [zI a1, zI 0, zI (mI m 770 a0)] (sI m 768 a0 0) (fun r m2 => ∃ v3 : Int, r = .inl (some (zI v3)) ∧ ((v3 ≠ 0 → (mC m2 a0 = 13) ∧ Q (.inl (some (zI a1))) (sI m2 770 a0 a1)) ∧ (¬ (v3 ≠ 0) → (mC m2 a0 = 13) ∧ zC xs xl d 162 [zR a0, zI 1] m2 (fun r m5 => ∃ v6 : Int, r = .inl (some (zI v6)) ∧ Q (.inl (some (zI v6))) m5))))) : zC xs xl (d + 1) 165 [zR a0, zI a1] m Q := by
  refine zk_165 ?_
  refine (zq_aload_n dX12_trim_0 rfl).mpr ?_
  refine (zq_iconst dX12_trim_1 (by decide)).mpr ?_
  obtain ⟨g1, h⟩ := h
  refine (zq_putI (f := 768) dX12_trim_2 fl_12_45 (by decide) rfl rfl rfl).mpr ⟨g1, ?_⟩
  refine (zq_iload_n dX12_trim_5 rfl).mpr ?_
  refine (zq_iconst dX12_trim_6 (by decide)).mpr ?_
  refine (zq_aload_n dX12_trim_7 rfl).mpr ?_
  refine (zq_getI2 (f := 770) (v := (mI m 770 a0)) dX12_trim_8 fl_12_48 (by decide) rfl rfl (by first | rfl | simp only [zm_Is, zm_Rs, zm_As, zm_Os, zm_In0, zm_Rn0])).mpr ⟨g1, ?_⟩
  refine zq_staticI (n := 3) dX12_trim_11 mr_12_55 zn_163 rfl rfl (Nat.le_of_ble_eq_true rfl) (Nat.le_of_ble_eq_true rfl) ?_
  refine h.mono (fun r m2 h => ?_)
  obtain ⟨v3, rfl, h⟩ := h
  refine ⟨_, rfl, ?_⟩
  refine (zq_if_ne (t := 23) dX12_trim_14 rfl).mpr ⟨fun c => ?_, fun c => ?_⟩
  · replace h := h.1 c
    refine (zq_aload_n dX12_trim_23 rfl).mpr ?_
    refine (zq_iload_n dX12_trim_24 rfl).mpr ?_
    obtain ⟨g4, h⟩ := h
    refine (zq_putI (f := 770) dX12_trim_25 fl_12_48 (by decide) rfl rfl rfl).mpr ⟨g4, ?_⟩
    refine (zq_iload_n dX12_trim_28 rfl).mpr ?_
    exact (zq_iret dX12_trim_29 rfl).mpr ⟨trivial, h⟩
  · replace h := h.2 c
    refine (zq_aload_n dX12_trim_17 rfl).mpr ?_
    refine (zq_iconst dX12_trim_18 (by decide)).mpr ?_
    obtain ⟨g7, h⟩ := h
    refine zq_virtualI (n := 1) dX12_trim_19 mr_12_51 zn_162 rfl rfl rfl (zrcv_R zo_162 (by decide) g7) (Nat.le_of_ble_eq_true rfl) ?_
    refine h.mono (fun r m5 h => ?_)
    obtain ⟨v6, rfl, h⟩ := h
    refine ⟨_, rfl, ?_⟩
    exact (zq_iret dX12_trim_22 rfl).mpr ⟨trivial, h⟩
theorem bX12_tapeAt_0 {a0 : Nat} {a1 : Int} (h : (mC m a0 = 13) ∧ (((mI m 770 a0) ≤ a1 → Q (.inl (some (zI (-1)))) m) ∧ (¬ ((mI m 770 a0) ≤ a1) → (mC m (mR m 769 a0) = 20) ∧ (0 ≤ a1 ∧ a1 < mN m (mR m 769 a0)) ∧ Q (.inl (some (zI (mA m (mR m 769 a0) (Int.toNat a1))))) m))) : zC xs xl (d + 1) 166 [zR a0, zI a1] m Q := by
  refine zk_166 ?_
  refine (zq_iload_n dX12_tapeAt_0 rfl).mpr ?_
  refine (zq_aload_n dX12_tapeAt_1 rfl).mpr ?_
  obtain ⟨g1, h⟩ := h
  refine (zq_getI2 (f := 770) (v := (mI m 770 a0)) dX12_tapeAt_2 fl_12_48 (by decide) rfl rfl (by first | rfl | simp only [zm_Is, zm_Rs, zm_As, zm_Os, zm_In0, zm_Rn0])).mpr ⟨g1, ?_⟩
  refine (zq_icmp_ge (t := 17) dX12_tapeAt_5 rfl).mpr ⟨fun c => ?_, fun c => ?_⟩
  · replace h := h.1 c
    refine (zq_iconst dX12_tapeAt_17 (by decide)).mpr ?_
    exact (zq_iret dX12_tapeAt_18 rfl).mpr ⟨trivial, h⟩
  · replace h := h.2 c
    refine (zq_aload_n dX12_tapeAt_8 rfl).mpr ?_
    refine (zq_getR2 (f := 769) (v := (mR m 769 a0)) dX12_tapeAt_9 fl_12_9 (by decide) rfl rfl (by first | rfl | simp only [zm_Is, zm_Rs, zm_As, zm_Os, zm_In0, zm_Rn0])).mpr ⟨g1, ?_⟩
    refine (zq_iload_n dX12_tapeAt_12 rfl).mpr ?_
    obtain ⟨g2, h⟩ := h
    obtain ⟨g3, h⟩ := h
    refine (zq_iald2 (v := (mA m (mR m 769 a0) (Int.toNat a1))) dX12_tapeAt_13 (by first | rfl | simp only [zm_Is, zm_Rs, zm_As, zm_Os, zm_In0, zm_Rn0])).mpr ⟨⟨g2, g3⟩, ?_⟩
    refine (zq_goto (t := 18) dX12_tapeAt_14 rfl).mpr ?_
    exact (zq_iret dX12_tapeAt_18 rfl).mpr ⟨trivial, h⟩
theorem bX12_isLetter_0 {a0 : Nat} {a1 : Int} (h : (mC m a0 = 13) ∧ zC xs xl d 166 [zR a0, zI a1] m (fun r m1 => ∃ v2 : Int, r = .inl (some (zI v2)) ∧ zC xs xl d 163 [zI v2, zI 97, zI 122] m1 (fun r m4 => ∃ v5 : Int, r = .inl (some (zI v5)) ∧ (v5 = 0 ∨ v5 = 1) ∧ Q (.inl (some (zI v5))) m4))) : zC xs xl (d + 1) 167 [zR a0, zI a1] m Q := by
  refine zk_167 ?_
  refine (zq_aload_n dX12_isLetter_0 rfl).mpr ?_
  refine (zq_iload_n dX12_isLetter_1 rfl).mpr ?_
  obtain ⟨g3, h⟩ := h
  refine zq_virtualI (n := 1) dX12_isLetter_2 mr_12_59 zn_166 rfl rfl rfl (zrcv_R zo_166 (by decide) g3) (Nat.le_of_ble_eq_true rfl) ?_
  refine h.mono (fun r m1 h => ?_)
  obtain ⟨v2, rfl, h⟩ := h
  refine ⟨_, rfl, ?_⟩
  refine (zq_bipush dX12_isLetter_5 (by decide)).mpr ?_
  refine (zq_bipush dX12_isLetter_7 (by decide)).mpr ?_
  refine zq_staticI (n := 3) dX12_isLetter_9 mr_12_55 zn_163 rfl rfl (Nat.le_of_ble_eq_true rfl) (Nat.le_of_ble_eq_true rfl) ?_
  refine h.mono (fun r m4 h => ?_)
  obtain ⟨v5, rfl, h⟩ := h
  refine ⟨_, rfl, ?_⟩
  obtain ⟨g6, h⟩ := h
  exact (zq_iret dX12_isLetter_12 rfl).mpr ⟨g6, h⟩
theorem bX12_isDigit_0 {a0 : Nat} {a1 : Int} (h : (mC m a0 = 13) ∧ zC xs xl d 166 [zR a0, zI a1] m (fun r m1 => ∃ v2 : Int, r = .inl (some (zI v2)) ∧ zC xs xl d 163 [zI v2, zI 48, zI 57] m1 (fun r m4 => ∃ v5 : Int, r = .inl (some (zI v5)) ∧ (v5 = 0 ∨ v5 = 1) ∧ Q (.inl (some (zI v5))) m4))) : zC xs xl (d + 1) 168 [zR a0, zI a1] m Q := by
  refine zk_168 ?_
  refine (zq_aload_n dX12_isDigit_0 rfl).mpr ?_
  refine (zq_iload_n dX12_isDigit_1 rfl).mpr ?_
  obtain ⟨g3, h⟩ := h
  refine zq_virtualI (n := 1) dX12_isDigit_2 mr_12_59 zn_166 rfl rfl rfl (zrcv_R zo_166 (by decide) g3) (Nat.le_of_ble_eq_true rfl) ?_
  refine h.mono (fun r m1 h => ?_)
  obtain ⟨v2, rfl, h⟩ := h
  refine ⟨_, rfl, ?_⟩
  refine (zq_bipush dX12_isDigit_5 (by decide)).mpr ?_
  refine (zq_bipush dX12_isDigit_7 (by decide)).mpr ?_
  refine zq_staticI (n := 3) dX12_isDigit_9 mr_12_55 zn_163 rfl rfl (Nat.le_of_ble_eq_true rfl) (Nat.le_of_ble_eq_true rfl) ?_
  refine h.mono (fun r m4 h => ?_)
  obtain ⟨v5, rfl, h⟩ := h
  refine ⟨_, rfl, ?_⟩
  obtain ⟨g6, h⟩ := h
  exact (zq_iret dX12_isDigit_12 rfl).mpr ⟨g6, h⟩
theorem bX12_scan_0 {a0 : Nat} (h : zW xs xl d cX12_scan 12 (none) false [] 6 [zR a0, zI 0, zI 0, zI 1, zU, zU] [] m Q) : zC xs xl (d + 1) 169 [zR a0] m Q := by
  refine zk_169 ?_
  refine (zq_iconst dX12_scan_0 (by decide)).mpr ?_
  refine (zq_istore_n dX12_scan_1 (by simp) rfl).mpr ?_
  refine (zq_iconst dX12_scan_2 (by decide)).mpr ?_
  refine (zq_istore_n dX12_scan_3 (by simp) rfl).mpr ?_
  refine (zq_iconst dX12_scan_4 (by decide)).mpr ?_
  refine (zq_istore_n dX12_scan_5 (by simp) rfl).mpr ?_
  exact h
theorem bX12_scan_6 {a0 : Nat} {a1 : Int} {a2 : Int} {a3 : Int} {a4 : zV} {a5 : zV} (h : ((a3 = 0 → Q (.inl none) m) ∧ (¬ (a3 = 0) → zW xs xl d cX12_scan 12 (none) false [] 10 [zR a0, zI a1, zI a2, zI a3, a4, a5] [] m Q))) : zW xs xl d cX12_scan 12 (none) false [] 6 [zR a0, zI a1, zI a2, zI a3, a4, a5] [] m Q := by
  refine (zq_iload_n dX12_scan_6 rfl).mpr ?_
  refine (zq_if_eq (t := 219) dX12_scan_7 rfl).mpr ⟨fun c => ?_, fun c => ?_⟩
  · replace h := h.1 c
    exact (zq_ret dX12_scan_219 rfl).mpr h
  · replace h := h.2 c
    exact h
theorem bX12_scan_10 {a0 : Nat} {a1 : Int} {a2 : Int} {a3 : Int} {a4 : zV} {a5 : zV} (h : (mC m a0 = 13) ∧ zC xs xl d 166 [zR a0, zI a2] m (fun r m1 => ∃ v2 : Int, r = .inl (some (zI v2)) ∧ ((v2 = 32 → zW xs xl d cX12_scan 12 (none) false [] 10 [zR a0, zI a1, zI (wr (a2 + 1)), zI a3, a4, a5] [] m1 Q) ∧ (¬ (v2 = 32) → (mC m1 a0 = 13) ∧ zC xs xl d 166 [zR a0, zI a2] m1 (fun r m4 => ∃ v5 : Int, r = .inl (some (zI v5)) ∧ ((v5 ≠ 10 → (mC m4 a0 = 13) ∧ zC xs xl d 167 [zR a0, zI a2] m4 (fun r m7 => ∃ v8 : Int, r = .inl (some (zI v8)) ∧ ((v8 = 0 → (mC m7 a0 = 13) ∧ zC xs xl d 168 [zR a0, zI a2] m7 (fun r m10 => ∃ v11 : Int, r = .inl (some (zI v11)) ∧ ((v11 = 0 → (mC m10 a0 = 13) ∧ (((mI m10 770 a0) ≤ a2 → zW xs xl d cX12_scan 12 (none) false [] 176 [zR a0, zI a1, zI a2, zI a3, zI a2, zI 0] [] m10 Q) ∧ (¬ ((mI m10 770 a0) ≤ a2) → (mC m10 (mR m10 769 a0) = 20) ∧ (0 ≤ a2 ∧ a2 < mN m10 (mR m10 769 a0)) ∧ (((mA m10 (mR m10 769 a0) (Int.toNat a2)) = 59 → zW xs xl d cX12_scan 12 (none) false [] 176 [zR a0, zI a1, zI a2, zI a3, zI (wr (a2 + 1)), zI 3] [] m10 Q) ∧ (¬ ((mA m10 (mR m10 769 a0) (Int.toNat a2)) = 59) → (((mA m10 (mR m10 769 a0) (Int.toNat a2)) = 123 → zW xs xl d cX12_scan 12 (none) false [] 176 [zR a0, zI a1, zI a2, zI a3, zI (wr (a2 + 1)), zI 3] [] m10 Q) ∧ (¬ ((mA m10 (mR m10 769 a0) (Int.toNat a2)) = 123) → (((mA m10 (mR m10 769 a0) (Int.toNat a2)) ≠ 125 → zW xs xl d cX12_scan 12 (none) false [] 176 [zR a0, zI a1, zI a2, zI a3, zI (wr (a2 + 1)), zI 4] [] m10 Q) ∧ (¬ ((mA m10 (mR m10 769 a0) (Int.toNat a2)) ≠ 125) → zW xs xl d cX12_scan 12 (none) false [] 176 [zR a0, zI a1, zI a2, zI a3, zI (wr (a2 + 1)), zI 3] [] m10 Q))))))))) ∧ (¬ (v11 = 0) → zW xs xl d cX12_scan 12 (none) false [] 92 [zR a0, zI a1, zI a2, zI a3, zI a2, zI 0] [] m10 Q)))) ∧ (¬ (v8 = 0) → zW xs xl d cX12_scan 12 (none) false [] 50 [zR a0, zI a1, zI a2, zI a3, zI a2, zI 0] [] m7 Q)))) ∧ (¬ (v5 ≠ 10) → zW xs xl d cX12_scan 12 (none) false [] 10 [zR a0, zI a1, zI (wr (a2 + 1)), zI a3, a4, a5] [] m4 Q))))))) : zW xs xl d cX12_scan 12 (none) false [] 10 [zR a0, zI a1, zI a2, zI a3, a4, a5] [] m Q := by
  refine (zq_aload_n dX12_scan_10 rfl).mpr ?_
  refine (zq_iload_n dX12_scan_11 rfl).mpr ?_
  obtain ⟨g3, h⟩ := h
  refine zq_virtualI (n := 1) dX12_scan_12 mr_12_59 zn_166 rfl rfl rfl (zrcv_R zo_166 (by decide) g3) (Nat.le_of_ble_eq_true rfl) ?_
  refine h.mono (fun r m1 h => ?_)
  obtain ⟨v2, rfl, h⟩ := h
  refine ⟨_, rfl, ?_⟩
  refine (zq_bipush dX12_scan_15 (by decide)).mpr ?_
  refine (zq_icmp_eq (t := 30) dX12_scan_17 rfl).mpr ⟨fun c => ?_, fun c => ?_⟩
  · replace h := h.1 c
    refine (zq_iinc dX12_scan_30 rfl rfl).mpr ?_
    refine (zq_goto (t := 10) dX12_scan_33 rfl).mpr ?_
    exact h
  · replace h := h.2 c
    refine (zq_aload_n dX12_scan_20 rfl).mpr ?_
    refine (zq_iload_n dX12_scan_21 rfl).mpr ?_
    obtain ⟨g6, h⟩ := h
    refine zq_virtualI (n := 1) dX12_scan_22 mr_12_59 zn_166 rfl rfl rfl (zrcv_R zo_166 (by decide) g6) (Nat.le_of_ble_eq_true rfl) ?_
    refine h.mono (fun r m4 h => ?_)
    obtain ⟨v5, rfl, h⟩ := h
    refine ⟨_, rfl, ?_⟩
    refine (zq_bipush dX12_scan_25 (by decide)).mpr ?_
    refine (zq_icmp_ne (t := 36) dX12_scan_27 rfl).mpr ⟨fun c => ?_, fun c => ?_⟩
    · replace h := h.1 c
      refine (zq_iload_n dX12_scan_36 rfl).mpr ?_
      refine (zq_istore dX12_scan_37 (by simp) rfl).mpr ?_
      refine (zq_iconst dX12_scan_39 (by decide)).mpr ?_
      refine (zq_istore dX12_scan_40 (by simp) rfl).mpr ?_
      refine (zq_aload_n dX12_scan_42 rfl).mpr ?_
      refine (zq_iload_n dX12_scan_43 rfl).mpr ?_
      obtain ⟨g9, h⟩ := h
      refine zq_virtualI (n := 1) dX12_scan_44 mr_12_62 zn_167 rfl rfl rfl (zrcv_R zo_167 (by decide) g9) (Nat.le_of_ble_eq_true rfl) ?_
      refine h.mono (fun r m7 h => ?_)
      obtain ⟨v8, rfl, h⟩ := h
      refine ⟨_, rfl, ?_⟩
      refine (zq_if_eq (t := 84) dX12_scan_47 rfl).mpr ⟨fun c => ?_, fun c => ?_⟩
      · replace h := h.1 c
        refine (zq_aload_n dX12_scan_84 rfl).mpr ?_
        refine (zq_iload_n dX12_scan_85 rfl).mpr ?_
        obtain ⟨g12, h⟩ := h
        refine zq_virtualI (n := 1) dX12_scan_86 mr_12_66 zn_168 rfl rfl rfl (zrcv_R zo_168 (by decide) g12) (Nat.le_of_ble_eq_true rfl) ?_
        refine h.mono (fun r m10 h => ?_)
        obtain ⟨v11, rfl, h⟩ := h
        refine ⟨_, rfl, ?_⟩
        refine (zq_if_eq (t := 125) dX12_scan_89 rfl).mpr ⟨fun c => ?_, fun c => ?_⟩
        · replace h := h.1 c
          refine (zq_iload_n dX12_scan_125 rfl).mpr ?_
          refine (zq_aload_n dX12_scan_126 rfl).mpr ?_
          obtain ⟨g13, h⟩ := h
          refine (zq_getI2 (f := 770) (v := (mI m10 770 a0)) dX12_scan_127 fl_12_48 (by decide) rfl rfl (by first | rfl | simp only [zm_Is, zm_Rs, zm_As, zm_Os, zm_In0, zm_Rn0])).mpr ⟨g13, ?_⟩
          refine (zq_icmp_ge (t := 176) dX12_scan_130 rfl).mpr ⟨fun c => ?_, fun c => ?_⟩
          · replace h := h.1 c
            exact h
          · replace h := h.2 c
            refine (zq_iinc dX12_scan_133 rfl rfl).mpr ?_
            refine (zq_aload_n dX12_scan_136 rfl).mpr ?_
            refine (zq_getR2 (f := 769) (v := (mR m10 769 a0)) dX12_scan_137 fl_12_9 (by decide) rfl rfl (by first | rfl | simp only [zm_Is, zm_Rs, zm_As, zm_Os, zm_In0, zm_Rn0])).mpr ⟨g13, ?_⟩
            refine (zq_iload_n dX12_scan_140 rfl).mpr ?_
            obtain ⟨g14, h⟩ := h
            obtain ⟨g15, h⟩ := h
            refine (zq_iald2 (v := (mA m10 (mR m10 769 a0) (Int.toNat a2))) dX12_scan_141 (by first | rfl | simp only [zm_Is, zm_Rs, zm_As, zm_Os, zm_In0, zm_Rn0])).mpr ⟨⟨g14, g15⟩, ?_⟩
            refine (zq_bipush dX12_scan_142 (by decide)).mpr ?_
            refine (zq_icmp_eq (t := 169) dX12_scan_144 rfl).mpr ⟨fun c => ?_, fun c => ?_⟩
            · replace h := h.1 c
              refine (zq_iconst dX12_scan_169 (by decide)).mpr ?_
              refine (zq_goto (t := 174) dX12_scan_170 rfl).mpr ?_
              refine (zq_istore dX12_scan_174 (by simp) rfl).mpr ?_
              exact h
            · replace h := h.2 c
              refine (zq_aload_n dX12_scan_147 rfl).mpr ?_
              refine (zq_getR2 (f := 769) (v := (mR m10 769 a0)) dX12_scan_148 fl_12_9 (by decide) rfl rfl (by first | rfl | simp only [zm_Is, zm_Rs, zm_As, zm_Os, zm_In0, zm_Rn0])).mpr ⟨g13, ?_⟩
              refine (zq_iload_n dX12_scan_151 rfl).mpr ?_
              refine (zq_iald2 (v := (mA m10 (mR m10 769 a0) (Int.toNat a2))) dX12_scan_152 (by first | rfl | simp only [zm_Is, zm_Rs, zm_As, zm_Os, zm_In0, zm_Rn0])).mpr ⟨⟨g14, g15⟩, ?_⟩
              refine (zq_bipush dX12_scan_153 (by decide)).mpr ?_
              refine (zq_icmp_eq (t := 169) dX12_scan_155 rfl).mpr ⟨fun c => ?_, fun c => ?_⟩
              · replace h := h.1 c
                refine (zq_iconst dX12_scan_169 (by decide)).mpr ?_
                refine (zq_goto (t := 174) dX12_scan_170 rfl).mpr ?_
                refine (zq_istore dX12_scan_174 (by simp) rfl).mpr ?_
                exact h
              · replace h := h.2 c
                refine (zq_aload_n dX12_scan_158 rfl).mpr ?_
                refine (zq_getR2 (f := 769) (v := (mR m10 769 a0)) dX12_scan_159 fl_12_9 (by decide) rfl rfl (by first | rfl | simp only [zm_Is, zm_Rs, zm_As, zm_Os, zm_In0, zm_Rn0])).mpr ⟨g13, ?_⟩
                refine (zq_iload_n dX12_scan_162 rfl).mpr ?_
                refine (zq_iald2 (v := (mA m10 (mR m10 769 a0) (Int.toNat a2))) dX12_scan_163 (by first | rfl | simp only [zm_Is, zm_Rs, zm_As, zm_Os, zm_In0, zm_Rn0])).mpr ⟨⟨g14, g15⟩, ?_⟩
                refine (zq_bipush dX12_scan_164 (by decide)).mpr ?_
                refine (zq_icmp_ne (t := 173) dX12_scan_166 rfl).mpr ⟨fun c => ?_, fun c => ?_⟩
                · replace h := h.1 c
                  refine (zq_iconst dX12_scan_173 (by decide)).mpr ?_
                  refine (zq_istore dX12_scan_174 (by simp) rfl).mpr ?_
                  exact h
                · replace h := h.2 c
                  refine (zq_iconst dX12_scan_169 (by decide)).mpr ?_
                  refine (zq_goto (t := 174) dX12_scan_170 rfl).mpr ?_
                  refine (zq_istore dX12_scan_174 (by simp) rfl).mpr ?_
                  exact h
        · replace h := h.2 c
          exact h
      · replace h := h.2 c
        exact h
    · replace h := h.2 c
      refine (zq_iinc dX12_scan_30 rfl rfl).mpr ?_
      refine (zq_goto (t := 10) dX12_scan_33 rfl).mpr ?_
      exact h
theorem bX12_scan_50 {a0 : Nat} {a1 : Int} {a2 : Int} {a3 : Int} {a4 : Int} {a5 : Int} (h : (mC m a0 = 13) ∧ zC xs xl d 167 [zR a0, zI a4] m (fun r m1 => ∃ v2 : Int, r = .inl (some (zI v2)) ∧ ((v2 = 0 → ((8 < (wr (a4 - a2)) → zW xs xl d cX12_scan 12 (none) false [] 176 [zR a0, zI a1, zI a2, zI a3, zI a4, zI 4] [] m1 Q) ∧ (¬ (8 < (wr (a4 - a2))) → zW xs xl d cX12_scan 12 (none) false [] 176 [zR a0, zI a1, zI a2, zI a3, zI a4, zI 1] [] m1 Q))) ∧ (¬ (v2 = 0) → zW xs xl d cX12_scan 12 (none) false [] 50 [zR a0, zI a1, zI a2, zI a3, zI (wr (a4 + 1)), zI a5] [] m1 Q)))) : zW xs xl d cX12_scan 12 (none) false [] 50 [zR a0, zI a1, zI a2, zI a3, zI a4, zI a5] [] m Q := by
  refine (zq_aload_n dX12_scan_50 rfl).mpr ?_
  refine (zq_iload dX12_scan_51 rfl).mpr ?_
  obtain ⟨g3, h⟩ := h
  refine zq_virtualI (n := 1) dX12_scan_53 mr_12_62 zn_167 rfl rfl rfl (zrcv_R zo_167 (by decide) g3) (Nat.le_of_ble_eq_true rfl) ?_
  refine h.mono (fun r m1 h => ?_)
  obtain ⟨v2, rfl, h⟩ := h
  refine ⟨_, rfl, ?_⟩
  refine (zq_if_eq (t := 65) dX12_scan_56 rfl).mpr ⟨fun c => ?_, fun c => ?_⟩
  · replace h := h.1 c
    refine (zq_iload dX12_scan_65 rfl).mpr ?_
    refine (zq_iload_n dX12_scan_67 rfl).mpr ?_
    refine (zq_isub dX12_scan_68).mpr ?_
    refine (zq_bipush dX12_scan_69 (by decide)).mpr ?_
    refine (zq_icmp_gt (t := 78) dX12_scan_71 rfl).mpr ⟨fun c => ?_, fun c => ?_⟩
    · replace h := h.1 c
      refine (zq_iconst dX12_scan_78 (by decide)).mpr ?_
      refine (zq_istore dX12_scan_79 (by simp) rfl).mpr ?_
      refine (zq_goto (t := 176) dX12_scan_81 rfl).mpr ?_
      exact h
    · replace h := h.2 c
      refine (zq_iconst dX12_scan_74 (by decide)).mpr ?_
      refine (zq_goto (t := 79) dX12_scan_75 rfl).mpr ?_
      refine (zq_istore dX12_scan_79 (by simp) rfl).mpr ?_
      refine (zq_goto (t := 176) dX12_scan_81 rfl).mpr ?_
      exact h
  · replace h := h.2 c
    refine (zq_iinc dX12_scan_59 rfl rfl).mpr ?_
    refine (zq_goto (t := 50) dX12_scan_62 rfl).mpr ?_
    exact h
theorem bX12_scan_92 {a0 : Nat} {a1 : Int} {a2 : Int} {a3 : Int} {a4 : Int} {a5 : Int} (h : (mC m a0 = 13) ∧ zC xs xl d 168 [zR a0, zI a4] m (fun r m1 => ∃ v2 : Int, r = .inl (some (zI v2)) ∧ ((v2 = 0 → ((3 < (wr (a4 - a2)) → zW xs xl d cX12_scan 12 (none) false [] 176 [zR a0, zI a1, zI a2, zI a3, zI a4, zI 4] [] m1 Q) ∧ (¬ (3 < (wr (a4 - a2))) → zW xs xl d cX12_scan 12 (none) false [] 176 [zR a0, zI a1, zI a2, zI a3, zI a4, zI 2] [] m1 Q))) ∧ (¬ (v2 = 0) → zW xs xl d cX12_scan 12 (none) false [] 92 [zR a0, zI a1, zI a2, zI a3, zI (wr (a4 + 1)), zI a5] [] m1 Q)))) : zW xs xl d cX12_scan 12 (none) false [] 92 [zR a0, zI a1, zI a2, zI a3, zI a4, zI a5] [] m Q := by
  refine (zq_aload_n dX12_scan_92 rfl).mpr ?_
  refine (zq_iload dX12_scan_93 rfl).mpr ?_
  obtain ⟨g3, h⟩ := h
  refine zq_virtualI (n := 1) dX12_scan_95 mr_12_66 zn_168 rfl rfl rfl (zrcv_R zo_168 (by decide) g3) (Nat.le_of_ble_eq_true rfl) ?_
  refine h.mono (fun r m1 h => ?_)
  obtain ⟨v2, rfl, h⟩ := h
  refine ⟨_, rfl, ?_⟩
  refine (zq_if_eq (t := 107) dX12_scan_98 rfl).mpr ⟨fun c => ?_, fun c => ?_⟩
  · replace h := h.1 c
    refine (zq_iload dX12_scan_107 rfl).mpr ?_
    refine (zq_iload_n dX12_scan_109 rfl).mpr ?_
    refine (zq_isub dX12_scan_110).mpr ?_
    refine (zq_iconst dX12_scan_111 (by decide)).mpr ?_
    refine (zq_icmp_gt (t := 119) dX12_scan_112 rfl).mpr ⟨fun c => ?_, fun c => ?_⟩
    · replace h := h.1 c
      refine (zq_iconst dX12_scan_119 (by decide)).mpr ?_
      refine (zq_istore dX12_scan_120 (by simp) rfl).mpr ?_
      refine (zq_goto (t := 176) dX12_scan_122 rfl).mpr ?_
      exact h
    · replace h := h.2 c
      refine (zq_iconst dX12_scan_115 (by decide)).mpr ?_
      refine (zq_goto (t := 120) dX12_scan_116 rfl).mpr ?_
      refine (zq_istore dX12_scan_120 (by simp) rfl).mpr ?_
      refine (zq_goto (t := 176) dX12_scan_122 rfl).mpr ?_
      exact h
  · replace h := h.2 c
    refine (zq_iinc dX12_scan_101 rfl rfl).mpr ?_
    refine (zq_goto (t := 92) dX12_scan_104 rfl).mpr ?_
    exact h
theorem bX12_scan_176 {a0 : Nat} {a1 : Int} {a2 : Int} {a3 : Int} {a4 : Int} {a5 : Int} (h : (mC m a0 = 13) ∧ (0 ≤ a1 ∧ a1 < mN m (mR m 773 a0)) ∧ (mC m (mR m 773 a0) = 20) ∧ (0 ≤ a1 ∧ a1 < mN m (mR m 774 a0)) ∧ (mC m (mR m 774 a0) = 20) ∧ (0 ≤ a1 ∧ a1 < mN m (mR m 775 a0)) ∧ (mC m (mR m 775 a0) = 20) ∧ ((a5 = 0 → zW xs xl d cX12_scan 12 (none) false [] 6 [zR a0, zI (wr (a1 + 1)), zI a4, zI 0, zI a4, zI a5] [] (sA (sA (sA m (mR m 773 a0) (Int.toNat a1) a5) (mR m 774 a0) (Int.toNat a1) a2) (mR m 775 a0) (Int.toNat a1) a4) Q) ∧ (¬ (a5 = 0) → zW xs xl d cX12_scan 12 (none) false [] 6 [zR a0, zI (wr (a1 + 1)), zI a4, zI 1, zI a4, zI a5] [] (sA (sA (sA m (mR m 773 a0) (Int.toNat a1) a5) (mR m 774 a0) (Int.toNat a1) a2) (mR m 775 a0) (Int.toNat a1) a4) Q))) : zW xs xl d cX12_scan 12 (none) false [] 176 [zR a0, zI a1, zI a2, zI a3, zI a4, zI a5] [] m Q := by
  refine (zq_aload_n dX12_scan_176 rfl).mpr ?_
  obtain ⟨g1, h⟩ := h
  refine (zq_getR2 (f := 773) (v := (mR m 773 a0)) dX12_scan_177 fl_12_17 (by decide) rfl rfl (by first | rfl | simp only [zm_Is, zm_Rs, zm_As, zm_Os, zm_In0, zm_Rn0])).mpr ⟨g1, ?_⟩
  refine (zq_iload_n dX12_scan_180 rfl).mpr ?_
  refine (zq_iload dX12_scan_181 rfl).mpr ?_
  obtain ⟨g2, h⟩ := h
  obtain ⟨g3, h⟩ := h
  refine (zq_iast dX12_scan_183).mpr ⟨⟨g3, g2⟩, ?_⟩
  refine (zq_aload_n dX12_scan_184 rfl).mpr ?_
  refine (zq_getR2 (f := 774) (v := (mR m 774 a0)) dX12_scan_185 fl_12_20 (by decide) rfl rfl (by first | rfl | simp only [zm_Is, zm_Rs, zm_As, zm_Os, zm_In0, zm_Rn0])).mpr ⟨g1, ?_⟩
  refine (zq_iload_n dX12_scan_188 rfl).mpr ?_
  refine (zq_iload_n dX12_scan_189 rfl).mpr ?_
  obtain ⟨g4, h⟩ := h
  obtain ⟨g5, h⟩ := h
  refine (zq_iast dX12_scan_190).mpr ⟨⟨g5, g4⟩, ?_⟩
  refine (zq_aload_n dX12_scan_191 rfl).mpr ?_
  refine (zq_getR2 (f := 775) (v := (mR m 775 a0)) dX12_scan_192 fl_12_23 (by decide) rfl rfl (by first | rfl | simp only [zm_Is, zm_Rs, zm_As, zm_Os, zm_In0, zm_Rn0])).mpr ⟨g1, ?_⟩
  refine (zq_iload_n dX12_scan_195 rfl).mpr ?_
  refine (zq_iload dX12_scan_196 rfl).mpr ?_
  obtain ⟨g6, h⟩ := h
  obtain ⟨g7, h⟩ := h
  refine (zq_iast dX12_scan_198).mpr ⟨⟨g7, g6⟩, ?_⟩
  refine (zq_iinc dX12_scan_199 rfl rfl).mpr ?_
  refine (zq_iload dX12_scan_202 rfl).mpr ?_
  refine (zq_istore_n dX12_scan_204 (by simp) rfl).mpr ?_
  refine (zq_iload dX12_scan_205 rfl).mpr ?_
  refine (zq_if_eq (t := 214) dX12_scan_207 rfl).mpr ⟨fun c => ?_, fun c => ?_⟩
  · replace h := h.1 c
    refine (zq_iconst dX12_scan_214 (by decide)).mpr ?_
    refine (zq_istore_n dX12_scan_215 (by simp) rfl).mpr ?_
    refine (zq_goto (t := 6) dX12_scan_216 rfl).mpr ?_
    exact h
  · replace h := h.2 c
    refine (zq_iconst dX12_scan_210 (by decide)).mpr ?_
    refine (zq_goto (t := 215) dX12_scan_211 rfl).mpr ?_
    refine (zq_istore_n dX12_scan_215 (by simp) rfl).mpr ?_
    refine (zq_goto (t := 6) dX12_scan_216 rfl).mpr ?_
    exact h
theorem bX12_is_0 {a0 : Nat} {a1 : Int} {a2 : Nat} (h : (mC m a0 = 13) ∧ (mC m (mR m 773 a0) = 20) ∧ (0 ≤ a1 ∧ a1 < mN m (mR m 773 a0)) ∧ (((mA m (mR m 773 a0) (Int.toNat a1)) = 1 → zW xs xl d cX12_is 12 (some .boolean) false [] 20 [zR a0, zI a1, zE a2, zU, zU] [] m Q) ∧ (¬ ((mA m (mR m 773 a0) (Int.toNat a1)) = 1) → (((mA m (mR m 773 a0) (Int.toNat a1)) ≠ 3 → zW xs xl d cX12_is 12 (some .boolean) false [] 49 [zR a0, zI a1, zE a2, zI 0, zI 0] [] m Q) ∧ (¬ ((mA m (mR m 773 a0) (Int.toNat a1)) ≠ 3) → zW xs xl d cX12_is 12 (some .boolean) false [] 20 [zR a0, zI a1, zE a2, zU, zU] [] m Q))))) : zC xs xl (d + 1) 170 [zR a0, zI a1, zE a2] m Q := by
  refine zk_170 ?_
  refine (zq_aload_n dX12_is_0 rfl).mpr ?_
  obtain ⟨g1, h⟩ := h
  refine (zq_getR2 (f := 773) (v := (mR m 773 a0)) dX12_is_1 fl_12_17 (by decide) rfl rfl (by first | rfl | simp only [zm_Is, zm_Rs, zm_As, zm_Os, zm_In0, zm_Rn0])).mpr ⟨g1, ?_⟩
  refine (zq_iload_n dX12_is_4 rfl).mpr ?_
  obtain ⟨g2, h⟩ := h
  obtain ⟨g3, h⟩ := h
  refine (zq_iald2 (v := (mA m (mR m 773 a0) (Int.toNat a1))) dX12_is_5 (by first | rfl | simp only [zm_Is, zm_Rs, zm_As, zm_Os, zm_In0, zm_Rn0])).mpr ⟨⟨g2, g3⟩, ?_⟩
  refine (zq_iconst dX12_is_6 (by decide)).mpr ?_
  refine (zq_icmp_eq (t := 20) dX12_is_7 rfl).mpr ⟨fun c => ?_, fun c => ?_⟩
  · replace h := h.1 c
    exact h
  · replace h := h.2 c
    refine (zq_aload_n dX12_is_10 rfl).mpr ?_
    refine (zq_getR2 (f := 773) (v := (mR m 773 a0)) dX12_is_11 fl_12_17 (by decide) rfl rfl (by first | rfl | simp only [zm_Is, zm_Rs, zm_As, zm_Os, zm_In0, zm_Rn0])).mpr ⟨g1, ?_⟩
    refine (zq_iload_n dX12_is_14 rfl).mpr ?_
    refine (zq_iald2 (v := (mA m (mR m 773 a0) (Int.toNat a1))) dX12_is_15 (by first | rfl | simp only [zm_Is, zm_Rs, zm_As, zm_Os, zm_In0, zm_Rn0])).mpr ⟨⟨g2, g3⟩, ?_⟩
    refine (zq_iconst dX12_is_16 (by decide)).mpr ?_
    refine (zq_icmp_ne (t := 44) dX12_is_17 rfl).mpr ⟨fun c => ?_, fun c => ?_⟩
    · replace h := h.1 c
      refine (zq_iconst dX12_is_44 (by decide)).mpr ?_
      refine (zq_istore_n dX12_is_45 (by simp) rfl).mpr ?_
      refine (zq_iconst dX12_is_46 (by decide)).mpr ?_
      refine (zq_istore dX12_is_47 (by simp) rfl).mpr ?_
      exact h
    · replace h := h.2 c
      exact h
theorem bX12_is_20 {a0 : Nat} {a1 : Int} {a2 : Nat} {a3 : zV} {a4 : zV} (h : (mC m a0 = 13) ∧ (mC m (mR m 775 a0) = 20) ∧ (0 ≤ a1 ∧ a1 < mN m (mR m 775 a0)) ∧ (mC m (mR m 774 a0) = 20) ∧ (0 ≤ a1 ∧ a1 < mN m (mR m 774 a0)) ∧ (20 ≤ a2 ∧ a2 < 50) ∧ zC xs xl d 209 [zE a2] m (fun r m6 => ∃ v7 : Int, r = .inl (some (zI v7)) ∧ (((wr ((mA m (mR m 775 a0) (Int.toNat a1)) - (mA m (mR m 774 a0) (Int.toNat a1)))) ≠ v7 → zW xs xl d cX12_is 12 (some .boolean) false [] 49 [zR a0, zI a1, zE a2, zI 0, zI 0] [] m6 Q) ∧ (¬ ((wr ((mA m (mR m 775 a0) (Int.toNat a1)) - (mA m (mR m 774 a0) (Int.toNat a1)))) ≠ v7) → zW xs xl d cX12_is 12 (some .boolean) false [] 49 [zR a0, zI a1, zE a2, zI 1, zI 0] [] m6 Q)))) : zW xs xl d cX12_is 12 (some .boolean) false [] 20 [zR a0, zI a1, zE a2, a3, a4] [] m Q := by
  refine (zq_aload_n dX12_is_20 rfl).mpr ?_
  obtain ⟨g1, h⟩ := h
  refine (zq_getR2 (f := 775) (v := (mR m 775 a0)) dX12_is_21 fl_12_23 (by decide) rfl rfl (by first | rfl | simp only [zm_Is, zm_Rs, zm_As, zm_Os, zm_In0, zm_Rn0])).mpr ⟨g1, ?_⟩
  refine (zq_iload_n dX12_is_24 rfl).mpr ?_
  obtain ⟨g2, h⟩ := h
  obtain ⟨g3, h⟩ := h
  refine (zq_iald2 (v := (mA m (mR m 775 a0) (Int.toNat a1))) dX12_is_25 (by first | rfl | simp only [zm_Is, zm_Rs, zm_As, zm_Os, zm_In0, zm_Rn0])).mpr ⟨⟨g2, g3⟩, ?_⟩
  refine (zq_aload_n dX12_is_26 rfl).mpr ?_
  refine (zq_getR2 (f := 774) (v := (mR m 774 a0)) dX12_is_27 fl_12_20 (by decide) rfl rfl (by first | rfl | simp only [zm_Is, zm_Rs, zm_As, zm_Os, zm_In0, zm_Rn0])).mpr ⟨g1, ?_⟩
  refine (zq_iload_n dX12_is_30 rfl).mpr ?_
  obtain ⟨g4, h⟩ := h
  obtain ⟨g5, h⟩ := h
  refine (zq_iald2 (v := (mA m (mR m 774 a0) (Int.toNat a1))) dX12_is_31 (by first | rfl | simp only [zm_Is, zm_Rs, zm_As, zm_Os, zm_In0, zm_Rn0])).mpr ⟨⟨g4, g5⟩, ?_⟩
  refine (zq_isub dX12_is_32).mpr ?_
  refine (zq_aload_nE dX12_is_33 rfl).mpr ?_
  obtain ⟨g8, h⟩ := h
  refine zq_virtualI (n := 0) dX12_is_34 mr_12_69 zn_209 rfl rfl rfl (zrcv_E zo_209 g8) (Nat.le_of_ble_eq_true rfl) ?_
  refine h.mono (fun r m6 h => ?_)
  obtain ⟨v7, rfl, h⟩ := h
  refine ⟨_, rfl, ?_⟩
  refine (zq_icmp_ne (t := 44) dX12_is_37 rfl).mpr ⟨fun c => ?_, fun c => ?_⟩
  · replace h := h.1 c
    refine (zq_iconst dX12_is_44 (by decide)).mpr ?_
    refine (zq_istore_n dX12_is_45 (by simp) rfl).mpr ?_
    refine (zq_iconst dX12_is_46 (by decide)).mpr ?_
    refine (zq_istore dX12_is_47 (by simp) rfl).mpr ?_
    exact h
  · replace h := h.2 c
    refine (zq_iconst dX12_is_40 (by decide)).mpr ?_
    refine (zq_goto (t := 45) dX12_is_41 rfl).mpr ?_
    refine (zq_istore_n dX12_is_45 (by simp) rfl).mpr ?_
    refine (zq_iconst dX12_is_46 (by decide)).mpr ?_
    refine (zq_istore dX12_is_47 (by simp) rfl).mpr ?_
    exact h
theorem bX12_is_49 {a0 : Nat} {a1 : Int} {a2 : Nat} {a3 : Int} {a4 : Int} (h : (20 ≤ a2 ∧ a2 < 50) ∧ zC xs xl d 209 [zE a2] m (fun r m1 => ∃ v2 : Int, r = .inl (some (zI v2)) ∧ ((v2 ≤ a4 → (a3 = 0 ∨ a3 = 1) ∧ Q (.inl (some (zI a3))) m1) ∧ (¬ (v2 ≤ a4) → ((a3 = 0 → (a3 = 0 ∨ a3 = 1) ∧ Q (.inl (some (zI a3))) m1) ∧ (¬ (a3 = 0) → (mC m1 a0 = 13) ∧ (mC m1 (mR m1 774 a0) = 20) ∧ (0 ≤ a1 ∧ a1 < mN m1 (mR m1 774 a0)) ∧ (mC m1 (mR m1 769 a0) = 20) ∧ (0 ≤ (wr ((mA m1 (mR m1 774 a0) (Int.toNat a1)) + a4)) ∧ (wr ((mA m1 (mR m1 774 a0) (Int.toNat a1)) + a4)) < mN m1 (mR m1 769 a0)) ∧ zC xs xl d 210 [zE a2, zI a4] m1 (fun r m11 => ∃ v12 : Int, r = .inl (some (zI v12)) ∧ (((mA m1 (mR m1 769 a0) (Int.toNat (wr ((mA m1 (mR m1 774 a0) (Int.toNat a1)) + a4)))) ≠ v12 → zW xs xl d cX12_is 12 (some .boolean) false [] 49 [zR a0, zI a1, zE a2, zI 0, zI (wr (a4 + 1))] [] m11 Q) ∧ (¬ ((mA m1 (mR m1 769 a0) (Int.toNat (wr ((mA m1 (mR m1 774 a0) (Int.toNat a1)) + a4)))) ≠ v12) → zW xs xl d cX12_is 12 (some .boolean) false [] 49 [zR a0, zI a1, zE a2, zI 1, zI (wr (a4 + 1))] [] m11 Q))))))))) : zW xs xl d cX12_is 12 (some .boolean) false [] 49 [zR a0, zI a1, zE a2, zI a3, zI a4] [] m Q := by
  refine (zq_iload dX12_is_49 rfl).mpr ?_
  refine (zq_aload_nE dX12_is_51 rfl).mpr ?_
  obtain ⟨g3, h⟩ := h
  refine zq_virtualI (n := 0) dX12_is_52 mr_12_69 zn_209 rfl rfl rfl (zrcv_E zo_209 g3) (Nat.le_of_ble_eq_true rfl) ?_
  refine h.mono (fun r m1 h => ?_)
  obtain ⟨v2, rfl, h⟩ := h
  refine ⟨_, rfl, ?_⟩
  refine (zq_icmp_ge (t := 97) dX12_is_55 rfl).mpr ⟨fun c => ?_, fun c => ?_⟩
  · replace h := h.1 c
    refine (zq_iload_n dX12_is_97 rfl).mpr ?_
    obtain ⟨g4, h⟩ := h
    exact (zq_iret dX12_is_98 rfl).mpr ⟨g4, h⟩
  · replace h := h.2 c
    refine (zq_iload_n dX12_is_58 rfl).mpr ?_
    refine (zq_if_eq (t := 97) dX12_is_59 rfl).mpr ⟨fun c => ?_, fun c => ?_⟩
    · replace h := h.1 c
      refine (zq_iload_n dX12_is_97 rfl).mpr ?_
      obtain ⟨g5, h⟩ := h
      exact (zq_iret dX12_is_98 rfl).mpr ⟨g5, h⟩
    · replace h := h.2 c
      refine (zq_aload_n dX12_is_62 rfl).mpr ?_
      obtain ⟨g6, h⟩ := h
      refine (zq_getR2 (f := 769) (v := (mR m1 769 a0)) dX12_is_63 fl_12_9 (by decide) rfl rfl (by first | rfl | simp only [zm_Is, zm_Rs, zm_As, zm_Os, zm_In0, zm_Rn0])).mpr ⟨g6, ?_⟩
      refine (zq_aload_n dX12_is_66 rfl).mpr ?_
      refine (zq_getR2 (f := 774) (v := (mR m1 774 a0)) dX12_is_67 fl_12_20 (by decide) rfl rfl (by first | rfl | simp only [zm_Is, zm_Rs, zm_As, zm_Os, zm_In0, zm_Rn0])).mpr ⟨g6, ?_⟩
      refine (zq_iload_n dX12_is_70 rfl).mpr ?_
      obtain ⟨g7, h⟩ := h
      obtain ⟨g8, h⟩ := h
      refine (zq_iald2 (v := (mA m1 (mR m1 774 a0) (Int.toNat a1))) dX12_is_71 (by first | rfl | simp only [zm_Is, zm_Rs, zm_As, zm_Os, zm_In0, zm_Rn0])).mpr ⟨⟨g7, g8⟩, ?_⟩
      refine (zq_iload dX12_is_72 rfl).mpr ?_
      refine (zq_iadd dX12_is_74).mpr ?_
      obtain ⟨g9, h⟩ := h
      obtain ⟨g10, h⟩ := h
      refine (zq_iald2 (v := (mA m1 (mR m1 769 a0) (Int.toNat (wr ((mA m1 (mR m1 774 a0) (Int.toNat a1)) + a4))))) dX12_is_75 (by first | rfl | simp only [zm_Is, zm_Rs, zm_As, zm_Os, zm_In0, zm_Rn0])).mpr ⟨⟨g9, g10⟩, ?_⟩
      refine (zq_aload_nE dX12_is_76 rfl).mpr ?_
      refine (zq_iload dX12_is_77 rfl).mpr ?_
      refine zq_virtualI (n := 1) dX12_is_79 mr_12_74 zn_210 rfl rfl rfl (zrcv_E zo_210 g3) (Nat.le_of_ble_eq_true rfl) ?_
      refine h.mono (fun r m11 h => ?_)
      obtain ⟨v12, rfl, h⟩ := h
      refine ⟨_, rfl, ?_⟩
      refine (zq_icmp_ne (t := 89) dX12_is_82 rfl).mpr ⟨fun c => ?_, fun c => ?_⟩
      · replace h := h.1 c
        refine (zq_iconst dX12_is_89 (by decide)).mpr ?_
        refine (zq_istore_n dX12_is_90 (by simp) rfl).mpr ?_
        refine (zq_iinc dX12_is_91 rfl rfl).mpr ?_
        refine (zq_goto (t := 49) dX12_is_94 rfl).mpr ?_
        exact h
      · replace h := h.2 c
        refine (zq_iconst dX12_is_85 (by decide)).mpr ?_
        refine (zq_goto (t := 90) dX12_is_86 rfl).mpr ?_
        refine (zq_istore_n dX12_is_90 (by simp) rfl).mpr ?_
        refine (zq_iinc dX12_is_91 rfl rfl).mpr ?_
        refine (zq_goto (t := 49) dX12_is_94 rfl).mpr ?_
        exact h
theorem bX12_which_0 {a0 : Nat} {a1 : Int} {a2 : Nat} (h : zW xs xl d cX12_which 12 (some .int) false [] 5 [zR a0, zI a1, zE a2, zI (-1), zI 0] [] m Q) : zC xs xl (d + 1) 171 [zR a0, zI a1, zE a2] m Q := by
  refine zk_171 ?_
  refine (zq_iconst dX12_which_0 (by decide)).mpr ?_
  refine (zq_istore_n dX12_which_1 (by simp) rfl).mpr ?_
  refine (zq_iconst dX12_which_2 (by decide)).mpr ?_
  refine (zq_istore dX12_which_3 (by simp) rfl).mpr ?_
  exact h
theorem bX12_which_5 {a0 : Nat} {a1 : Int} {a2 : Nat} {a3 : Int} {a4 : Int} (h : (zXk a2 ≠ 0) ∧ (((wr (zXN xl a2)) ≤ a4 → Q (.inl (some (zI a3))) m) ∧ (¬ ((wr (zXN xl a2)) ≤ a4) → (zXk a2 = 3 ∧ 0 ≤ a4 ∧ a4 < zXN xl a2) ∧ (mC m a0 = 13) ∧ zC xs xl d 170 [zR a0, zI a1, zE (zXQ a2 (a4).toNat)] m (fun r m3 => ∃ v4 : Int, r = .inl (some (zI v4)) ∧ ((v4 = 0 → zW xs xl d cX12_which 12 (some .int) false [] 5 [zR a0, zI a1, zE a2, zI a3, zI (wr (a4 + 1))] [] m3 Q) ∧ (¬ (v4 = 0) → zW xs xl d cX12_which 12 (some .int) false [] 5 [zR a0, zI a1, zE a2, zI a4, zI (wr (a4 + 1))] [] m3 Q)))))) : zW xs xl d cX12_which 12 (some .int) false [] 5 [zR a0, zI a1, zE a2, zI a3, zI a4] [] m Q := by
  refine (zq_iload dX12_which_5 rfl).mpr ?_
  refine (zq_aload_nE dX12_which_7 rfl).mpr ?_
  obtain ⟨g1, h⟩ := h
  refine (zq_alenE dX12_which_8).mpr ⟨g1, ?_⟩
  refine (zq_icmp_ge (t := 33) dX12_which_9 rfl).mpr ⟨fun c => ?_, fun c => ?_⟩
  · replace h := h.1 c
    refine (zq_iload_n dX12_which_33 rfl).mpr ?_
    exact (zq_iret dX12_which_34 rfl).mpr ⟨trivial, h⟩
  · replace h := h.2 c
    refine (zq_aload_n dX12_which_12 rfl).mpr ?_
    refine (zq_iload_n dX12_which_13 rfl).mpr ?_
    refine (zq_aload_nE dX12_which_14 rfl).mpr ?_
    refine (zq_iload dX12_which_15 rfl).mpr ?_
    obtain ⟨g2, h⟩ := h
    refine (zq_aaldE dX12_which_17).mpr ⟨g2, ?_⟩
    obtain ⟨g5, h⟩ := h
    refine zq_virtualI (n := 2) dX12_which_18 mr_12_78 zn_170 rfl rfl rfl (zrcv_R zo_170 (by decide) g5) (Nat.le_of_ble_eq_true rfl) ?_
    refine h.mono (fun r m3 h => ?_)
    obtain ⟨v4, rfl, h⟩ := h
    refine ⟨_, rfl, ?_⟩
    refine (zq_if_eq (t := 27) dX12_which_21 rfl).mpr ⟨fun c => ?_, fun c => ?_⟩
    · replace h := h.1 c
      refine (zq_iinc dX12_which_27 rfl rfl).mpr ?_
      refine (zq_goto (t := 5) dX12_which_30 rfl).mpr ?_
      exact h
    · replace h := h.2 c
      refine (zq_iload dX12_which_24 rfl).mpr ?_
      refine (zq_istore_n dX12_which_26 (by simp) rfl).mpr ?_
      refine (zq_iinc dX12_which_27 rfl rfl).mpr ?_
      refine (zq_goto (t := 5) dX12_which_30 rfl).mpr ?_
      exact h
theorem bX12_numberAt_0 {a0 : Nat} {a1 : Int} (h : (mC m a0 = 13) ∧ (mC m (mR m 774 a0) = 20) ∧ (0 ≤ a1 ∧ a1 < mN m (mR m 774 a0)) ∧ zW xs xl d cX12_numberAt 12 (some .int) false [] 9 [zR a0, zI a1, zI 0, zI (mA m (mR m 774 a0) (Int.toNat a1))] [] m Q) : zC xs xl (d + 1) 172 [zR a0, zI a1] m Q := by
  refine zk_172 ?_
  refine (zq_iconst dX12_numberAt_0 (by decide)).mpr ?_
  refine (zq_istore_n dX12_numberAt_1 (by simp) rfl).mpr ?_
  refine (zq_aload_n dX12_numberAt_2 rfl).mpr ?_
  obtain ⟨g1, h⟩ := h
  refine (zq_getR2 (f := 774) (v := (mR m 774 a0)) dX12_numberAt_3 fl_12_20 (by decide) rfl rfl (by first | rfl | simp only [zm_Is, zm_Rs, zm_As, zm_Os, zm_In0, zm_Rn0])).mpr ⟨g1, ?_⟩
  refine (zq_iload_n dX12_numberAt_6 rfl).mpr ?_
  obtain ⟨g2, h⟩ := h
  obtain ⟨g3, h⟩ := h
  refine (zq_iald2 (v := (mA m (mR m 774 a0) (Int.toNat a1))) dX12_numberAt_7 (by first | rfl | simp only [zm_Is, zm_Rs, zm_As, zm_Os, zm_In0, zm_Rn0])).mpr ⟨⟨g2, g3⟩, ?_⟩
  refine (zq_istore_n dX12_numberAt_8 (by simp) rfl).mpr ?_
  exact h
theorem bX12_numberAt_9 {a0 : Nat} {a1 : Int} {a2 : Int} {a3 : Int} (h : (mC m a0 = 13) ∧ (mC m (mR m 775 a0) = 20) ∧ (0 ≤ a1 ∧ a1 < mN m (mR m 775 a0)) ∧ (((mA m (mR m 775 a0) (Int.toNat a1)) ≤ a3 → Q (.inl (some (zI a2))) m) ∧ (¬ ((mA m (mR m 775 a0) (Int.toNat a1)) ≤ a3) → (mC m (mR m 769 a0) = 20) ∧ (0 ≤ a3 ∧ a3 < mN m (mR m 769 a0)) ∧ zW xs xl d cX12_numberAt 12 (some .int) false [] 9 [zR a0, zI a1, zI (wr ((wr ((wr (10 * a2)) + (mA m (mR m 769 a0) (Int.toNat a3)))) - 48)), zI (wr (a3 + 1))] [] m Q))) : zW xs xl d cX12_numberAt 12 (some .int) false [] 9 [zR a0, zI a1, zI a2, zI a3] [] m Q := by
  refine (zq_iload_n dX12_numberAt_9 rfl).mpr ?_
  refine (zq_aload_n dX12_numberAt_10 rfl).mpr ?_
  obtain ⟨g1, h⟩ := h
  refine (zq_getR2 (f := 775) (v := (mR m 775 a0)) dX12_numberAt_11 fl_12_23 (by decide) rfl rfl (by first | rfl | simp only [zm_Is, zm_Rs, zm_As, zm_Os, zm_In0, zm_Rn0])).mpr ⟨g1, ?_⟩
  refine (zq_iload_n dX12_numberAt_14 rfl).mpr ?_
  obtain ⟨g2, h⟩ := h
  obtain ⟨g3, h⟩ := h
  refine (zq_iald2 (v := (mA m (mR m 775 a0) (Int.toNat a1))) dX12_numberAt_15 (by first | rfl | simp only [zm_Is, zm_Rs, zm_As, zm_Os, zm_In0, zm_Rn0])).mpr ⟨⟨g2, g3⟩, ?_⟩
  refine (zq_icmp_ge (t := 40) dX12_numberAt_16 rfl).mpr ⟨fun c => ?_, fun c => ?_⟩
  · replace h := h.1 c
    refine (zq_iload_n dX12_numberAt_40 rfl).mpr ?_
    exact (zq_iret dX12_numberAt_41 rfl).mpr ⟨trivial, h⟩
  · replace h := h.2 c
    refine (zq_bipush dX12_numberAt_19 (by decide)).mpr ?_
    refine (zq_iload_n dX12_numberAt_21 rfl).mpr ?_
    refine (zq_imul dX12_numberAt_22).mpr ?_
    refine (zq_aload_n dX12_numberAt_23 rfl).mpr ?_
    refine (zq_getR2 (f := 769) (v := (mR m 769 a0)) dX12_numberAt_24 fl_12_9 (by decide) rfl rfl (by first | rfl | simp only [zm_Is, zm_Rs, zm_As, zm_Os, zm_In0, zm_Rn0])).mpr ⟨g1, ?_⟩
    refine (zq_iload_n dX12_numberAt_27 rfl).mpr ?_
    obtain ⟨g4, h⟩ := h
    obtain ⟨g5, h⟩ := h
    refine (zq_iald2 (v := (mA m (mR m 769 a0) (Int.toNat a3))) dX12_numberAt_28 (by first | rfl | simp only [zm_Is, zm_Rs, zm_As, zm_Os, zm_In0, zm_Rn0])).mpr ⟨⟨g4, g5⟩, ?_⟩
    refine (zq_iadd dX12_numberAt_29).mpr ?_
    refine (zq_bipush dX12_numberAt_30 (by decide)).mpr ?_
    refine (zq_isub dX12_numberAt_32).mpr ?_
    refine (zq_istore_n dX12_numberAt_33 (by simp) rfl).mpr ?_
    refine (zq_iinc dX12_numberAt_34 rfl rfl).mpr ?_
    refine (zq_goto (t := 9) dX12_numberAt_37 rfl).mpr ?_
    exact h
theorem bX12_takes_0 {a0 : Nat} {a1 : Int} (h : ((a1 = 0 → (a1 = 0 ∨ a1 = 1) ∧ Q (.inl (some (zI a1))) m) ∧ (¬ (a1 = 0) → (mC m a0 = 13) ∧ (a1 = 0 ∨ a1 = 1) ∧ Q (.inl (some (zI a1))) (sI m 776 a0 (wr ((mI m 776 a0) + 1)))))) : zC xs xl (d + 1) 173 [zR a0, zI a1] m Q := by
  refine zk_173 ?_
  refine (zq_iload_n dX12_takes_0 rfl).mpr ?_
  refine (zq_if_eq (t := 14) dX12_takes_1 rfl).mpr ⟨fun c => ?_, fun c => ?_⟩
  · replace h := h.1 c
    refine (zq_iload_n dX12_takes_14 rfl).mpr ?_
    obtain ⟨g1, h⟩ := h
    exact (zq_iret dX12_takes_15 rfl).mpr ⟨g1, h⟩
  · replace h := h.2 c
    refine (zq_aload_n dX12_takes_4 rfl).mpr ?_
    refine (zq_dupR dX12_takes_5).mpr ?_
    obtain ⟨g2, h⟩ := h
    refine (zq_getI2 (f := 776) (v := (mI m 776 a0)) dX12_takes_6 fl_12_82 (by decide) rfl rfl (by first | rfl | simp only [zm_Is, zm_Rs, zm_As, zm_Os, zm_In0, zm_Rn0])).mpr ⟨g2, ?_⟩
    refine (zq_iconst dX12_takes_9 (by decide)).mpr ?_
    refine (zq_iadd dX12_takes_10).mpr ?_
    refine (zq_putI (f := 776) dX12_takes_11 fl_12_82 (by decide) rfl rfl rfl).mpr ⟨g2, ?_⟩
    refine (zq_iload_n dX12_takes_14 rfl).mpr ?_
    obtain ⟨g3, h⟩ := h
    exact (zq_iret dX12_takes_15 rfl).mpr ⟨g3, h⟩
theorem bX12_planForm_0 {a0 : Nat} (h : (mC m a0 = 13) ∧ zW xs xl d cX12_planForm 12 (some .boolean) false [] 5 [zR a0] [] (sI m 776 a0 0) Q) : zC xs xl (d + 1) 174 [zR a0] m Q := by
  refine zk_174 ?_
  refine (zq_aload_n dX12_planForm_0 rfl).mpr ?_
  refine (zq_iconst dX12_planForm_1 (by decide)).mpr ?_
  obtain ⟨g1, h⟩ := h
  refine (zq_putI (f := 776) dX12_planForm_2 fl_12_82 (by decide) rfl rfl rfl).mpr ⟨g1, ?_⟩
  exact h
theorem bX12_planForm_5 {a0 : Nat} (h : (mC m a0 = 13) ∧ zC xs xl d 175 [zR a0] m (fun r m1 => ∃ v2 : Int, r = .inl (some (zI v2)) ∧ ((v2 ≠ 0 → (mC m1 a0 = 13) ∧ (mC m1 (mR m1 773 a0) = 20) ∧ (0 ≤ (mI m1 776 a0) ∧ (mI m1 776 a0) < mN m1 (mR m1 773 a0)) ∧ (((mA m1 (mR m1 773 a0) (Int.toNat (mI m1 776 a0))) ≠ 0 → zW xs xl d cX12_planForm 12 (some .boolean) false [] 5 [zR a0] [] m1 Q) ∧ (¬ ((mA m1 (mR m1 773 a0) (Int.toNat (mI m1 776 a0))) ≠ 0) → Q (.inl (some (zI 1))) m1))) ∧ (¬ (v2 ≠ 0) → Q (.inl (some (zI 0))) m1)))) : zW xs xl d cX12_planForm 12 (some .boolean) false [] 5 [zR a0] [] m Q := by
  refine (zq_aload_n dX12_planForm_5 rfl).mpr ?_
  obtain ⟨g3, h⟩ := h
  refine zq_virtualI (n := 0) dX12_planForm_6 mr_12_85 zn_175 rfl rfl rfl (zrcv_R zo_175 (by decide) g3) (Nat.le_of_ble_eq_true rfl) ?_
  refine h.mono (fun r m1 h => ?_)
  obtain ⟨v2, rfl, h⟩ := h
  refine ⟨_, rfl, ?_⟩
  refine (zq_if_ne (t := 14) dX12_planForm_9 rfl).mpr ⟨fun c => ?_, fun c => ?_⟩
  · replace h := h.1 c
    refine (zq_aload_n dX12_planForm_14 rfl).mpr ?_
    obtain ⟨g4, h⟩ := h
    refine (zq_getR2 (f := 773) (v := (mR m1 773 a0)) dX12_planForm_15 fl_12_17 (by decide) rfl rfl (by first | rfl | simp only [zm_Is, zm_Rs, zm_As, zm_Os, zm_In0, zm_Rn0])).mpr ⟨g4, ?_⟩
    refine (zq_aload_n dX12_planForm_18 rfl).mpr ?_
    refine (zq_getI2 (f := 776) (v := (mI m1 776 a0)) dX12_planForm_19 fl_12_82 (by decide) rfl rfl (by first | rfl | simp only [zm_Is, zm_Rs, zm_As, zm_Os, zm_In0, zm_Rn0])).mpr ⟨g4, ?_⟩
    obtain ⟨g5, h⟩ := h
    obtain ⟨g6, h⟩ := h
    refine (zq_iald2 (v := (mA m1 (mR m1 773 a0) (Int.toNat (mI m1 776 a0)))) dX12_planForm_22 (by first | rfl | simp only [zm_Is, zm_Rs, zm_As, zm_Os, zm_In0, zm_Rn0])).mpr ⟨⟨g5, g6⟩, ?_⟩
    refine (zq_if_ne (t := 5) dX12_planForm_23 rfl).mpr ⟨fun c => ?_, fun c => ?_⟩
    · replace h := h.1 c
      exact h
    · replace h := h.2 c
      refine (zq_iconst dX12_planForm_26 (by decide)).mpr ?_
      exact (zq_iret dX12_planForm_27 rfl).mpr ⟨by decide, h⟩
  · replace h := h.2 c
    refine (zq_iconst dX12_planForm_12 (by decide)).mpr ?_
    exact (zq_iret dX12_planForm_13 rfl).mpr ⟨by decide, h⟩
theorem bX12_stepForm_0 {a0 : Nat} (h : zW xs xl d cX12_stepForm 12 (some .boolean) false [] 2 [zR a0, zI 0] [] m Q) : zC xs xl (d + 1) 175 [zR a0] m Q := by
  refine zk_175 ?_
  refine (zq_iconst dX12_stepForm_0 (by decide)).mpr ?_
  refine (zq_istore_n dX12_stepForm_1 (by simp) rfl).mpr ?_
  exact h
theorem bX12_stepForm_2 {a0 : Nat} {a1 : Int} (h : ((a1 ≤ 0 → zW xs xl d cX12_stepForm 12 (some .boolean) false [] 50 [zR a0, zI a1] [] m Q) ∧ (¬ (a1 ≤ 0) → (mC m a0 = 13) ∧ zC xs xl d 170 [zR a0, zI (mI m 776 a0), zE 29] m (fun r m2 => ∃ v3 : Int, r = .inl (some (zI v3)) ∧ ((v3 = 0 → zW xs xl d cX12_stepForm 12 (some .boolean) false [] 50 [zR a0, zI a1] [] m2 Q) ∧ (¬ (v3 = 0) → (mC m2 a0 = 13) ∧ zC xs xl d 170 [zR a0, zI (wr ((mI m2 776 a0) - 1)), zE 30] m2 (fun r m5 => ∃ v6 : Int, r = .inl (some (zI v6)) ∧ ((v6 ≠ 0 → zW xs xl d cX12_stepForm 12 (some .boolean) false [] 50 [zR a0, zI a1] [] m5 Q) ∧ (¬ (v6 ≠ 0) → (mC m5 a0 = 13) ∧ zW xs xl d cX12_stepForm 12 (some .boolean) false [] 149 [zR a0, zI (wr (a1 + (-1)))] [] (sI m5 776 a0 (wr ((mI m5 776 a0) + 1))) Q))))))))) : zW xs xl d cX12_stepForm 12 (some .boolean) false [] 2 [zR a0, zI a1] [] m Q := by
  refine (zq_iload_n dX12_stepForm_2 rfl).mpr ?_
  refine (zq_if_le (t := 50) dX12_stepForm_3 rfl).mpr ⟨fun c => ?_, fun c => ?_⟩
  · replace h := h.1 c
    exact h
  · replace h := h.2 c
    refine (zq_aload_n dX12_stepForm_6 rfl).mpr ?_
    refine (zq_aload_n dX12_stepForm_7 rfl).mpr ?_
    obtain ⟨g1, h⟩ := h
    refine (zq_getI2 (f := 776) (v := (mI m 776 a0)) dX12_stepForm_8 fl_12_82 (by decide) rfl rfl (by first | rfl | simp only [zm_Is, zm_Rs, zm_As, zm_Os, zm_In0, zm_Rn0])).mpr ⟨g1, ?_⟩
    refine (zq_ldc dX12_stepForm_11 ck_12_89).mpr ?_
    refine zq_virtualI (n := 2) dX12_stepForm_13 mr_12_78 zn_170 rfl rfl rfl (zrcv_R zo_170 (by decide) g1) (Nat.le_of_ble_eq_true rfl) ?_
    refine h.mono (fun r m2 h => ?_)
    obtain ⟨v3, rfl, h⟩ := h
    refine ⟨_, rfl, ?_⟩
    refine (zq_if_eq (t := 50) dX12_stepForm_16 rfl).mpr ⟨fun c => ?_, fun c => ?_⟩
    · replace h := h.1 c
      exact h
    · replace h := h.2 c
      refine (zq_aload_n dX12_stepForm_19 rfl).mpr ?_
      refine (zq_aload_n dX12_stepForm_20 rfl).mpr ?_
      obtain ⟨g4, h⟩ := h
      refine (zq_getI2 (f := 776) (v := (mI m2 776 a0)) dX12_stepForm_21 fl_12_82 (by decide) rfl rfl (by first | rfl | simp only [zm_Is, zm_Rs, zm_As, zm_Os, zm_In0, zm_Rn0])).mpr ⟨g4, ?_⟩
      refine (zq_iconst dX12_stepForm_24 (by decide)).mpr ?_
      refine (zq_isub dX12_stepForm_25).mpr ?_
      refine (zq_ldc dX12_stepForm_26 ck_12_91).mpr ?_
      refine zq_virtualI (n := 2) dX12_stepForm_28 mr_12_78 zn_170 rfl rfl rfl (zrcv_R zo_170 (by decide) g4) (Nat.le_of_ble_eq_true rfl) ?_
      refine h.mono (fun r m5 h => ?_)
      obtain ⟨v6, rfl, h⟩ := h
      refine ⟨_, rfl, ?_⟩
      refine (zq_if_ne (t := 50) dX12_stepForm_31 rfl).mpr ⟨fun c => ?_, fun c => ?_⟩
      · replace h := h.1 c
        exact h
      · replace h := h.2 c
        refine (zq_aload_n dX12_stepForm_34 rfl).mpr ?_
        refine (zq_dupR dX12_stepForm_35).mpr ?_
        obtain ⟨g7, h⟩ := h
        refine (zq_getI2 (f := 776) (v := (mI m5 776 a0)) dX12_stepForm_36 fl_12_82 (by decide) rfl rfl (by first | rfl | simp only [zm_Is, zm_Rs, zm_As, zm_Os, zm_In0, zm_Rn0])).mpr ⟨g7, ?_⟩
        refine (zq_iconst dX12_stepForm_39 (by decide)).mpr ?_
        refine (zq_iadd dX12_stepForm_40).mpr ?_
        refine (zq_putI (f := 776) dX12_stepForm_41 fl_12_82 (by decide) rfl rfl rfl).mpr ⟨g7, ?_⟩
        refine (zq_iinc dX12_stepForm_44 rfl rfl).mpr ?_
        refine (zq_goto (t := 149) dX12_stepForm_47 rfl).mpr ?_
        exact h
theorem bX12_stepForm_50 {a0 : Nat} {a1 : Int} (h : (mC m a0 = 13) ∧ zC xs xl d 170 [zR a0, zI (mI m 776 a0), zE 31] m (fun r m2 => ∃ v3 : Int, r = .inl (some (zI v3)) ∧ ((v3 = 0 → (mC m2 a0 = 13) ∧ zC xs xl d 176 [zR a0] m2 (fun r m4 => ∃ v5 : Int, r = .inl (some (zI v5)) ∧ ((v5 = 0 → Q (.inl (some (zI 0))) m4) ∧ (¬ (v5 = 0) → (mC m4 a0 = 13) ∧ zC xs xl d 170 [zR a0, zI (mI m4 776 a0), zE 32] m4 (fun r m8 => ∃ v9 : Int, r = .inl (some (zI v9)) ∧ (mC m8 a0 = 13) ∧ zC xs xl d 173 [zR a0, zI v9] m8 (fun r m10 => ∃ v11 : Int, r = .inl (some (zI v11)) ∧ ((v11 ≠ 0 → zW xs xl d cX12_stepForm 12 (some .boolean) false [] 149 [zR a0, zI a1] [] m10 Q) ∧ (¬ (v11 ≠ 0) → Q (.inl (some (zI 0))) m10)))))))) ∧ (¬ (v3 = 0) → (mC m2 a0 = 13) ∧ (mC m2 (mR m2 773 a0) = 20) ∧ (0 ≤ (wr ((mI m2 776 a0) + 1)) ∧ (wr ((mI m2 776 a0) + 1)) < mN m2 (mR m2 773 a0)) ∧ (((mA m2 (mR m2 773 a0) (Int.toNat (wr ((mI m2 776 a0) + 1)))) ≠ 2 → zC xs xl d 173 [zR a0, zI 0] (sI m2 776 a0 (wr ((mI m2 776 a0) + 1))) (fun r m16 => ∃ v17 : Int, r = .inl (some (zI v17)) ∧ ((v17 = 0 → Q (.inl (some (zI 0))) m16) ∧ (¬ (v17 = 0) → (mC m16 a0 = 13) ∧ zC xs xl d 170 [zR a0, zI (mI m16 776 a0), zE 30] m16 (fun r m19 => ∃ v20 : Int, r = .inl (some (zI v20)) ∧ (mC m19 a0 = 13) ∧ zC xs xl d 173 [zR a0, zI v20] m19 (fun r m21 => ∃ v22 : Int, r = .inl (some (zI v22)) ∧ ((v22 ≠ 0 → zW xs xl d cX12_stepForm 12 (some .boolean) false [] 149 [zR a0, zI (wr (a1 + 1))] [] m21 Q) ∧ (¬ (v22 ≠ 0) → Q (.inl (some (zI 0))) m21)))))))) ∧ (¬ ((mA m2 (mR m2 773 a0) (Int.toNat (wr ((mI m2 776 a0) + 1)))) ≠ 2) → zC xs xl d 173 [zR a0, zI 1] (sI m2 776 a0 (wr ((mI m2 776 a0) + 1))) (fun r m24 => ∃ v25 : Int, r = .inl (some (zI v25)) ∧ ((v25 = 0 → Q (.inl (some (zI 0))) m24) ∧ (¬ (v25 = 0) → (mC m24 a0 = 13) ∧ zC xs xl d 170 [zR a0, zI (mI m24 776 a0), zE 30] m24 (fun r m27 => ∃ v28 : Int, r = .inl (some (zI v28)) ∧ (mC m27 a0 = 13) ∧ zC xs xl d 173 [zR a0, zI v28] m27 (fun r m29 => ∃ v30 : Int, r = .inl (some (zI v30)) ∧ ((v30 ≠ 0 → zW xs xl d cX12_stepForm 12 (some .boolean) false [] 149 [zR a0, zI (wr (a1 + 1))] [] m29 Q) ∧ (¬ (v30 ≠ 0) → Q (.inl (some (zI 0))) m29))))))))))))) : zW xs xl d cX12_stepForm 12 (some .boolean) false [] 50 [zR a0, zI a1] [] m Q := by
  refine (zq_aload_n dX12_stepForm_50 rfl).mpr ?_
  refine (zq_aload_n dX12_stepForm_51 rfl).mpr ?_
  obtain ⟨g1, h⟩ := h
  refine (zq_getI2 (f := 776) (v := (mI m 776 a0)) dX12_stepForm_52 fl_12_82 (by decide) rfl rfl (by first | rfl | simp only [zm_Is, zm_Rs, zm_As, zm_Os, zm_In0, zm_Rn0])).mpr ⟨g1, ?_⟩
  refine (zq_ldc dX12_stepForm_55 ck_12_93).mpr ?_
  refine zq_virtualI (n := 2) dX12_stepForm_57 mr_12_78 zn_170 rfl rfl rfl (zrcv_R zo_170 (by decide) g1) (Nat.le_of_ble_eq_true rfl) ?_
  refine h.mono (fun r m2 h => ?_)
  obtain ⟨v3, rfl, h⟩ := h
  refine ⟨_, rfl, ?_⟩
  refine (zq_if_eq (t := 123) dX12_stepForm_60 rfl).mpr ⟨fun c => ?_, fun c => ?_⟩
  · replace h := h.1 c
    refine (zq_aload_n dX12_stepForm_123 rfl).mpr ?_
    obtain ⟨g6, h⟩ := h
    refine zq_virtualI (n := 0) dX12_stepForm_124 mr_12_99 zn_176 rfl rfl rfl (zrcv_R zo_176 (by decide) g6) (Nat.le_of_ble_eq_true rfl) ?_
    refine h.mono (fun r m4 h => ?_)
    obtain ⟨v5, rfl, h⟩ := h
    refine ⟨_, rfl, ?_⟩
    refine (zq_if_eq (t := 147) dX12_stepForm_127 rfl).mpr ⟨fun c => ?_, fun c => ?_⟩
    · replace h := h.1 c
      refine (zq_iconst dX12_stepForm_147 (by decide)).mpr ?_
      exact (zq_iret dX12_stepForm_148 rfl).mpr ⟨by decide, h⟩
    · replace h := h.2 c
      refine (zq_aload_n dX12_stepForm_130 rfl).mpr ?_
      refine (zq_aload_n dX12_stepForm_131 rfl).mpr ?_
      refine (zq_aload_n dX12_stepForm_132 rfl).mpr ?_
      obtain ⟨g7, h⟩ := h
      refine (zq_getI2 (f := 776) (v := (mI m4 776 a0)) dX12_stepForm_133 fl_12_82 (by decide) rfl rfl (by first | rfl | simp only [zm_Is, zm_Rs, zm_As, zm_Os, zm_In0, zm_Rn0])).mpr ⟨g7, ?_⟩
      refine (zq_ldc dX12_stepForm_136 ck_12_102).mpr ?_
      refine zq_virtualI (n := 2) dX12_stepForm_138 mr_12_78 zn_170 rfl rfl rfl (zrcv_R zo_170 (by decide) g7) (Nat.le_of_ble_eq_true rfl) ?_
      refine h.mono (fun r m8 h => ?_)
      obtain ⟨v9, rfl, h⟩ := h
      refine ⟨_, rfl, ?_⟩
      obtain ⟨g12, h⟩ := h
      refine zq_virtualI (n := 1) dX12_stepForm_141 mr_12_95 zn_173 rfl rfl rfl (zrcv_R zo_173 (by decide) g12) (Nat.le_of_ble_eq_true rfl) ?_
      refine h.mono (fun r m10 h => ?_)
      obtain ⟨v11, rfl, h⟩ := h
      refine ⟨_, rfl, ?_⟩
      refine (zq_if_ne (t := 149) dX12_stepForm_144 rfl).mpr ⟨fun c => ?_, fun c => ?_⟩
      · replace h := h.1 c
        exact h
      · replace h := h.2 c
        refine (zq_iconst dX12_stepForm_147 (by decide)).mpr ?_
        exact (zq_iret dX12_stepForm_148 rfl).mpr ⟨by decide, h⟩
  · replace h := h.2 c
    refine (zq_aload_n dX12_stepForm_63 rfl).mpr ?_
    refine (zq_dupR dX12_stepForm_64).mpr ?_
    obtain ⟨g13, h⟩ := h
    refine (zq_getI2 (f := 776) (v := (mI m2 776 a0)) dX12_stepForm_65 fl_12_82 (by decide) rfl rfl (by first | rfl | simp only [zm_Is, zm_Rs, zm_As, zm_Os, zm_In0, zm_Rn0])).mpr ⟨g13, ?_⟩
    refine (zq_iconst dX12_stepForm_68 (by decide)).mpr ?_
    refine (zq_iadd dX12_stepForm_69).mpr ?_
    refine (zq_putI (f := 776) dX12_stepForm_70 fl_12_82 (by decide) rfl rfl rfl).mpr ⟨g13, ?_⟩
    refine (zq_aload_n dX12_stepForm_73 rfl).mpr ?_
    refine (zq_aload_n dX12_stepForm_74 rfl).mpr ?_
    refine (zq_getR2 (f := 773) (v := (mR m2 773 a0)) dX12_stepForm_75 fl_12_17 (by decide) rfl rfl (by first | rfl | simp only [zm_Is, zm_Rs, zm_As, zm_Os, zm_In0, zm_Rn0])).mpr ⟨g13, ?_⟩
    refine (zq_aload_n dX12_stepForm_78 rfl).mpr ?_
    refine (zq_getI2 (f := 776) (v := (wr ((mI m2 776 a0) + 1))) dX12_stepForm_79 fl_12_82 (by decide) rfl rfl (by first | rfl | simp only [zm_Is, zm_Rs, zm_As, zm_Os, zm_In0, zm_Rn0])).mpr ⟨g13, ?_⟩
    obtain ⟨g14, h⟩ := h
    obtain ⟨g15, h⟩ := h
    refine (zq_iald2 (v := (mA m2 (mR m2 773 a0) (Int.toNat (wr ((mI m2 776 a0) + 1))))) dX12_stepForm_82 (by first | rfl | simp only [zm_Is, zm_Rs, zm_As, zm_Os, zm_In0, zm_Rn0])).mpr ⟨⟨g14, g15⟩, ?_⟩
    refine (zq_iconst dX12_stepForm_83 (by decide)).mpr ?_
    refine (zq_icmp_ne (t := 91) dX12_stepForm_84 rfl).mpr ⟨fun c => ?_, fun c => ?_⟩
    · replace h := h.1 c
      refine (zq_iconst dX12_stepForm_91 (by decide)).mpr ?_
      refine zq_virtualI (n := 1) dX12_stepForm_92 mr_12_95 zn_173 rfl rfl rfl (zrcv_R zo_173 (by decide) g13) (Nat.le_of_ble_eq_true rfl) ?_
      refine h.mono (fun r m16 h => ?_)
      obtain ⟨v17, rfl, h⟩ := h
      refine ⟨_, rfl, ?_⟩
      refine (zq_if_eq (t := 115) dX12_stepForm_95 rfl).mpr ⟨fun c => ?_, fun c => ?_⟩
      · replace h := h.1 c
        refine (zq_iconst dX12_stepForm_115 (by decide)).mpr ?_
        exact (zq_iret dX12_stepForm_116 rfl).mpr ⟨by decide, h⟩
      · replace h := h.2 c
        refine (zq_aload_n dX12_stepForm_98 rfl).mpr ?_
        refine (zq_aload_n dX12_stepForm_99 rfl).mpr ?_
        refine (zq_aload_n dX12_stepForm_100 rfl).mpr ?_
        obtain ⟨g18, h⟩ := h
        refine (zq_getI2 (f := 776) (v := (mI m16 776 a0)) dX12_stepForm_101 fl_12_82 (by decide) rfl rfl (by first | rfl | simp only [zm_Is, zm_Rs, zm_As, zm_Os, zm_In0, zm_Rn0])).mpr ⟨g18, ?_⟩
        refine (zq_ldc dX12_stepForm_104 ck_12_91).mpr ?_
        refine zq_virtualI (n := 2) dX12_stepForm_106 mr_12_78 zn_170 rfl rfl rfl (zrcv_R zo_170 (by decide) g18) (Nat.le_of_ble_eq_true rfl) ?_
        refine h.mono (fun r m19 h => ?_)
        obtain ⟨v20, rfl, h⟩ := h
        refine ⟨_, rfl, ?_⟩
        obtain ⟨g23, h⟩ := h
        refine zq_virtualI (n := 1) dX12_stepForm_109 mr_12_95 zn_173 rfl rfl rfl (zrcv_R zo_173 (by decide) g23) (Nat.le_of_ble_eq_true rfl) ?_
        refine h.mono (fun r m21 h => ?_)
        obtain ⟨v22, rfl, h⟩ := h
        refine ⟨_, rfl, ?_⟩
        refine (zq_if_ne (t := 117) dX12_stepForm_112 rfl).mpr ⟨fun c => ?_, fun c => ?_⟩
        · replace h := h.1 c
          refine (zq_iinc dX12_stepForm_117 rfl rfl).mpr ?_
          refine (zq_goto (t := 149) dX12_stepForm_120 rfl).mpr ?_
          exact h
        · replace h := h.2 c
          refine (zq_iconst dX12_stepForm_115 (by decide)).mpr ?_
          exact (zq_iret dX12_stepForm_116 rfl).mpr ⟨by decide, h⟩
    · replace h := h.2 c
      refine (zq_iconst dX12_stepForm_87 (by decide)).mpr ?_
      refine (zq_goto (t := 92) dX12_stepForm_88 rfl).mpr ?_
      refine zq_virtualI (n := 1) dX12_stepForm_92 mr_12_95 zn_173 rfl rfl rfl (zrcv_R zo_173 (by decide) g13) (Nat.le_of_ble_eq_true rfl) ?_
      refine h.mono (fun r m24 h => ?_)
      obtain ⟨v25, rfl, h⟩ := h
      refine ⟨_, rfl, ?_⟩
      refine (zq_if_eq (t := 115) dX12_stepForm_95 rfl).mpr ⟨fun c => ?_, fun c => ?_⟩
      · replace h := h.1 c
        refine (zq_iconst dX12_stepForm_115 (by decide)).mpr ?_
        exact (zq_iret dX12_stepForm_116 rfl).mpr ⟨by decide, h⟩
      · replace h := h.2 c
        refine (zq_aload_n dX12_stepForm_98 rfl).mpr ?_
        refine (zq_aload_n dX12_stepForm_99 rfl).mpr ?_
        refine (zq_aload_n dX12_stepForm_100 rfl).mpr ?_
        obtain ⟨g26, h⟩ := h
        refine (zq_getI2 (f := 776) (v := (mI m24 776 a0)) dX12_stepForm_101 fl_12_82 (by decide) rfl rfl (by first | rfl | simp only [zm_Is, zm_Rs, zm_As, zm_Os, zm_In0, zm_Rn0])).mpr ⟨g26, ?_⟩
        refine (zq_ldc dX12_stepForm_104 ck_12_91).mpr ?_
        refine zq_virtualI (n := 2) dX12_stepForm_106 mr_12_78 zn_170 rfl rfl rfl (zrcv_R zo_170 (by decide) g26) (Nat.le_of_ble_eq_true rfl) ?_
        refine h.mono (fun r m27 h => ?_)
        obtain ⟨v28, rfl, h⟩ := h
        refine ⟨_, rfl, ?_⟩
        obtain ⟨g31, h⟩ := h
        refine zq_virtualI (n := 1) dX12_stepForm_109 mr_12_95 zn_173 rfl rfl rfl (zrcv_R zo_173 (by decide) g31) (Nat.le_of_ble_eq_true rfl) ?_
        refine h.mono (fun r m29 h => ?_)
        obtain ⟨v30, rfl, h⟩ := h
        refine ⟨_, rfl, ?_⟩
        refine (zq_if_ne (t := 117) dX12_stepForm_112 rfl).mpr ⟨fun c => ?_, fun c => ?_⟩
        · replace h := h.1 c
          refine (zq_iinc dX12_stepForm_117 rfl rfl).mpr ?_
          refine (zq_goto (t := 149) dX12_stepForm_120 rfl).mpr ?_
          exact h
        · replace h := h.2 c
          refine (zq_iconst dX12_stepForm_115 (by decide)).mpr ?_
          exact (zq_iret dX12_stepForm_116 rfl).mpr ⟨by decide, h⟩
theorem bX12_stepForm_149 {a0 : Nat} {a1 : Int} (h : ((0 < a1 → zW xs xl d cX12_stepForm 12 (some .boolean) false [] 2 [zR a0, zI a1] [] m Q) ∧ (¬ (0 < a1) → Q (.inl (some (zI 1))) m))) : zW xs xl d cX12_stepForm 12 (some .boolean) false [] 149 [zR a0, zI a1] [] m Q := by
  refine (zq_iload_n dX12_stepForm_149 rfl).mpr ?_
  refine (zq_if_gt (t := 2) dX12_stepForm_150 rfl).mpr ⟨fun c => ?_, fun c => ?_⟩
  · replace h := h.1 c
    exact h
  · replace h := h.2 c
    refine (zq_iconst dX12_stepForm_153 (by decide)).mpr ?_
    exact (zq_iret dX12_stepForm_154 rfl).mpr ⟨by decide, h⟩
end ZB7
