section ZB6
variable {xs : Nat → Int} {xl d : Nat} {m : zM} {Q : zRes → zM → Prop}
theorem bX11_act_0 {a0 : Nat} {a1 : Int} (h : (mC m a0 = 12) ∧ (mC m (mR m 718 a0) = 20) ∧ (0 ≤ a1 ∧ a1 < mN m (mR m 718 a0)) ∧ (mC m (mR m 717 a0) = 20) ∧ (0 ≤ (wr (4 * (wr ((wr (60 * a1)) + (mA m (mR m 718 a0) (Int.toNat a1)))))) ∧ (wr (4 * (wr ((wr (60 * a1)) + (mA m (mR m 718 a0) (Int.toNat a1)))))) < mN m (mR m 717 a0)) ∧ (0 ≤ (wr ((wr (4 * (wr ((wr (60 * a1)) + (mA m (mR m 718 a0) (Int.toNat a1)))))) + 1)) ∧ (wr ((wr (4 * (wr ((wr (60 * a1)) + (mA m (mR m 718 a0) (Int.toNat a1)))))) + 1)) < mN m (mR m 717 a0)) ∧ (((mA m (mR m 717 a0) (Int.toNat (wr (4 * (wr ((wr (60 * a1)) + (mA m (mR m 718 a0) (Int.toNat a1)))))))) ≠ 0 → (((mA m (mR m 717 a0) (Int.toNat (wr (4 * (wr ((wr (60 * a1)) + (mA m (mR m 718 a0) (Int.toNat a1)))))))) ≠ 1 → (((mA m (mR m 717 a0) (Int.toNat (wr (4 * (wr ((wr (60 * a1)) + (mA m (mR m 718 a0) (Int.toNat a1)))))))) ≠ 2 → (((mA m (mR m 717 a0) (Int.toNat (wr (4 * (wr ((wr (60 * a1)) + (mA m (mR m 718 a0) (Int.toNat a1)))))))) ≠ 5 → (((mA m (mR m 717 a0) (Int.toNat (wr (4 * (wr ((wr (60 * a1)) + (mA m (mR m 718 a0) (Int.toNat a1)))))))) ≠ 7 → zC xs xl d 152 [zR a0, zI a1, zI (mA m (mR m 717 a0) (Int.toNat (wr (4 * (wr ((wr (60 * a1)) + (mA m (mR m 718 a0) (Int.toNat a1)))))))), zI (mA m (mR m 717 a0) (Int.toNat (wr ((wr (4 * (wr ((wr (60 * a1)) + (mA m (mR m 718 a0) (Int.toNat a1)))))) + 1))))] m (fun r m7 => ∃ v8 : Int, r = .inl (some (zI v8)) ∧ zW xs xl d cX11_act 11 (none) false [] 176 [zR a0, zI a1, zI (wr (4 * (wr ((wr (60 * a1)) + (mA m (mR m 718 a0) (Int.toNat a1)))))), zI (mA m (mR m 717 a0) (Int.toNat (wr (4 * (wr ((wr (60 * a1)) + (mA m (mR m 718 a0) (Int.toNat a1)))))))), zI (mA m (mR m 717 a0) (Int.toNat (wr ((wr (4 * (wr ((wr (60 * a1)) + (mA m (mR m 718 a0) (Int.toNat a1)))))) + 1)))), zI v8] [] m7 Q)) ∧ (¬ ((mA m (mR m 717 a0) (Int.toNat (wr (4 * (wr ((wr (60 * a1)) + (mA m (mR m 718 a0) (Int.toNat a1)))))))) ≠ 7) → zC xs xl d 154 [zR a0, zI a1] m (fun r m9 => ∃ v10 : Int, r = .inl (some (zI v10)) ∧ zW xs xl d cX11_act 11 (none) false [] 176 [zR a0, zI a1, zI (wr (4 * (wr ((wr (60 * a1)) + (mA m (mR m 718 a0) (Int.toNat a1)))))), zI (mA m (mR m 717 a0) (Int.toNat (wr (4 * (wr ((wr (60 * a1)) + (mA m (mR m 718 a0) (Int.toNat a1)))))))), zI (mA m (mR m 717 a0) (Int.toNat (wr ((wr (4 * (wr ((wr (60 * a1)) + (mA m (mR m 718 a0) (Int.toNat a1)))))) + 1)))), zI v10] [] m9 Q)))) ∧ (¬ ((mA m (mR m 717 a0) (Int.toNat (wr (4 * (wr ((wr (60 * a1)) + (mA m (mR m 718 a0) (Int.toNat a1)))))))) ≠ 5) → zC xs xl d 153 [zR a0, zI a1, zI (wr (4 * (wr ((wr (60 * a1)) + (mA m (mR m 718 a0) (Int.toNat a1))))))] m (fun r m11 => ∃ v12 : Int, r = .inl (some (zI v12)) ∧ zW xs xl d cX11_act 11 (none) false [] 176 [zR a0, zI a1, zI (wr (4 * (wr ((wr (60 * a1)) + (mA m (mR m 718 a0) (Int.toNat a1)))))), zI (mA m (mR m 717 a0) (Int.toNat (wr (4 * (wr ((wr (60 * a1)) + (mA m (mR m 718 a0) (Int.toNat a1)))))))), zI (mA m (mR m 717 a0) (Int.toNat (wr ((wr (4 * (wr ((wr (60 * a1)) + (mA m (mR m 718 a0) (Int.toNat a1)))))) + 1)))), zI v12] [] m11 Q)))) ∧ (¬ ((mA m (mR m 717 a0) (Int.toNat (wr (4 * (wr ((wr (60 * a1)) + (mA m (mR m 718 a0) (Int.toNat a1)))))))) ≠ 2) → (0 ≤ (wr ((wr (4 * (wr ((wr (60 * a1)) + (mA m (mR m 718 a0) (Int.toNat a1)))))) + 2)) ∧ (wr ((wr (4 * (wr ((wr (60 * a1)) + (mA m (mR m 718 a0) (Int.toNat a1)))))) + 2)) < mN m (mR m 717 a0)) ∧ zC xs xl d 149 [zR a0, zI a1, zI (mA m (mR m 717 a0) (Int.toNat (wr ((wr (4 * (wr ((wr (60 * a1)) + (mA m (mR m 718 a0) (Int.toNat a1)))))) + 1)))), zI (mA m (mR m 717 a0) (Int.toNat (wr ((wr (4 * (wr ((wr (60 * a1)) + (mA m (mR m 718 a0) (Int.toNat a1)))))) + 2))))] m (fun r m14 => ∃ v15 : Int, r = .inl (some (zI v15)) ∧ zW xs xl d cX11_act 11 (none) false [] 176 [zR a0, zI a1, zI (wr (4 * (wr ((wr (60 * a1)) + (mA m (mR m 718 a0) (Int.toNat a1)))))), zI (mA m (mR m 717 a0) (Int.toNat (wr (4 * (wr ((wr (60 * a1)) + (mA m (mR m 718 a0) (Int.toNat a1)))))))), zI (mA m (mR m 717 a0) (Int.toNat (wr ((wr (4 * (wr ((wr (60 * a1)) + (mA m (mR m 718 a0) (Int.toNat a1)))))) + 1)))), zI v15] [] m14 Q)))) ∧ (¬ ((mA m (mR m 717 a0) (Int.toNat (wr (4 * (wr ((wr (60 * a1)) + (mA m (mR m 718 a0) (Int.toNat a1)))))))) ≠ 1) → (mC m (mR m 725 a0) = 20) ∧ (0 ≤ a1 ∧ a1 < mN m (mR m 725 a0)) ∧ zW xs xl d cX11_act 11 (none) false [] 176 [zR a0, zI a1, zI (wr (4 * (wr ((wr (60 * a1)) + (mA m (mR m 718 a0) (Int.toNat a1)))))), zI (mA m (mR m 717 a0) (Int.toNat (wr (4 * (wr ((wr (60 * a1)) + (mA m (mR m 718 a0) (Int.toNat a1)))))))), zI (mA m (mR m 717 a0) (Int.toNat (wr ((wr (4 * (wr ((wr (60 * a1)) + (mA m (mR m 718 a0) (Int.toNat a1)))))) + 1)))), zI 1] [] (sA m (mR m 725 a0) (Int.toNat a1) (bAnd (mA m (mR m 725 a0) (Int.toNat a1)) (bXor (bShl 1 (mA m (mR m 717 a0) (Int.toNat (wr ((wr (4 * (wr ((wr (60 * a1)) + (mA m (mR m 718 a0) (Int.toNat a1)))))) + 1))))) (-1)))) Q))) ∧ (¬ ((mA m (mR m 717 a0) (Int.toNat (wr (4 * (wr ((wr (60 * a1)) + (mA m (mR m 718 a0) (Int.toNat a1)))))))) ≠ 0) → (mC m (mR m 725 a0) = 20) ∧ (0 ≤ a1 ∧ a1 < mN m (mR m 725 a0)) ∧ (((bAnd (bShr (mA m (mR m 725 a0) (Int.toNat a1)) (mA m (mR m 717 a0) (Int.toNat (wr ((wr (4 * (wr ((wr (60 * a1)) + (mA m (mR m 718 a0) (Int.toNat a1)))))) + 1))))) 1) ≠ 1 → (mC m (mR m 726 a0) = 20) ∧ (0 ≤ a1 ∧ a1 < mN m (mR m 726 a0)) ∧ (((mA m (mR m 726 a0) (Int.toNat a1)) ≠ (-1) → zW xs xl d cX11_act 11 (none) false [] 176 [zR a0, zI a1, zI (wr (4 * (wr ((wr (60 * a1)) + (mA m (mR m 718 a0) (Int.toNat a1)))))), zI (mA m (mR m 717 a0) (Int.toNat (wr (4 * (wr ((wr (60 * a1)) + (mA m (mR m 718 a0) (Int.toNat a1)))))))), zI (mA m (mR m 717 a0) (Int.toNat (wr ((wr (4 * (wr ((wr (60 * a1)) + (mA m (mR m 718 a0) (Int.toNat a1)))))) + 1)))), zI 0] [] m Q) ∧ (¬ ((mA m (mR m 726 a0) (Int.toNat a1)) ≠ (-1)) → zC xs xl d 142 [zR a0, zI a1, zI (mA m (mR m 717 a0) (Int.toNat (wr ((wr (4 * (wr ((wr (60 * a1)) + (mA m (mR m 718 a0) (Int.toNat a1)))))) + 1)))), zI 0] m (fun r m22 => r = .inl none ∧ zW xs xl d cX11_act 11 (none) false [] 176 [zR a0, zI a1, zI (wr (4 * (wr ((wr (60 * a1)) + (mA m (mR m 718 a0) (Int.toNat a1)))))), zI (mA m (mR m 717 a0) (Int.toNat (wr (4 * (wr ((wr (60 * a1)) + (mA m (mR m 718 a0) (Int.toNat a1)))))))), zI (mA m (mR m 717 a0) (Int.toNat (wr ((wr (4 * (wr ((wr (60 * a1)) + (mA m (mR m 718 a0) (Int.toNat a1)))))) + 1)))), zI 0] [] m22 Q)))) ∧ (¬ ((bAnd (bShr (mA m (mR m 725 a0) (Int.toNat a1)) (mA m (mR m 717 a0) (Int.toNat (wr ((wr (4 * (wr ((wr (60 * a1)) + (mA m (mR m 718 a0) (Int.toNat a1)))))) + 1))))) 1) ≠ 1) → zW xs xl d cX11_act 11 (none) false [] 176 [zR a0, zI a1, zI (wr (4 * (wr ((wr (60 * a1)) + (mA m (mR m 718 a0) (Int.toNat a1)))))), zI (mA m (mR m 717 a0) (Int.toNat (wr (4 * (wr ((wr (60 * a1)) + (mA m (mR m 718 a0) (Int.toNat a1)))))))), zI (mA m (mR m 717 a0) (Int.toNat (wr ((wr (4 * (wr ((wr (60 * a1)) + (mA m (mR m 718 a0) (Int.toNat a1)))))) + 1)))), zI 1] [] m Q))))) : zC xs xl (d + 1) 148 [zR a0, zI a1] m Q := by
  refine zk_148 ?_
  refine (zq_iconst dX11_act_0 (by decide)).mpr ?_
  refine (zq_bipush dX11_act_1 (by decide)).mpr ?_
  refine (zq_iload_n dX11_act_3 rfl).mpr ?_
  refine (zq_imul dX11_act_4).mpr ?_
  refine (zq_aload_n dX11_act_5 rfl).mpr ?_
  obtain ⟨g1, h⟩ := h
  refine (zq_getR2 (f := 718) (v := (mR m 718 a0)) dX11_act_6 fl_11_46 (by decide) rfl rfl (by first | rfl | simp only [zm_Is, zm_Rs, zm_As, zm_Os, zm_In0, zm_Rn0])).mpr ⟨g1, ?_⟩
  refine (zq_iload_n dX11_act_9 rfl).mpr ?_
  obtain ⟨g2, h⟩ := h
  obtain ⟨g3, h⟩ := h
  refine (zq_iald2 (v := (mA m (mR m 718 a0) (Int.toNat a1))) dX11_act_10 (by first | rfl | simp only [zm_Is, zm_Rs, zm_As, zm_Os, zm_In0, zm_Rn0])).mpr ⟨⟨g2, g3⟩, ?_⟩
  refine (zq_iadd dX11_act_11).mpr ?_
  refine (zq_imul dX11_act_12).mpr ?_
  refine (zq_istore_n dX11_act_13 (by simp) rfl).mpr ?_
  refine (zq_aload_n dX11_act_14 rfl).mpr ?_
  refine (zq_getR2 (f := 717) (v := (mR m 717 a0)) dX11_act_15 fl_11_43 (by decide) rfl rfl (by first | rfl | simp only [zm_Is, zm_Rs, zm_As, zm_Os, zm_In0, zm_Rn0])).mpr ⟨g1, ?_⟩
  refine (zq_iload_n dX11_act_18 rfl).mpr ?_
  obtain ⟨g4, h⟩ := h
  obtain ⟨g5, h⟩ := h
  refine (zq_iald2 (v := (mA m (mR m 717 a0) (Int.toNat (wr (4 * (wr ((wr (60 * a1)) + (mA m (mR m 718 a0) (Int.toNat a1))))))))) dX11_act_19 (by first | rfl | simp only [zm_Is, zm_Rs, zm_As, zm_Os, zm_In0, zm_Rn0])).mpr ⟨⟨g4, g5⟩, ?_⟩
  refine (zq_istore_n dX11_act_20 (by simp) rfl).mpr ?_
  refine (zq_aload_n dX11_act_21 rfl).mpr ?_
  refine (zq_getR2 (f := 717) (v := (mR m 717 a0)) dX11_act_22 fl_11_43 (by decide) rfl rfl (by first | rfl | simp only [zm_Is, zm_Rs, zm_As, zm_Os, zm_In0, zm_Rn0])).mpr ⟨g1, ?_⟩
  refine (zq_iload_n dX11_act_25 rfl).mpr ?_
  refine (zq_iconst dX11_act_26 (by decide)).mpr ?_
  refine (zq_iadd dX11_act_27).mpr ?_
  obtain ⟨g6, h⟩ := h
  refine (zq_iald2 (v := (mA m (mR m 717 a0) (Int.toNat (wr ((wr (4 * (wr ((wr (60 * a1)) + (mA m (mR m 718 a0) (Int.toNat a1)))))) + 1))))) dX11_act_28 (by first | rfl | simp only [zm_Is, zm_Rs, zm_As, zm_Os, zm_In0, zm_Rn0])).mpr ⟨⟨g4, g6⟩, ?_⟩
  refine (zq_istore dX11_act_29 (by simp) rfl).mpr ?_
  refine (zq_iload_n dX11_act_31 rfl).mpr ?_
  refine (zq_if_ne (t := 83) dX11_act_32 rfl).mpr ⟨fun c => ?_, fun c => ?_⟩
  · replace h := h.1 c
    refine (zq_iload_n dX11_act_83 rfl).mpr ?_
    refine (zq_iconst dX11_act_84 (by decide)).mpr ?_
    refine (zq_icmp_ne (t := 109) dX11_act_85 rfl).mpr ⟨fun c => ?_, fun c => ?_⟩
    · replace h := h.1 c
      refine (zq_iload_n dX11_act_109 rfl).mpr ?_
      refine (zq_iconst dX11_act_110 (by decide)).mpr ?_
      refine (zq_icmp_ne (t := 134) dX11_act_111 rfl).mpr ⟨fun c => ?_, fun c => ?_⟩
      · replace h := h.1 c
        refine (zq_iload_n dX11_act_134 rfl).mpr ?_
        refine (zq_iconst dX11_act_135 (by decide)).mpr ?_
        refine (zq_icmp_ne (t := 150) dX11_act_136 rfl).mpr ⟨fun c => ?_, fun c => ?_⟩
        · replace h := h.1 c
          refine (zq_iload_n dX11_act_150 rfl).mpr ?_
          refine (zq_bipush dX11_act_151 (by decide)).mpr ?_
          refine (zq_icmp_ne (t := 166) dX11_act_153 rfl).mpr ⟨fun c => ?_, fun c => ?_⟩
          · replace h := h.1 c
            refine (zq_aload_n dX11_act_166 rfl).mpr ?_
            refine (zq_iload_n dX11_act_167 rfl).mpr ?_
            refine (zq_iload_n dX11_act_168 rfl).mpr ?_
            refine (zq_iload dX11_act_169 rfl).mpr ?_
            refine zq_virtualI (n := 3) dX11_act_171 mr_11_193 zn_152 rfl rfl rfl (zrcv_R zo_152 (by decide) g1) (Nat.le_of_ble_eq_true rfl) ?_
            refine h.mono (fun r m7 h => ?_)
            obtain ⟨v8, rfl, h⟩ := h
            refine ⟨_, rfl, ?_⟩
            refine (zq_istore dX11_act_174 (by simp) rfl).mpr ?_
            exact h
          · replace h := h.2 c
            refine (zq_aload_n dX11_act_156 rfl).mpr ?_
            refine (zq_iload_n dX11_act_157 rfl).mpr ?_
            refine zq_virtualI (n := 1) dX11_act_158 mr_11_189 zn_154 rfl rfl rfl (zrcv_R zo_154 (by decide) g1) (Nat.le_of_ble_eq_true rfl) ?_
            refine h.mono (fun r m9 h => ?_)
            obtain ⟨v10, rfl, h⟩ := h
            refine ⟨_, rfl, ?_⟩
            refine (zq_istore dX11_act_161 (by simp) rfl).mpr ?_
            refine (zq_goto (t := 176) dX11_act_163 rfl).mpr ?_
            exact h
        · replace h := h.2 c
          refine (zq_aload_n dX11_act_139 rfl).mpr ?_
          refine (zq_iload_n dX11_act_140 rfl).mpr ?_
          refine (zq_iload_n dX11_act_141 rfl).mpr ?_
          refine zq_virtualI (n := 2) dX11_act_142 mr_11_186 zn_153 rfl rfl rfl (zrcv_R zo_153 (by decide) g1) (Nat.le_of_ble_eq_true rfl) ?_
          refine h.mono (fun r m11 h => ?_)
          obtain ⟨v12, rfl, h⟩ := h
          refine ⟨_, rfl, ?_⟩
          refine (zq_istore dX11_act_145 (by simp) rfl).mpr ?_
          refine (zq_goto (t := 176) dX11_act_147 rfl).mpr ?_
          exact h
      · replace h := h.2 c
        refine (zq_aload_n dX11_act_114 rfl).mpr ?_
        refine (zq_iload_n dX11_act_115 rfl).mpr ?_
        refine (zq_iload dX11_act_116 rfl).mpr ?_
        refine (zq_aload_n dX11_act_118 rfl).mpr ?_
        refine (zq_getR2 (f := 717) (v := (mR m 717 a0)) dX11_act_119 fl_11_43 (by decide) rfl rfl (by first | rfl | simp only [zm_Is, zm_Rs, zm_As, zm_Os, zm_In0, zm_Rn0])).mpr ⟨g1, ?_⟩
        refine (zq_iload_n dX11_act_122 rfl).mpr ?_
        refine (zq_iconst dX11_act_123 (by decide)).mpr ?_
        refine (zq_iadd dX11_act_124).mpr ?_
        obtain ⟨g13, h⟩ := h
        refine (zq_iald2 (v := (mA m (mR m 717 a0) (Int.toNat (wr ((wr (4 * (wr ((wr (60 * a1)) + (mA m (mR m 718 a0) (Int.toNat a1)))))) + 2))))) dX11_act_125 (by first | rfl | simp only [zm_Is, zm_Rs, zm_As, zm_Os, zm_In0, zm_Rn0])).mpr ⟨⟨g4, g13⟩, ?_⟩
        refine zq_virtualI (n := 3) dX11_act_126 mr_11_182 zn_149 rfl rfl rfl (zrcv_R zo_149 (by decide) g1) (Nat.le_of_ble_eq_true rfl) ?_
        refine h.mono (fun r m14 h => ?_)
        obtain ⟨v15, rfl, h⟩ := h
        refine ⟨_, rfl, ?_⟩
        refine (zq_istore dX11_act_129 (by simp) rfl).mpr ?_
        refine (zq_goto (t := 176) dX11_act_131 rfl).mpr ?_
        exact h
    · replace h := h.2 c
      refine (zq_aload_n dX11_act_88 rfl).mpr ?_
      refine (zq_getR2 (f := 725) (v := (mR m 725 a0)) dX11_act_89 fl_11_67 (by decide) rfl rfl (by first | rfl | simp only [zm_Is, zm_Rs, zm_As, zm_Os, zm_In0, zm_Rn0])).mpr ⟨g1, ?_⟩
      refine (zq_iload_n dX11_act_92 rfl).mpr ?_
      refine (zq_dup2IR dX11_act_93).mpr ?_
      obtain ⟨g16, h⟩ := h
      obtain ⟨g17, h⟩ := h
      refine (zq_iald2 (v := (mA m (mR m 725 a0) (Int.toNat a1))) dX11_act_94 (by first | rfl | simp only [zm_Is, zm_Rs, zm_As, zm_Os, zm_In0, zm_Rn0])).mpr ⟨⟨g16, g17⟩, ?_⟩
      refine (zq_iconst dX11_act_95 (by decide)).mpr ?_
      refine (zq_iload dX11_act_96 rfl).mpr ?_
      refine (zq_ishl dX11_act_98).mpr ?_
      refine (zq_iconst dX11_act_99 (by decide)).mpr ?_
      refine (zq_ixor dX11_act_100).mpr ?_
      refine (zq_iand dX11_act_101).mpr ?_
      refine (zq_iast dX11_act_102).mpr ⟨⟨g16, g17⟩, ?_⟩
      refine (zq_iconst dX11_act_103 (by decide)).mpr ?_
      refine (zq_istore dX11_act_104 (by simp) rfl).mpr ?_
      refine (zq_goto (t := 176) dX11_act_106 rfl).mpr ?_
      exact h
  · replace h := h.2 c
    refine (zq_aload_n dX11_act_35 rfl).mpr ?_
    refine (zq_getR2 (f := 725) (v := (mR m 725 a0)) dX11_act_36 fl_11_67 (by decide) rfl rfl (by first | rfl | simp only [zm_Is, zm_Rs, zm_As, zm_Os, zm_In0, zm_Rn0])).mpr ⟨g1, ?_⟩
    refine (zq_iload_n dX11_act_39 rfl).mpr ?_
    obtain ⟨g18, h⟩ := h
    obtain ⟨g19, h⟩ := h
    refine (zq_iald2 (v := (mA m (mR m 725 a0) (Int.toNat a1))) dX11_act_40 (by first | rfl | simp only [zm_Is, zm_Rs, zm_As, zm_Os, zm_In0, zm_Rn0])).mpr ⟨⟨g18, g19⟩, ?_⟩
    refine (zq_iload dX11_act_41 rfl).mpr ?_
    refine (zq_ishr dX11_act_43).mpr ?_
    refine (zq_iconst dX11_act_44 (by decide)).mpr ?_
    refine (zq_iand dX11_act_45).mpr ?_
    refine (zq_iconst dX11_act_46 (by decide)).mpr ?_
    refine (zq_icmp_ne (t := 54) dX11_act_47 rfl).mpr ⟨fun c => ?_, fun c => ?_⟩
    · replace h := h.1 c
      refine (zq_iconst dX11_act_54 (by decide)).mpr ?_
      refine (zq_istore dX11_act_55 (by simp) rfl).mpr ?_
      refine (zq_iload dX11_act_57 rfl).mpr ?_
      refine (zq_if_ne (t := 176) dX11_act_59 rfl).mpr ⟨fun c => absurd c (by decide), fun _ => ?_⟩
      refine (zq_aload_n dX11_act_62 rfl).mpr ?_
      refine (zq_getR2 (f := 726) (v := (mR m 726 a0)) dX11_act_63 fl_11_70 (by decide) rfl rfl (by first | rfl | simp only [zm_Is, zm_Rs, zm_As, zm_Os, zm_In0, zm_Rn0])).mpr ⟨g1, ?_⟩
      refine (zq_iload_n dX11_act_66 rfl).mpr ?_
      obtain ⟨g20, h⟩ := h
      obtain ⟨g21, h⟩ := h
      refine (zq_iald2 (v := (mA m (mR m 726 a0) (Int.toNat a1))) dX11_act_67 (by first | rfl | simp only [zm_Is, zm_Rs, zm_As, zm_Os, zm_In0, zm_Rn0])).mpr ⟨⟨g20, g21⟩, ?_⟩
      refine (zq_iconst dX11_act_68 (by decide)).mpr ?_
      refine (zq_icmp_ne (t := 176) dX11_act_69 rfl).mpr ⟨fun c => ?_, fun c => ?_⟩
      · replace h := h.1 c
        exact h
      · replace h := h.2 c
        refine (zq_aload_n dX11_act_72 rfl).mpr ?_
        refine (zq_iload_n dX11_act_73 rfl).mpr ?_
        refine (zq_iload dX11_act_74 rfl).mpr ?_
        refine (zq_iconst dX11_act_76 (by decide)).mpr ?_
        refine zq_virtualV (n := 3) dX11_act_77 mr_11_178 zn_142 rfl rfl rfl (zrcv_R zo_142 (by decide) g1) (Nat.le_of_ble_eq_true rfl) ?_
        refine h.mono (fun r m22 h => ?_)
        obtain ⟨rfl, h⟩ := h
        refine ⟨rfl, ?_⟩
        refine (zq_goto (t := 176) dX11_act_80 rfl).mpr ?_
        exact h
    · replace h := h.2 c
      refine (zq_iconst dX11_act_50 (by decide)).mpr ?_
      refine (zq_goto (t := 55) dX11_act_51 rfl).mpr ?_
      refine (zq_istore dX11_act_55 (by simp) rfl).mpr ?_
      refine (zq_iload dX11_act_57 rfl).mpr ?_
      refine (zq_if_ne (t := 176) dX11_act_59 rfl).mpr ⟨fun _ => ?_, fun c => absurd (by decide) c⟩
      exact h
theorem bX11_act_176 {a0 : Nat} {a1 : Int} {a2 : Int} {a3 : Int} {a4 : Int} {a5 : Int} (h : ((a5 ≠ 0 → (mC m a0 = 12) ∧ (mC m (mR m 718 a0) = 20) ∧ (0 ≤ a1 ∧ a1 < mN m (mR m 718 a0)) ∧ (0 ≤ a1 ∧ a1 < mN m (mR m 720 a0)) ∧ (mC m (mR m 720 a0) = 20) ∧ (mC m (mR m 716 a0) = 20) ∧ (0 ≤ a1 ∧ a1 < mN m (mR m 716 a0)) ∧ (((mA (sA (sA m (mR m 718 a0) (Int.toNat a1) (wr ((mA m (mR m 718 a0) (Int.toNat a1)) + 1))) (mR m 720 a0) (Int.toNat a1) 0) (mR m 718 a0) (Int.toNat a1)) ≠ (mA (sA (sA m (mR m 718 a0) (Int.toNat a1) (wr ((mA m (mR m 718 a0) (Int.toNat a1)) + 1))) (mR m 720 a0) (Int.toNat a1) 0) (mR m 716 a0) (Int.toNat a1)) → Q (.inl none) (sA (sA m (mR m 718 a0) (Int.toNat a1) (wr ((mA m (mR m 718 a0) (Int.toNat a1)) + 1))) (mR m 720 a0) (Int.toNat a1) 0)) ∧ (¬ ((mA (sA (sA m (mR m 718 a0) (Int.toNat a1) (wr ((mA m (mR m 718 a0) (Int.toNat a1)) + 1))) (mR m 720 a0) (Int.toNat a1) 0) (mR m 718 a0) (Int.toNat a1)) ≠ (mA (sA (sA m (mR m 718 a0) (Int.toNat a1) (wr ((mA m (mR m 718 a0) (Int.toNat a1)) + 1))) (mR m 720 a0) (Int.toNat a1) 0) (mR m 716 a0) (Int.toNat a1))) → zC xs xl d 157 [zR a0, zI a1] (sA (sA m (mR m 718 a0) (Int.toNat a1) (wr ((mA m (mR m 718 a0) (Int.toNat a1)) + 1))) (mR m 720 a0) (Int.toNat a1) 0) (fun r m8 => r = .inl none ∧ Q (.inl none) m8)))) ∧ (¬ (a5 ≠ 0) → Q (.inl none) m))) : zW xs xl d cX11_act 11 (none) false [] 176 [zR a0, zI a1, zI a2, zI a3, zI a4, zI a5] [] m Q := by
  refine (zq_iload dX11_act_176 rfl).mpr ?_
  refine (zq_if_ne (t := 182) dX11_act_178 rfl).mpr ⟨fun c => ?_, fun c => ?_⟩
  · replace h := h.1 c
    refine (zq_aload_n dX11_act_182 rfl).mpr ?_
    obtain ⟨g1, h⟩ := h
    refine (zq_getR2 (f := 718) (v := (mR m 718 a0)) dX11_act_183 fl_11_46 (by decide) rfl rfl (by first | rfl | simp only [zm_Is, zm_Rs, zm_As, zm_Os, zm_In0, zm_Rn0])).mpr ⟨g1, ?_⟩
    refine (zq_iload_n dX11_act_186 rfl).mpr ?_
    refine (zq_dup2IR dX11_act_187).mpr ?_
    obtain ⟨g2, h⟩ := h
    obtain ⟨g3, h⟩ := h
    refine (zq_iald2 (v := (mA m (mR m 718 a0) (Int.toNat a1))) dX11_act_188 (by first | rfl | simp only [zm_Is, zm_Rs, zm_As, zm_Os, zm_In0, zm_Rn0])).mpr ⟨⟨g2, g3⟩, ?_⟩
    refine (zq_iconst dX11_act_189 (by decide)).mpr ?_
    refine (zq_iadd dX11_act_190).mpr ?_
    refine (zq_iast dX11_act_191).mpr ⟨⟨g2, g3⟩, ?_⟩
    refine (zq_aload_n dX11_act_192 rfl).mpr ?_
    refine (zq_getR2 (f := 720) (v := (mR m 720 a0)) dX11_act_193 fl_11_52 (by decide) rfl rfl (by first | rfl | simp only [zm_Is, zm_Rs, zm_As, zm_Os, zm_In0, zm_Rn0])).mpr ⟨g1, ?_⟩
    refine (zq_iload_n dX11_act_196 rfl).mpr ?_
    refine (zq_iconst dX11_act_197 (by decide)).mpr ?_
    obtain ⟨g4, h⟩ := h
    obtain ⟨g5, h⟩ := h
    refine (zq_iast dX11_act_198).mpr ⟨⟨g5, g4⟩, ?_⟩
    refine (zq_aload_n dX11_act_199 rfl).mpr ?_
    refine (zq_getR2 (f := 718) (v := (mR m 718 a0)) dX11_act_200 fl_11_46 (by decide) rfl rfl (by first | rfl | simp only [zm_Is, zm_Rs, zm_As, zm_Os, zm_In0, zm_Rn0])).mpr ⟨g1, ?_⟩
    refine (zq_iload_n dX11_act_203 rfl).mpr ?_
    refine (zq_iald2 (v := (mA (sA (sA m (mR m 718 a0) (Int.toNat a1) (wr ((mA m (mR m 718 a0) (Int.toNat a1)) + 1))) (mR m 720 a0) (Int.toNat a1) 0) (mR m 718 a0) (Int.toNat a1))) dX11_act_204 (by first | rfl | simp only [zm_Is, zm_Rs, zm_As, zm_Os, zm_In0, zm_Rn0])).mpr ⟨⟨g2, g3⟩, ?_⟩
    refine (zq_aload_n dX11_act_205 rfl).mpr ?_
    refine (zq_getR2 (f := 716) (v := (mR m 716 a0)) dX11_act_206 fl_11_40 (by decide) rfl rfl (by first | rfl | simp only [zm_Is, zm_Rs, zm_As, zm_Os, zm_In0, zm_Rn0])).mpr ⟨g1, ?_⟩
    refine (zq_iload_n dX11_act_209 rfl).mpr ?_
    obtain ⟨g6, h⟩ := h
    obtain ⟨g7, h⟩ := h
    refine (zq_iald2 (v := (mA (sA (sA m (mR m 718 a0) (Int.toNat a1) (wr ((mA m (mR m 718 a0) (Int.toNat a1)) + 1))) (mR m 720 a0) (Int.toNat a1) 0) (mR m 716 a0) (Int.toNat a1))) dX11_act_210 (by first | rfl | simp only [zm_Is, zm_Rs, zm_As, zm_Os, zm_In0, zm_Rn0])).mpr ⟨⟨g6, g7⟩, ?_⟩
    refine (zq_icmp_ne (t := 219) dX11_act_211 rfl).mpr ⟨fun c => ?_, fun c => ?_⟩
    · replace h := h.1 c
      exact (zq_ret dX11_act_219 rfl).mpr h
    · replace h := h.2 c
      refine (zq_aload_n dX11_act_214 rfl).mpr ?_
      refine (zq_iload_n dX11_act_215 rfl).mpr ?_
      refine zq_virtualV (n := 1) dX11_act_216 mr_11_196 zn_157 rfl rfl rfl (zrcv_R zo_157 (by decide) g1) (Nat.le_of_ble_eq_true rfl) ?_
      refine h.mono (fun r m8 h => ?_)
      obtain ⟨rfl, h⟩ := h
      refine ⟨rfl, ?_⟩
      exact (zq_ret dX11_act_219 rfl).mpr h
  · replace h := h.2 c
    exact (zq_ret dX11_act_181 rfl).mpr h
theorem bX11_cut_0 {a0 : Nat} {a1 : Int} {a2 : Int} {a3 : Int} (h : (mC m a0 = 12) ∧ zC xs xl d 136 [zR a0, zI a2, zI a3] m (fun r m1 => ∃ v2 : Int, r = .inl (some (zI v2)) ∧ ((v2 ≠ (-1) → (mC m1 a0 = 12) ∧ (0 ≤ a1 ∧ a1 < mN m1 (mR m1 729 a0)) ∧ ((mC m1 (mR m1 729 a0) = 21 ∧ (1 = 0 ∨ 1 = 1)) ∨ (mC m1 (mR m1 729 a0) = 22 ∧ -128 ≤ 1 ∧ 1 ≤ 127)) ∧ (0 ≤ a1 ∧ a1 < mN m1 (mR m1 730 a0)) ∧ (mC m1 (mR m1 730 a0) = 20) ∧ (mC m1 (mR m1 708 a0) = 20) ∧ (0 ≤ v2 ∧ v2 < mN m1 (mR m1 708 a0)) ∧ (0 ≤ a1 ∧ a1 < mN m1 (mR m1 731 a0)) ∧ (mC m1 (mR m1 731 a0) = 20) ∧ (0 ≤ a1 ∧ a1 < mN m1 (mR m1 732 a0)) ∧ (mC m1 (mR m1 732 a0) = 20) ∧ (0 ≤ a1 ∧ a1 < mN m1 (mR m1 733 a0)) ∧ (mC m1 (mR m1 733 a0) = 20) ∧ zW xs xl d cX11_cut 11 (some .boolean) false [] 61 [zR a0, zI a1, zI a2, zI a3, zI v2, zI 0] [] (sA (sA (sA (sA (sA m1 (mR m1 729 a0) (Int.toNat a1) 1) (mR m1 730 a0) (Int.toNat a1) a2) (mR m1 731 a0) (Int.toNat a1) (mA (sA (sA m1 (mR m1 729 a0) (Int.toNat a1) 1) (mR m1 730 a0) (Int.toNat a1) a2) (mR m1 708 a0) (Int.toNat v2))) (mR m1 732 a0) (Int.toNat a1) 20) (mR m1 733 a0) (Int.toNat a1) 0) Q) ∧ (¬ (v2 ≠ (-1)) → Q (.inl (some (zI 0))) m1)))) : zC xs xl (d + 1) 149 [zR a0, zI a1, zI a2, zI a3] m Q := by
  refine zk_149 ?_
  refine (zq_aload_n dX11_cut_0 rfl).mpr ?_
  refine (zq_iload_n dX11_cut_1 rfl).mpr ?_
  refine (zq_iload_n dX11_cut_2 rfl).mpr ?_
  obtain ⟨g3, h⟩ := h
  refine zq_virtualI (n := 2) dX11_cut_3 mr_11_199 zn_136 rfl rfl rfl (zrcv_R zo_136 (by decide) g3) (Nat.le_of_ble_eq_true rfl) ?_
  refine h.mono (fun r m1 h => ?_)
  obtain ⟨v2, rfl, h⟩ := h
  refine ⟨_, rfl, ?_⟩
  refine (zq_istore dX11_cut_6 (by simp) rfl).mpr ?_
  refine (zq_iload dX11_cut_8 rfl).mpr ?_
  refine (zq_iconst dX11_cut_10 (by decide)).mpr ?_
  refine (zq_icmp_ne (t := 16) dX11_cut_11 rfl).mpr ⟨fun c => ?_, fun c => ?_⟩
  · replace h := h.1 c
    refine (zq_aload_n dX11_cut_16 rfl).mpr ?_
    obtain ⟨g4, h⟩ := h
    refine (zq_getR2 (f := 729) (v := (mR m1 729 a0)) dX11_cut_17 fl_11_79 (by decide) rfl rfl (by first | rfl | simp only [zm_Is, zm_Rs, zm_As, zm_Os, zm_In0, zm_Rn0])).mpr ⟨g4, ?_⟩
    refine (zq_iload_n dX11_cut_20 rfl).mpr ?_
    refine (zq_iconst dX11_cut_21 (by decide)).mpr ?_
    obtain ⟨g5, h⟩ := h
    obtain ⟨g6, h⟩ := h
    refine (zq_bast dX11_cut_22).mpr ⟨⟨g6, g5⟩, ?_⟩
    refine (zq_aload_n dX11_cut_23 rfl).mpr ?_
    refine (zq_getR2 (f := 730) (v := (mR m1 730 a0)) dX11_cut_24 fl_11_82 (by decide) rfl rfl (by first | rfl | simp only [zm_Is, zm_Rs, zm_As, zm_Os, zm_In0, zm_Rn0])).mpr ⟨g4, ?_⟩
    refine (zq_iload_n dX11_cut_27 rfl).mpr ?_
    refine (zq_iload_n dX11_cut_28 rfl).mpr ?_
    obtain ⟨g7, h⟩ := h
    obtain ⟨g8, h⟩ := h
    refine (zq_iast dX11_cut_29).mpr ⟨⟨g8, g7⟩, ?_⟩
    refine (zq_aload_n dX11_cut_30 rfl).mpr ?_
    refine (zq_getR2 (f := 731) (v := (mR m1 731 a0)) dX11_cut_31 fl_11_85 (by decide) rfl rfl (by first | rfl | simp only [zm_Is, zm_Rs, zm_As, zm_Os, zm_In0, zm_Rn0])).mpr ⟨g4, ?_⟩
    refine (zq_iload_n dX11_cut_34 rfl).mpr ?_
    refine (zq_aload_n dX11_cut_35 rfl).mpr ?_
    refine (zq_getR2 (f := 708) (v := (mR m1 708 a0)) dX11_cut_36 fl_11_18 (by decide) rfl rfl (by first | rfl | simp only [zm_Is, zm_Rs, zm_As, zm_Os, zm_In0, zm_Rn0])).mpr ⟨g4, ?_⟩
    refine (zq_iload dX11_cut_39 rfl).mpr ?_
    obtain ⟨g9, h⟩ := h
    obtain ⟨g10, h⟩ := h
    refine (zq_iald2 (v := (mA (sA (sA m1 (mR m1 729 a0) (Int.toNat a1) 1) (mR m1 730 a0) (Int.toNat a1) a2) (mR m1 708 a0) (Int.toNat v2))) dX11_cut_41 (by first | rfl | simp only [zm_Is, zm_Rs, zm_As, zm_Os, zm_In0, zm_Rn0])).mpr ⟨⟨g9, g10⟩, ?_⟩
    obtain ⟨g11, h⟩ := h
    obtain ⟨g12, h⟩ := h
    refine (zq_iast dX11_cut_42).mpr ⟨⟨g12, g11⟩, ?_⟩
    refine (zq_aload_n dX11_cut_43 rfl).mpr ?_
    refine (zq_getR2 (f := 732) (v := (mR m1 732 a0)) dX11_cut_44 fl_11_88 (by decide) rfl rfl (by first | rfl | simp only [zm_Is, zm_Rs, zm_As, zm_Os, zm_In0, zm_Rn0])).mpr ⟨g4, ?_⟩
    refine (zq_iload_n dX11_cut_47 rfl).mpr ?_
    refine (zq_bipush dX11_cut_48 (by decide)).mpr ?_
    obtain ⟨g13, h⟩ := h
    obtain ⟨g14, h⟩ := h
    refine (zq_iast dX11_cut_50).mpr ⟨⟨g14, g13⟩, ?_⟩
    refine (zq_aload_n dX11_cut_51 rfl).mpr ?_
    refine (zq_getR2 (f := 733) (v := (mR m1 733 a0)) dX11_cut_52 fl_11_91 (by decide) rfl rfl (by first | rfl | simp only [zm_Is, zm_Rs, zm_As, zm_Os, zm_In0, zm_Rn0])).mpr ⟨g4, ?_⟩
    refine (zq_iload_n dX11_cut_55 rfl).mpr ?_
    refine (zq_iconst dX11_cut_56 (by decide)).mpr ?_
    obtain ⟨g15, h⟩ := h
    obtain ⟨g16, h⟩ := h
    refine (zq_iast dX11_cut_57).mpr ⟨⟨g16, g15⟩, ?_⟩
    refine (zq_iconst dX11_cut_58 (by decide)).mpr ?_
    refine (zq_istore dX11_cut_59 (by simp) rfl).mpr ?_
    exact h
  · replace h := h.2 c
    refine (zq_iconst dX11_cut_14 (by decide)).mpr ?_
    exact (zq_iret dX11_cut_15 rfl).mpr ⟨by decide, h⟩
theorem bX11_cut_61 {a0 : Nat} {a1 : Int} {a2 : Int} {a3 : Int} {a4 : Int} {a5 : Int} (h : ((3 ≤ a5 → (mC m a0 = 12) ∧ (mC m (mR m 718 a0) = 20) ∧ (0 ≤ a1 ∧ a1 < mN m (mR m 718 a0)) ∧ (0 ≤ a1 ∧ a1 < mN m (mR m 719 a0)) ∧ (mC m (mR m 719 a0) = 20) ∧ zC xs xl d 134 [zR a0, zI a4, zI a3] (sA m (mR m 719 a0) (Int.toNat a1) (mA m (mR m 718 a0) (Int.toNat a1))) (fun r m6 => ∃ v7 : Int, r = .inl (some (zI v7)) ∧ (mC m6 a0 = 12) ∧ zC xs xl d 139 [zR a0, zI a4, zI v7, zI a3] m6 (fun r m8 => r = .inl none ∧ Q (.inl (some (zI 1))) m8))) ∧ (¬ (3 ≤ a5) → (mC m a0 = 12) ∧ (0 ≤ (wr ((wr (3 * a1)) + a5)) ∧ (wr ((wr (3 * a1)) + a5)) < mN m (mR m 734 a0)) ∧ (mC m (mR m 734 a0) = 20) ∧ (0 ≤ (wr ((wr (3 * a1)) + a5)) ∧ (wr ((wr (3 * a1)) + a5)) < mN m (mR m 735 a0)) ∧ (mC m (mR m 735 a0) = 20) ∧ zW xs xl d cX11_cut 11 (some .boolean) false [] 61 [zR a0, zI a1, zI a2, zI a3, zI a4, zI (wr (a5 + 1))] [] (sA (sA m (mR m 734 a0) (Int.toNat (wr ((wr (3 * a1)) + a5))) 0) (mR m 735 a0) (Int.toNat (wr ((wr (3 * a1)) + a5))) 0) Q))) : zW xs xl d cX11_cut 11 (some .boolean) false [] 61 [zR a0, zI a1, zI a2, zI a3, zI a4, zI a5] [] m Q := by
  refine (zq_iload dX11_cut_61 rfl).mpr ?_
  refine (zq_iconst dX11_cut_63 (by decide)).mpr ?_
  refine (zq_icmp_ge (t := 97) dX11_cut_64 rfl).mpr ⟨fun c => ?_, fun c => ?_⟩
  · replace h := h.1 c
    refine (zq_aload_n dX11_cut_97 rfl).mpr ?_
    obtain ⟨g1, h⟩ := h
    refine (zq_getR2 (f := 719) (v := (mR m 719 a0)) dX11_cut_98 fl_11_49 (by decide) rfl rfl (by first | rfl | simp only [zm_Is, zm_Rs, zm_As, zm_Os, zm_In0, zm_Rn0])).mpr ⟨g1, ?_⟩
    refine (zq_iload_n dX11_cut_101 rfl).mpr ?_
    refine (zq_aload_n dX11_cut_102 rfl).mpr ?_
    refine (zq_getR2 (f := 718) (v := (mR m 718 a0)) dX11_cut_103 fl_11_46 (by decide) rfl rfl (by first | rfl | simp only [zm_Is, zm_Rs, zm_As, zm_Os, zm_In0, zm_Rn0])).mpr ⟨g1, ?_⟩
    refine (zq_iload_n dX11_cut_106 rfl).mpr ?_
    obtain ⟨g2, h⟩ := h
    obtain ⟨g3, h⟩ := h
    refine (zq_iald2 (v := (mA m (mR m 718 a0) (Int.toNat a1))) dX11_cut_107 (by first | rfl | simp only [zm_Is, zm_Rs, zm_As, zm_Os, zm_In0, zm_Rn0])).mpr ⟨⟨g2, g3⟩, ?_⟩
    obtain ⟨g4, h⟩ := h
    obtain ⟨g5, h⟩ := h
    refine (zq_iast dX11_cut_108).mpr ⟨⟨g5, g4⟩, ?_⟩
    refine (zq_aload_n dX11_cut_109 rfl).mpr ?_
    refine (zq_iload dX11_cut_110 rfl).mpr ?_
    refine (zq_aload_n dX11_cut_112 rfl).mpr ?_
    refine (zq_iload dX11_cut_113 rfl).mpr ?_
    refine (zq_iload_n dX11_cut_115 rfl).mpr ?_
    refine zq_virtualI (n := 2) dX11_cut_116 mr_11_145 zn_134 rfl rfl rfl (zrcv_R zo_134 (by decide) g1) (Nat.le_of_ble_eq_true rfl) ?_
    refine h.mono (fun r m6 h => ?_)
    obtain ⟨v7, rfl, h⟩ := h
    refine ⟨_, rfl, ?_⟩
    refine (zq_iload_n dX11_cut_119 rfl).mpr ?_
    obtain ⟨g10, h⟩ := h
    refine zq_virtualV (n := 3) dX11_cut_120 mr_11_202 zn_139 rfl rfl rfl (zrcv_R zo_139 (by decide) g10) (Nat.le_of_ble_eq_true rfl) ?_
    refine h.mono (fun r m8 h => ?_)
    obtain ⟨rfl, h⟩ := h
    refine ⟨rfl, ?_⟩
    refine (zq_iconst dX11_cut_123 (by decide)).mpr ?_
    exact (zq_iret dX11_cut_124 rfl).mpr ⟨by decide, h⟩
  · replace h := h.2 c
    refine (zq_aload_n dX11_cut_67 rfl).mpr ?_
    obtain ⟨g11, h⟩ := h
    refine (zq_getR2 (f := 734) (v := (mR m 734 a0)) dX11_cut_68 fl_11_94 (by decide) rfl rfl (by first | rfl | simp only [zm_Is, zm_Rs, zm_As, zm_Os, zm_In0, zm_Rn0])).mpr ⟨g11, ?_⟩
    refine (zq_iconst dX11_cut_71 (by decide)).mpr ?_
    refine (zq_iload_n dX11_cut_72 rfl).mpr ?_
    refine (zq_imul dX11_cut_73).mpr ?_
    refine (zq_iload dX11_cut_74 rfl).mpr ?_
    refine (zq_iadd dX11_cut_76).mpr ?_
    refine (zq_iconst dX11_cut_77 (by decide)).mpr ?_
    obtain ⟨g12, h⟩ := h
    obtain ⟨g13, h⟩ := h
    refine (zq_iast dX11_cut_78).mpr ⟨⟨g13, g12⟩, ?_⟩
    refine (zq_aload_n dX11_cut_79 rfl).mpr ?_
    refine (zq_getR2 (f := 735) (v := (mR m 735 a0)) dX11_cut_80 fl_11_97 (by decide) rfl rfl (by first | rfl | simp only [zm_Is, zm_Rs, zm_As, zm_Os, zm_In0, zm_Rn0])).mpr ⟨g11, ?_⟩
    refine (zq_iconst dX11_cut_83 (by decide)).mpr ?_
    refine (zq_iload_n dX11_cut_84 rfl).mpr ?_
    refine (zq_imul dX11_cut_85).mpr ?_
    refine (zq_iload dX11_cut_86 rfl).mpr ?_
    refine (zq_iadd dX11_cut_88).mpr ?_
    refine (zq_iconst dX11_cut_89 (by decide)).mpr ?_
    obtain ⟨g14, h⟩ := h
    obtain ⟨g15, h⟩ := h
    refine (zq_iast dX11_cut_90).mpr ⟨⟨g15, g14⟩, ?_⟩
    refine (zq_iinc dX11_cut_91 rfl rfl).mpr ?_
    refine (zq_goto (t := 61) dX11_cut_94 rfl).mpr ?_
    exact h
theorem bX11_warm_0 {a0 : Nat} {a1 : Int} {a2 : Int} (h : (mC m a0 = 12) ∧ (mC m (mR m 732 a0) = 20) ∧ (0 ≤ a1 ∧ a1 < mN m (mR m 732 a0)) ∧ Q (.inl none) (sA m (mR m 732 a0) (Int.toNat a1) (if 20 < (if (wr ((mA m (mR m 732 a0) (Int.toNat a1)) + a2)) < 200 then (wr ((mA m (mR m 732 a0) (Int.toNat a1)) + a2)) else 200) then (if (wr ((mA m (mR m 732 a0) (Int.toNat a1)) + a2)) < 200 then (wr ((mA m (mR m 732 a0) (Int.toNat a1)) + a2)) else 200) else 20))) : zC xs xl (d + 1) 150 [zR a0, zI a1, zI a2] m Q := by
  refine zk_150 ?_
  refine (zq_aload_n dX11_warm_0 rfl).mpr ?_
  obtain ⟨g1, h⟩ := h
  refine (zq_getR2 (f := 732) (v := (mR m 732 a0)) dX11_warm_1 fl_11_88 (by decide) rfl rfl (by first | rfl | simp only [zm_Is, zm_Rs, zm_As, zm_Os, zm_In0, zm_Rn0])).mpr ⟨g1, ?_⟩
  refine (zq_iload_n dX11_warm_4 rfl).mpr ?_
  refine (zq_bipush dX11_warm_5 (by decide)).mpr ?_
  refine (zq_sipush dX11_warm_7 (by decide)).mpr ?_
  refine (zq_aload_n dX11_warm_10 rfl).mpr ?_
  refine (zq_getR2 (f := 732) (v := (mR m 732 a0)) dX11_warm_11 fl_11_88 (by decide) rfl rfl (by first | rfl | simp only [zm_Is, zm_Rs, zm_As, zm_Os, zm_In0, zm_Rn0])).mpr ⟨g1, ?_⟩
  refine (zq_iload_n dX11_warm_14 rfl).mpr ?_
  obtain ⟨g2, h⟩ := h
  obtain ⟨g3, h⟩ := h
  refine (zq_iald2 (v := (mA m (mR m 732 a0) (Int.toNat a1))) dX11_warm_15 (by first | rfl | simp only [zm_Is, zm_Rs, zm_As, zm_Os, zm_In0, zm_Rn0])).mpr ⟨⟨g2, g3⟩, ?_⟩
  refine (zq_iload_n dX11_warm_16 rfl).mpr ?_
  refine (zq_iadd dX11_warm_17).mpr ?_
  refine (zq_min dX11_warm_18 mr_11_206).mpr ⟨(Nat.le_of_ble_eq_true rfl), ?_⟩
  refine (zq_max dX11_warm_21 mr_11_139).mpr ⟨(Nat.le_of_ble_eq_true rfl), ?_⟩
  refine (zq_iast dX11_warm_24).mpr ⟨⟨g2, g3⟩, ?_⟩
  exact (zq_ret dX11_warm_25 rfl).mpr h
theorem bX11_moisten_0 {a0 : Nat} {a1 : Int} {a2 : Int} (h : (mC m a0 = 12) ∧ (mC m (mR m 731 a0) = 20) ∧ (0 ≤ a1 ∧ a1 < mN m (mR m 731 a0)) ∧ Q (.inl none) (sA m (mR m 731 a0) (Int.toNat a1) (if 0 < (if (wr ((mA m (mR m 731 a0) (Int.toNat a1)) + a2)) < 100 then (wr ((mA m (mR m 731 a0) (Int.toNat a1)) + a2)) else 100) then (if (wr ((mA m (mR m 731 a0) (Int.toNat a1)) + a2)) < 100 then (wr ((mA m (mR m 731 a0) (Int.toNat a1)) + a2)) else 100) else 0))) : zC xs xl (d + 1) 151 [zR a0, zI a1, zI a2] m Q := by
  refine zk_151 ?_
  refine (zq_aload_n dX11_moisten_0 rfl).mpr ?_
  obtain ⟨g1, h⟩ := h
  refine (zq_getR2 (f := 731) (v := (mR m 731 a0)) dX11_moisten_1 fl_11_85 (by decide) rfl rfl (by first | rfl | simp only [zm_Is, zm_Rs, zm_As, zm_Os, zm_In0, zm_Rn0])).mpr ⟨g1, ?_⟩
  refine (zq_iload_n dX11_moisten_4 rfl).mpr ?_
  refine (zq_iconst dX11_moisten_5 (by decide)).mpr ?_
  refine (zq_bipush dX11_moisten_6 (by decide)).mpr ?_
  refine (zq_aload_n dX11_moisten_8 rfl).mpr ?_
  refine (zq_getR2 (f := 731) (v := (mR m 731 a0)) dX11_moisten_9 fl_11_85 (by decide) rfl rfl (by first | rfl | simp only [zm_Is, zm_Rs, zm_As, zm_Os, zm_In0, zm_Rn0])).mpr ⟨g1, ?_⟩
  refine (zq_iload_n dX11_moisten_12 rfl).mpr ?_
  obtain ⟨g2, h⟩ := h
  obtain ⟨g3, h⟩ := h
  refine (zq_iald2 (v := (mA m (mR m 731 a0) (Int.toNat a1))) dX11_moisten_13 (by first | rfl | simp only [zm_Is, zm_Rs, zm_As, zm_Os, zm_In0, zm_Rn0])).mpr ⟨⟨g2, g3⟩, ?_⟩
  refine (zq_iload_n dX11_moisten_14 rfl).mpr ?_
  refine (zq_iadd dX11_moisten_15).mpr ?_
  refine (zq_min dX11_moisten_16 mr_11_206).mpr ⟨(Nat.le_of_ble_eq_true rfl), ?_⟩
  refine (zq_max dX11_moisten_19 mr_11_139).mpr ⟨(Nat.le_of_ble_eq_true rfl), ?_⟩
  refine (zq_iast dX11_moisten_22).mpr ⟨⟨g2, g3⟩, ?_⟩
  exact (zq_ret dX11_moisten_23 rfl).mpr h
theorem bX11_treat_0 {a0 : Nat} {a1 : Int} {a2 : Int} {a3 : Int} (h : ((a2 ≠ 3 → ((a2 ≠ 4 → zW xs xl d cX11_treat 11 (some .boolean) false [] 24 [zR a0, zI a1, zI a2, zI a3] [zI (-15), zI a1, zR a0] m Q) ∧ (¬ (a2 ≠ 4) → zW xs xl d cX11_treat 11 (some .boolean) false [] 24 [zR a0, zI a1, zI a2, zI a3] [zI 25, zI a1, zR a0] m Q))) ∧ (¬ (a2 ≠ 3) → zW xs xl d cX11_treat 11 (some .boolean) false [] 24 [zR a0, zI a1, zI a2, zI a3] [zI (-10), zI a1, zR a0] m Q))) : zC xs xl (d + 1) 152 [zR a0, zI a1, zI a2, zI a3] m Q := by
  refine zk_152 ?_
  refine (zq_aload_n dX11_treat_0 rfl).mpr ?_
  refine (zq_iload_n dX11_treat_1 rfl).mpr ?_
  refine (zq_iload_n dX11_treat_2 rfl).mpr ?_
  refine (zq_iconst dX11_treat_3 (by decide)).mpr ?_
  refine (zq_icmp_ne (t := 12) dX11_treat_4 rfl).mpr ⟨fun c => ?_, fun c => ?_⟩
  · replace h := h.1 c
    refine (zq_iload_n dX11_treat_12 rfl).mpr ?_
    refine (zq_iconst dX11_treat_13 (by decide)).mpr ?_
    refine (zq_icmp_ne (t := 22) dX11_treat_14 rfl).mpr ⟨fun c => ?_, fun c => ?_⟩
    · replace h := h.1 c
      refine (zq_bipush dX11_treat_22 (by decide)).mpr ?_
      exact h
    · replace h := h.2 c
      refine (zq_bipush dX11_treat_17 (by decide)).mpr ?_
      refine (zq_goto (t := 24) dX11_treat_19 rfl).mpr ?_
      exact h
  · replace h := h.2 c
    refine (zq_bipush dX11_treat_7 (by decide)).mpr ?_
    refine (zq_goto (t := 24) dX11_treat_9 rfl).mpr ?_
    exact h
theorem bX11_treat_24 {a0 : Nat} {a1 : Int} {a2 : Int} {a3 : Int} {s0 : Nat} {s1 : Int} {s2 : Int} (h : (mC m s0 = 12) ∧ zC xs xl d 150 [zR s0, zI s1, zI s2] m (fun r m1 => r = .inl none ∧ ((a2 ≠ 3 → ((a2 ≠ 4 → (mC m1 a0 = 12) ∧ zC xs xl d 151 [zR a0, zI a1, zI (-4)] m1 (fun r m4 => r = .inl none ∧ ((a2 ≠ 4 → zW xs xl d cX11_treat 11 (some .boolean) false [] 88 [zR a0, zI a1, zI a2, zI a3] [] m4 Q) ∧ (¬ (a2 ≠ 4) → (mC m4 a0 = 12) ∧ (mC m4 (mR m4 732 a0) = 20) ∧ (0 ≤ a1 ∧ a1 < mN m4 (mR m4 732 a0)) ∧ (((mA m4 (mR m4 732 a0) (Int.toNat a1)) ≤ 150 → zW xs xl d cX11_treat 11 (some .boolean) false [] 88 [zR a0, zI a1, zI a2, zI a3] [] m4 Q) ∧ (¬ ((mA m4 (mR m4 732 a0) (Int.toNat a1)) ≤ 150) → (mC m4 (mR m4 731 a0) = 20) ∧ (0 ≤ a1 ∧ a1 < mN m4 (mR m4 731 a0)) ∧ ((10 ≤ (mA m4 (mR m4 731 a0) (Int.toNat a1)) → zW xs xl d cX11_treat 11 (some .boolean) false [] 88 [zR a0, zI a1, zI a2, zI a3] [] m4 Q) ∧ (¬ (10 ≤ (mA m4 (mR m4 731 a0) (Int.toNat a1))) → zC xs xl d 156 [zR a0, zI a1] m4 (fun r m12 => ∃ v13 : Int, r = .inl (some (zI v13)) ∧ (v13 = 0 ∨ v13 = 1) ∧ Q (.inl (some (zI v13))) m12))))))))) ∧ (¬ (a2 ≠ 4) → (mC m1 a0 = 12) ∧ zC xs xl d 151 [zR a0, zI a1, zI (-3)] m1 (fun r m15 => r = .inl none ∧ ((a2 ≠ 4 → zW xs xl d cX11_treat 11 (some .boolean) false [] 88 [zR a0, zI a1, zI a2, zI a3] [] m15 Q) ∧ (¬ (a2 ≠ 4) → (mC m15 a0 = 12) ∧ (mC m15 (mR m15 732 a0) = 20) ∧ (0 ≤ a1 ∧ a1 < mN m15 (mR m15 732 a0)) ∧ (((mA m15 (mR m15 732 a0) (Int.toNat a1)) ≤ 150 → zW xs xl d cX11_treat 11 (some .boolean) false [] 88 [zR a0, zI a1, zI a2, zI a3] [] m15 Q) ∧ (¬ ((mA m15 (mR m15 732 a0) (Int.toNat a1)) ≤ 150) → (mC m15 (mR m15 731 a0) = 20) ∧ (0 ≤ a1 ∧ a1 < mN m15 (mR m15 731 a0)) ∧ ((10 ≤ (mA m15 (mR m15 731 a0) (Int.toNat a1)) → zW xs xl d cX11_treat 11 (some .boolean) false [] 88 [zR a0, zI a1, zI a2, zI a3] [] m15 Q) ∧ (¬ (10 ≤ (mA m15 (mR m15 731 a0) (Int.toNat a1))) → zC xs xl d 156 [zR a0, zI a1] m15 (fun r m23 => ∃ v24 : Int, r = .inl (some (zI v24)) ∧ (v24 = 0 ∨ v24 = 1) ∧ Q (.inl (some (zI v24))) m23))))))))))) ∧ (¬ (a2 ≠ 3) → (mC m1 a0 = 12) ∧ zC xs xl d 151 [zR a0, zI a1, zI 8] m1 (fun r m26 => r = .inl none ∧ ((a2 ≠ 4 → zW xs xl d cX11_treat 11 (some .boolean) false [] 88 [zR a0, zI a1, zI a2, zI a3] [] m26 Q) ∧ (¬ (a2 ≠ 4) → (mC m26 a0 = 12) ∧ (mC m26 (mR m26 732 a0) = 20) ∧ (0 ≤ a1 ∧ a1 < mN m26 (mR m26 732 a0)) ∧ (((mA m26 (mR m26 732 a0) (Int.toNat a1)) ≤ 150 → zW xs xl d cX11_treat 11 (some .boolean) false [] 88 [zR a0, zI a1, zI a2, zI a3] [] m26 Q) ∧ (¬ ((mA m26 (mR m26 732 a0) (Int.toNat a1)) ≤ 150) → (mC m26 (mR m26 731 a0) = 20) ∧ (0 ≤ a1 ∧ a1 < mN m26 (mR m26 731 a0)) ∧ ((10 ≤ (mA m26 (mR m26 731 a0) (Int.toNat a1)) → zW xs xl d cX11_treat 11 (some .boolean) false [] 88 [zR a0, zI a1, zI a2, zI a3] [] m26 Q) ∧ (¬ (10 ≤ (mA m26 (mR m26 731 a0) (Int.toNat a1))) → zC xs xl d 156 [zR a0, zI a1] m26 (fun r m34 => ∃ v35 : Int, r = .inl (some (zI v35)) ∧ (v35 = 0 ∨ v35 = 1) ∧ Q (.inl (some (zI v35))) m34)))))))))))) : zW xs xl d cX11_treat 11 (some .boolean) false [] 24 [zR a0, zI a1, zI a2, zI a3] [zI s2, zI s1, zR s0] m Q := by
  obtain ⟨g3, h⟩ := h
  refine zq_virtualV (n := 2) dX11_treat_24 mr_11_209 zn_150 rfl rfl rfl (zrcv_R zo_150 (by decide) g3) (Nat.le_of_ble_eq_true rfl) ?_
  refine h.mono (fun r m1 h => ?_)
  obtain ⟨rfl, h⟩ := h
  refine ⟨rfl, ?_⟩
  refine (zq_aload_n dX11_treat_27 rfl).mpr ?_
  refine (zq_iload_n dX11_treat_28 rfl).mpr ?_
  refine (zq_iload_n dX11_treat_29 rfl).mpr ?_
  refine (zq_iconst dX11_treat_30 (by decide)).mpr ?_
  refine (zq_icmp_ne (t := 39) dX11_treat_31 rfl).mpr ⟨fun c => ?_, fun c => ?_⟩
  · replace h := h.1 c
    refine (zq_iload_n dX11_treat_39 rfl).mpr ?_
    refine (zq_iconst dX11_treat_40 (by decide)).mpr ?_
    refine (zq_icmp_ne (t := 49) dX11_treat_41 rfl).mpr ⟨fun c => ?_, fun c => ?_⟩
    · replace h := h.1 c
      refine (zq_bipush dX11_treat_49 (by decide)).mpr ?_
      obtain ⟨g6, h⟩ := h
      refine zq_virtualV (n := 2) dX11_treat_51 mr_11_212 zn_151 rfl rfl rfl (zrcv_R zo_151 (by decide) g6) (Nat.le_of_ble_eq_true rfl) ?_
      refine h.mono (fun r m4 h => ?_)
      obtain ⟨rfl, h⟩ := h
      refine ⟨rfl, ?_⟩
      refine (zq_iload_n dX11_treat_54 rfl).mpr ?_
      refine (zq_iconst dX11_treat_55 (by decide)).mpr ?_
      refine (zq_icmp_ne (t := 88) dX11_treat_56 rfl).mpr ⟨fun c => ?_, fun c => ?_⟩
      · replace h := h.1 c
        exact h
      · replace h := h.2 c
        refine (zq_aload_n dX11_treat_59 rfl).mpr ?_
        obtain ⟨g7, h⟩ := h
        refine (zq_getR2 (f := 732) (v := (mR m4 732 a0)) dX11_treat_60 fl_11_88 (by decide) rfl rfl (by first | rfl | simp only [zm_Is, zm_Rs, zm_As, zm_Os, zm_In0, zm_Rn0])).mpr ⟨g7, ?_⟩
        refine (zq_iload_n dX11_treat_63 rfl).mpr ?_
        obtain ⟨g8, h⟩ := h
        obtain ⟨g9, h⟩ := h
        refine (zq_iald2 (v := (mA m4 (mR m4 732 a0) (Int.toNat a1))) dX11_treat_64 (by first | rfl | simp only [zm_Is, zm_Rs, zm_As, zm_Os, zm_In0, zm_Rn0])).mpr ⟨⟨g8, g9⟩, ?_⟩
        refine (zq_sipush dX11_treat_65 (by decide)).mpr ?_
        refine (zq_icmp_le (t := 88) dX11_treat_68 rfl).mpr ⟨fun c => ?_, fun c => ?_⟩
        · replace h := h.1 c
          exact h
        · replace h := h.2 c
          refine (zq_aload_n dX11_treat_71 rfl).mpr ?_
          refine (zq_getR2 (f := 731) (v := (mR m4 731 a0)) dX11_treat_72 fl_11_85 (by decide) rfl rfl (by first | rfl | simp only [zm_Is, zm_Rs, zm_As, zm_Os, zm_In0, zm_Rn0])).mpr ⟨g7, ?_⟩
          refine (zq_iload_n dX11_treat_75 rfl).mpr ?_
          obtain ⟨g10, h⟩ := h
          obtain ⟨g11, h⟩ := h
          refine (zq_iald2 (v := (mA m4 (mR m4 731 a0) (Int.toNat a1))) dX11_treat_76 (by first | rfl | simp only [zm_Is, zm_Rs, zm_As, zm_Os, zm_In0, zm_Rn0])).mpr ⟨⟨g10, g11⟩, ?_⟩
          refine (zq_bipush dX11_treat_77 (by decide)).mpr ?_
          refine (zq_icmp_ge (t := 88) dX11_treat_79 rfl).mpr ⟨fun c => ?_, fun c => ?_⟩
          · replace h := h.1 c
            exact h
          · replace h := h.2 c
            refine (zq_aload_n dX11_treat_82 rfl).mpr ?_
            refine (zq_iload_n dX11_treat_83 rfl).mpr ?_
            refine zq_virtualI (n := 1) dX11_treat_84 mr_11_215 zn_156 rfl rfl rfl (zrcv_R zo_156 (by decide) g7) (Nat.le_of_ble_eq_true rfl) ?_
            refine h.mono (fun r m12 h => ?_)
            obtain ⟨v13, rfl, h⟩ := h
            refine ⟨_, rfl, ?_⟩
            obtain ⟨g14, h⟩ := h
            exact (zq_iret dX11_treat_87 rfl).mpr ⟨g14, h⟩
    · replace h := h.2 c
      refine (zq_bipush dX11_treat_44 (by decide)).mpr ?_
      refine (zq_goto (t := 51) dX11_treat_46 rfl).mpr ?_
      obtain ⟨g17, h⟩ := h
      refine zq_virtualV (n := 2) dX11_treat_51 mr_11_212 zn_151 rfl rfl rfl (zrcv_R zo_151 (by decide) g17) (Nat.le_of_ble_eq_true rfl) ?_
      refine h.mono (fun r m15 h => ?_)
      obtain ⟨rfl, h⟩ := h
      refine ⟨rfl, ?_⟩
      refine (zq_iload_n dX11_treat_54 rfl).mpr ?_
      refine (zq_iconst dX11_treat_55 (by decide)).mpr ?_
      refine (zq_icmp_ne (t := 88) dX11_treat_56 rfl).mpr ⟨fun c => ?_, fun c => ?_⟩
      · replace h := h.1 c
        exact h
      · replace h := h.2 c
        refine (zq_aload_n dX11_treat_59 rfl).mpr ?_
        obtain ⟨g18, h⟩ := h
        refine (zq_getR2 (f := 732) (v := (mR m15 732 a0)) dX11_treat_60 fl_11_88 (by decide) rfl rfl (by first | rfl | simp only [zm_Is, zm_Rs, zm_As, zm_Os, zm_In0, zm_Rn0])).mpr ⟨g18, ?_⟩
        refine (zq_iload_n dX11_treat_63 rfl).mpr ?_
        obtain ⟨g19, h⟩ := h
        obtain ⟨g20, h⟩ := h
        refine (zq_iald2 (v := (mA m15 (mR m15 732 a0) (Int.toNat a1))) dX11_treat_64 (by first | rfl | simp only [zm_Is, zm_Rs, zm_As, zm_Os, zm_In0, zm_Rn0])).mpr ⟨⟨g19, g20⟩, ?_⟩
        refine (zq_sipush dX11_treat_65 (by decide)).mpr ?_
        refine (zq_icmp_le (t := 88) dX11_treat_68 rfl).mpr ⟨fun c => ?_, fun c => ?_⟩
        · replace h := h.1 c
          exact h
        · replace h := h.2 c
          refine (zq_aload_n dX11_treat_71 rfl).mpr ?_
          refine (zq_getR2 (f := 731) (v := (mR m15 731 a0)) dX11_treat_72 fl_11_85 (by decide) rfl rfl (by first | rfl | simp only [zm_Is, zm_Rs, zm_As, zm_Os, zm_In0, zm_Rn0])).mpr ⟨g18, ?_⟩
          refine (zq_iload_n dX11_treat_75 rfl).mpr ?_
          obtain ⟨g21, h⟩ := h
          obtain ⟨g22, h⟩ := h
          refine (zq_iald2 (v := (mA m15 (mR m15 731 a0) (Int.toNat a1))) dX11_treat_76 (by first | rfl | simp only [zm_Is, zm_Rs, zm_As, zm_Os, zm_In0, zm_Rn0])).mpr ⟨⟨g21, g22⟩, ?_⟩
          refine (zq_bipush dX11_treat_77 (by decide)).mpr ?_
          refine (zq_icmp_ge (t := 88) dX11_treat_79 rfl).mpr ⟨fun c => ?_, fun c => ?_⟩
          · replace h := h.1 c
            exact h
          · replace h := h.2 c
            refine (zq_aload_n dX11_treat_82 rfl).mpr ?_
            refine (zq_iload_n dX11_treat_83 rfl).mpr ?_
            refine zq_virtualI (n := 1) dX11_treat_84 mr_11_215 zn_156 rfl rfl rfl (zrcv_R zo_156 (by decide) g18) (Nat.le_of_ble_eq_true rfl) ?_
            refine h.mono (fun r m23 h => ?_)
            obtain ⟨v24, rfl, h⟩ := h
            refine ⟨_, rfl, ?_⟩
            obtain ⟨g25, h⟩ := h
            exact (zq_iret dX11_treat_87 rfl).mpr ⟨g25, h⟩
  · replace h := h.2 c
    refine (zq_bipush dX11_treat_34 (by decide)).mpr ?_
    refine (zq_goto (t := 51) dX11_treat_36 rfl).mpr ?_
    obtain ⟨g28, h⟩ := h
    refine zq_virtualV (n := 2) dX11_treat_51 mr_11_212 zn_151 rfl rfl rfl (zrcv_R zo_151 (by decide) g28) (Nat.le_of_ble_eq_true rfl) ?_
    refine h.mono (fun r m26 h => ?_)
    obtain ⟨rfl, h⟩ := h
    refine ⟨rfl, ?_⟩
    refine (zq_iload_n dX11_treat_54 rfl).mpr ?_
    refine (zq_iconst dX11_treat_55 (by decide)).mpr ?_
    refine (zq_icmp_ne (t := 88) dX11_treat_56 rfl).mpr ⟨fun c => ?_, fun c => ?_⟩
    · replace h := h.1 c
      exact h
    · replace h := h.2 c
      refine (zq_aload_n dX11_treat_59 rfl).mpr ?_
      obtain ⟨g29, h⟩ := h
      refine (zq_getR2 (f := 732) (v := (mR m26 732 a0)) dX11_treat_60 fl_11_88 (by decide) rfl rfl (by first | rfl | simp only [zm_Is, zm_Rs, zm_As, zm_Os, zm_In0, zm_Rn0])).mpr ⟨g29, ?_⟩
      refine (zq_iload_n dX11_treat_63 rfl).mpr ?_
      obtain ⟨g30, h⟩ := h
      obtain ⟨g31, h⟩ := h
      refine (zq_iald2 (v := (mA m26 (mR m26 732 a0) (Int.toNat a1))) dX11_treat_64 (by first | rfl | simp only [zm_Is, zm_Rs, zm_As, zm_Os, zm_In0, zm_Rn0])).mpr ⟨⟨g30, g31⟩, ?_⟩
      refine (zq_sipush dX11_treat_65 (by decide)).mpr ?_
      refine (zq_icmp_le (t := 88) dX11_treat_68 rfl).mpr ⟨fun c => ?_, fun c => ?_⟩
      · replace h := h.1 c
        exact h
      · replace h := h.2 c
        refine (zq_aload_n dX11_treat_71 rfl).mpr ?_
        refine (zq_getR2 (f := 731) (v := (mR m26 731 a0)) dX11_treat_72 fl_11_85 (by decide) rfl rfl (by first | rfl | simp only [zm_Is, zm_Rs, zm_As, zm_Os, zm_In0, zm_Rn0])).mpr ⟨g29, ?_⟩
        refine (zq_iload_n dX11_treat_75 rfl).mpr ?_
        obtain ⟨g32, h⟩ := h
        obtain ⟨g33, h⟩ := h
        refine (zq_iald2 (v := (mA m26 (mR m26 731 a0) (Int.toNat a1))) dX11_treat_76 (by first | rfl | simp only [zm_Is, zm_Rs, zm_As, zm_Os, zm_In0, zm_Rn0])).mpr ⟨⟨g32, g33⟩, ?_⟩
        refine (zq_bipush dX11_treat_77 (by decide)).mpr ?_
        refine (zq_icmp_ge (t := 88) dX11_treat_79 rfl).mpr ⟨fun c => ?_, fun c => ?_⟩
        · replace h := h.1 c
          exact h
        · replace h := h.2 c
          refine (zq_aload_n dX11_treat_82 rfl).mpr ?_
          refine (zq_iload_n dX11_treat_83 rfl).mpr ?_
          refine zq_virtualI (n := 1) dX11_treat_84 mr_11_215 zn_156 rfl rfl rfl (zrcv_R zo_156 (by decide) g29) (Nat.le_of_ble_eq_true rfl) ?_
          refine h.mono (fun r m34 h => ?_)
          obtain ⟨v35, rfl, h⟩ := h
          refine ⟨_, rfl, ?_⟩
          obtain ⟨g36, h⟩ := h
          exact (zq_iret dX11_treat_87 rfl).mpr ⟨g36, h⟩
theorem bX11_treat_88 {a0 : Nat} {a1 : Int} {a2 : Int} {a3 : Int} (h : (mC m a0 = 12) ∧ (mC m (mR m 720 a0) = 20) ∧ (0 ≤ a1 ∧ a1 < mN m (mR m 720 a0)) ∧ (((wr ((mA m (mR m 720 a0) (Int.toNat a1)) + 1)) ≠ a3 → Q (.inl (some (zI 0))) (sA m (mR m 720 a0) (Int.toNat a1) (wr ((mA m (mR m 720 a0) (Int.toNat a1)) + 1)))) ∧ (¬ ((wr ((mA m (mR m 720 a0) (Int.toNat a1)) + 1)) ≠ a3) → Q (.inl (some (zI 1))) (sA m (mR m 720 a0) (Int.toNat a1) (wr ((mA m (mR m 720 a0) (Int.toNat a1)) + 1)))))) : zW xs xl d cX11_treat 11 (some .boolean) false [] 88 [zR a0, zI a1, zI a2, zI a3] [] m Q := by
  refine (zq_aload_n dX11_treat_88 rfl).mpr ?_
  obtain ⟨g1, h⟩ := h
  refine (zq_getR2 (f := 720) (v := (mR m 720 a0)) dX11_treat_89 fl_11_52 (by decide) rfl rfl (by first | rfl | simp only [zm_Is, zm_Rs, zm_As, zm_Os, zm_In0, zm_Rn0])).mpr ⟨g1, ?_⟩
  refine (zq_iload_n dX11_treat_92 rfl).mpr ?_
  refine (zq_dup2IR dX11_treat_93).mpr ?_
  obtain ⟨g2, h⟩ := h
  obtain ⟨g3, h⟩ := h
  refine (zq_iald2 (v := (mA m (mR m 720 a0) (Int.toNat a1))) dX11_treat_94 (by first | rfl | simp only [zm_Is, zm_Rs, zm_As, zm_Os, zm_In0, zm_Rn0])).mpr ⟨⟨g2, g3⟩, ?_⟩
  refine (zq_iconst dX11_treat_95 (by decide)).mpr ?_
  refine (zq_iadd dX11_treat_96).mpr ?_
  refine (zq_iast dX11_treat_97).mpr ⟨⟨g2, g3⟩, ?_⟩
  refine (zq_aload_n dX11_treat_98 rfl).mpr ?_
  refine (zq_getR2 (f := 720) (v := (mR m 720 a0)) dX11_treat_99 fl_11_52 (by decide) rfl rfl (by first | rfl | simp only [zm_Is, zm_Rs, zm_As, zm_Os, zm_In0, zm_Rn0])).mpr ⟨g1, ?_⟩
  refine (zq_iload_n dX11_treat_102 rfl).mpr ?_
  refine (zq_iald2 (v := (wr ((mA m (mR m 720 a0) (Int.toNat a1)) + 1))) dX11_treat_103 (by first | rfl | simp only [zm_Is, zm_Rs, zm_As, zm_Os, zm_In0, zm_Rn0])).mpr ⟨⟨g2, g3⟩, ?_⟩
  refine (zq_iload_n dX11_treat_104 rfl).mpr ?_
  refine (zq_icmp_ne (t := 112) dX11_treat_105 rfl).mpr ⟨fun c => ?_, fun c => ?_⟩
  · replace h := h.1 c
    refine (zq_iconst dX11_treat_112 (by decide)).mpr ?_
    exact (zq_iret dX11_treat_113 rfl).mpr ⟨by decide, h⟩
  · replace h := h.2 c
    refine (zq_iconst dX11_treat_108 (by decide)).mpr ?_
    refine (zq_goto (t := 113) dX11_treat_109 rfl).mpr ?_
    exact (zq_iret dX11_treat_113 rfl).mpr ⟨by decide, h⟩
theorem bX11_bend_0 {a0 : Nat} {a1 : Int} {a2 : Int} (h : zW xs xl d cX11_bend 11 (some .boolean) false [] 5 [zR a0, zI a1, zI a2, zI 1, zI 0, zU, zU] [] m Q) : zC xs xl (d + 1) 153 [zR a0, zI a1, zI a2] m Q := by
  refine zk_153 ?_
  refine (zq_iconst dX11_bend_0 (by decide)).mpr ?_
  refine (zq_istore_n dX11_bend_1 (by simp) rfl).mpr ?_
  refine (zq_iconst dX11_bend_2 (by decide)).mpr ?_
  refine (zq_istore dX11_bend_3 (by simp) rfl).mpr ?_
  exact h
theorem bX11_bend_5 {a0 : Nat} {a1 : Int} {a2 : Int} {a3 : Int} {a4 : Int} {a5 : zV} {a6 : zV} (h : ((3 ≤ a4 → (mC m a0 = 12) ∧ (mC m (mR m 732 a0) = 20) ∧ (0 ≤ a1 ∧ a1 < mN m (mR m 732 a0)) ∧ (mC m (mR m 731 a0) = 20) ∧ (0 ≤ a1 ∧ a1 < mN m (mR m 731 a0)) ∧ (mC m (mR m 730 a0) = 20) ∧ (0 ≤ a1 ∧ a1 < mN m (mR m 730 a0)) ∧ (zXk 4 = 1 ∧ 0 ≤ (mA m (mR m 730 a0) (Int.toNat a1)) ∧ (mA m (mR m 730 a0) (Int.toNat a1)) < zXN xl 4) ∧ ((wr (100 * (zXI xs 4 ((mA m (mR m 730 a0) (Int.toNat a1))).toNat))) ≠ 0) ∧ (((wr (Int.tdiv (wr ((mA m (mR m 732 a0) (Int.toNat a1)) * (wr ((mA m (mR m 731 a0) (Int.toNat a1)) + 20)))) (wr (100 * (zXI xs 4 ((mA m (mR m 730 a0) (Int.toNat a1))).toNat))))) ≠ 0 → zW xs xl d cX11_bend 11 (some .boolean) false [] 148 [zR a0, zI a1, zI a2, zI 1, zI (wr (Int.tdiv (wr ((mA m (mR m 732 a0) (Int.toNat a1)) * (wr ((mA m (mR m 731 a0) (Int.toNat a1)) + 20)))) (wr (100 * (zXI xs 4 ((mA m (mR m 730 a0) (Int.toNat a1))).toNat))))), zI (wr (3 * a1)), a6] [] m Q) ∧ (¬ ((wr (Int.tdiv (wr ((mA m (mR m 732 a0) (Int.toNat a1)) * (wr ((mA m (mR m 731 a0) (Int.toNat a1)) + 20)))) (wr (100 * (zXI xs 4 ((mA m (mR m 730 a0) (Int.toNat a1))).toNat))))) ≠ 0) → ((a3 ≠ 0 → zW xs xl d cX11_bend 11 (some .boolean) false [] 148 [zR a0, zI a1, zI a2, zI 1, zI (wr (Int.tdiv (wr ((mA m (mR m 732 a0) (Int.toNat a1)) * (wr ((mA m (mR m 731 a0) (Int.toNat a1)) + 20)))) (wr (100 * (zXI xs 4 ((mA m (mR m 730 a0) (Int.toNat a1))).toNat))))), zI (wr (3 * a1)), a6] [] m Q) ∧ (¬ (a3 ≠ 0) → (mC m (mR m 733 a0) = 20) ∧ (0 ≤ a1 ∧ a1 < mN m (mR m 733 a0)) ∧ (((wr ((mA m (mR m 733 a0) (Int.toNat a1)) + 1)) ≠ 3 → zW xs xl d cX11_bend 11 (some .boolean) false [] 148 [zR a0, zI a1, zI a2, zI 1, zI (wr (Int.tdiv (wr ((mA m (mR m 732 a0) (Int.toNat a1)) * (wr ((mA m (mR m 731 a0) (Int.toNat a1)) + 20)))) (wr (100 * (zXI xs 4 ((mA m (mR m 730 a0) (Int.toNat a1))).toNat))))), zI (wr (3 * a1)), a6] [] (sA m (mR m 733 a0) (Int.toNat a1) (wr ((mA m (mR m 733 a0) (Int.toNat a1)) + 1))) Q) ∧ (¬ ((wr ((mA m (mR m 733 a0) (Int.toNat a1)) + 1)) ≠ 3) → zC xs xl d 156 [zR a0, zI a1] (sA m (mR m 733 a0) (Int.toNat a1) (wr ((mA m (mR m 733 a0) (Int.toNat a1)) + 1))) (fun r m12 => ∃ v13 : Int, r = .inl (some (zI v13)) ∧ (v13 = 0 ∨ v13 = 1) ∧ Q (.inl (some (zI v13))) m12)))))))) ∧ (¬ (3 ≤ a4) → (mC m a0 = 12) ∧ (mC m (mR m 717 a0) = 20) ∧ (0 ≤ (wr ((wr (a2 + 1)) + a4)) ∧ (wr ((wr (a2 + 1)) + a4)) < mN m (mR m 717 a0)) ∧ (0 ≤ (wr ((wr (3 * a1)) + a4)) ∧ (wr ((wr (3 * a1)) + a4)) < mN m (mR m 735 a0)) ∧ (mC m (mR m 735 a0) = 20) ∧ ((a3 = 0 → zW xs xl d cX11_bend 11 (some .boolean) false [] 5 [zR a0, zI a1, zI a2, zI 0, zI (wr (a4 + 1)), a5, a6] [] (sA m (mR m 735 a0) (Int.toNat (wr ((wr (3 * a1)) + a4))) (mA m (mR m 717 a0) (Int.toNat (wr ((wr (a2 + 1)) + a4))))) Q) ∧ (¬ (a3 = 0) → (mC m (mR m 734 a0) = 20) ∧ (0 ≤ (wr ((wr (3 * a1)) + a4)) ∧ (wr ((wr (3 * a1)) + a4)) < mN m (mR m 734 a0)) ∧ (((mA (sA m (mR m 735 a0) (Int.toNat (wr ((wr (3 * a1)) + a4))) (mA m (mR m 717 a0) (Int.toNat (wr ((wr (a2 + 1)) + a4))))) (mR m 734 a0) (Int.toNat (wr ((wr (3 * a1)) + a4)))) ≠ (mA m (mR m 717 a0) (Int.toNat (wr ((wr (a2 + 1)) + a4)))) → zW xs xl d cX11_bend 11 (some .boolean) false [] 5 [zR a0, zI a1, zI a2, zI 0, zI (wr (a4 + 1)), a5, a6] [] (sA m (mR m 735 a0) (Int.toNat (wr ((wr (3 * a1)) + a4))) (mA m (mR m 717 a0) (Int.toNat (wr ((wr (a2 + 1)) + a4))))) Q) ∧ (¬ ((mA (sA m (mR m 735 a0) (Int.toNat (wr ((wr (3 * a1)) + a4))) (mA m (mR m 717 a0) (Int.toNat (wr ((wr (a2 + 1)) + a4))))) (mR m 734 a0) (Int.toNat (wr ((wr (3 * a1)) + a4)))) ≠ (mA m (mR m 717 a0) (Int.toNat (wr ((wr (a2 + 1)) + a4))))) → zW xs xl d cX11_bend 11 (some .boolean) false [] 5 [zR a0, zI a1, zI a2, zI 1, zI (wr (a4 + 1)), a5, a6] [] (sA m (mR m 735 a0) (Int.toNat (wr ((wr (3 * a1)) + a4))) (mA m (mR m 717 a0) (Int.toNat (wr ((wr (a2 + 1)) + a4))))) Q))))))) : zW xs xl d cX11_bend 11 (some .boolean) false [] 5 [zR a0, zI a1, zI a2, zI a3, zI a4, a5, a6] [] m Q := by
  refine (zq_iload dX11_bend_5 rfl).mpr ?_
  refine (zq_iconst dX11_bend_7 (by decide)).mpr ?_
  refine (zq_icmp_ge (t := 74) dX11_bend_8 rfl).mpr ⟨fun c => ?_, fun c => ?_⟩
  · replace h := h.1 c
    refine (zq_aload_n dX11_bend_74 rfl).mpr ?_
    obtain ⟨g1, h⟩ := h
    refine (zq_getR2 (f := 732) (v := (mR m 732 a0)) dX11_bend_75 fl_11_88 (by decide) rfl rfl (by first | rfl | simp only [zm_Is, zm_Rs, zm_As, zm_Os, zm_In0, zm_Rn0])).mpr ⟨g1, ?_⟩
    refine (zq_iload_n dX11_bend_78 rfl).mpr ?_
    obtain ⟨g2, h⟩ := h
    obtain ⟨g3, h⟩ := h
    refine (zq_iald2 (v := (mA m (mR m 732 a0) (Int.toNat a1))) dX11_bend_79 (by first | rfl | simp only [zm_Is, zm_Rs, zm_As, zm_Os, zm_In0, zm_Rn0])).mpr ⟨⟨g2, g3⟩, ?_⟩
    refine (zq_aload_n dX11_bend_80 rfl).mpr ?_
    refine (zq_getR2 (f := 731) (v := (mR m 731 a0)) dX11_bend_81 fl_11_85 (by decide) rfl rfl (by first | rfl | simp only [zm_Is, zm_Rs, zm_As, zm_Os, zm_In0, zm_Rn0])).mpr ⟨g1, ?_⟩
    refine (zq_iload_n dX11_bend_84 rfl).mpr ?_
    obtain ⟨g4, h⟩ := h
    obtain ⟨g5, h⟩ := h
    refine (zq_iald2 (v := (mA m (mR m 731 a0) (Int.toNat a1))) dX11_bend_85 (by first | rfl | simp only [zm_Is, zm_Rs, zm_As, zm_Os, zm_In0, zm_Rn0])).mpr ⟨⟨g4, g5⟩, ?_⟩
    refine (zq_bipush dX11_bend_86 (by decide)).mpr ?_
    refine (zq_iadd dX11_bend_88).mpr ?_
    refine (zq_imul dX11_bend_89).mpr ?_
    refine (zq_bipush dX11_bend_90 (by decide)).mpr ?_
    refine (zq_gets dX11_bend_92 sl_11_218).mpr ?_
    refine (zq_aload_n dX11_bend_95 rfl).mpr ?_
    refine (zq_getR2 (f := 730) (v := (mR m 730 a0)) dX11_bend_96 fl_11_82 (by decide) rfl rfl (by first | rfl | simp only [zm_Is, zm_Rs, zm_As, zm_Os, zm_In0, zm_Rn0])).mpr ⟨g1, ?_⟩
    refine (zq_iload_n dX11_bend_99 rfl).mpr ?_
    obtain ⟨g6, h⟩ := h
    obtain ⟨g7, h⟩ := h
    refine (zq_iald2 (v := (mA m (mR m 730 a0) (Int.toNat a1))) dX11_bend_100 (by first | rfl | simp only [zm_Is, zm_Rs, zm_As, zm_Os, zm_In0, zm_Rn0])).mpr ⟨⟨g6, g7⟩, ?_⟩
    obtain ⟨g8, h⟩ := h
    refine (zq_ialdE dX11_bend_101).mpr ⟨g8, ?_⟩
    refine (zq_imul dX11_bend_102).mpr ?_
    obtain ⟨g9, h⟩ := h
    refine (zq_idiv dX11_bend_103).mpr ⟨g9, ?_⟩
    refine (zq_istore dX11_bend_104 (by simp) rfl).mpr ?_
    refine (zq_iload dX11_bend_106 rfl).mpr ?_
    refine (zq_if_ne (t := 141) dX11_bend_108 rfl).mpr ⟨fun c => ?_, fun c => ?_⟩
    · replace h := h.1 c
      refine (zq_iconst dX11_bend_141 (by decide)).mpr ?_
      refine (zq_istore_n dX11_bend_142 (by simp) rfl).mpr ?_
      refine (zq_iconst dX11_bend_143 (by decide)).mpr ?_
      refine (zq_iload_n dX11_bend_144 rfl).mpr ?_
      refine (zq_imul dX11_bend_145).mpr ?_
      refine (zq_istore dX11_bend_146 (by simp) rfl).mpr ?_
      exact h
    · replace h := h.2 c
      refine (zq_iload_n dX11_bend_111 rfl).mpr ?_
      refine (zq_if_ne (t := 141) dX11_bend_112 rfl).mpr ⟨fun c => ?_, fun c => ?_⟩
      · replace h := h.1 c
        refine (zq_iconst dX11_bend_141 (by decide)).mpr ?_
        refine (zq_istore_n dX11_bend_142 (by simp) rfl).mpr ?_
        refine (zq_iconst dX11_bend_143 (by decide)).mpr ?_
        refine (zq_iload_n dX11_bend_144 rfl).mpr ?_
        refine (zq_imul dX11_bend_145).mpr ?_
        refine (zq_istore dX11_bend_146 (by simp) rfl).mpr ?_
        exact h
      · replace h := h.2 c
        refine (zq_aload_n dX11_bend_115 rfl).mpr ?_
        refine (zq_getR2 (f := 733) (v := (mR m 733 a0)) dX11_bend_116 fl_11_91 (by decide) rfl rfl (by first | rfl | simp only [zm_Is, zm_Rs, zm_As, zm_Os, zm_In0, zm_Rn0])).mpr ⟨g1, ?_⟩
        refine (zq_iload_n dX11_bend_119 rfl).mpr ?_
        refine (zq_dup2IR dX11_bend_120).mpr ?_
        obtain ⟨g10, h⟩ := h
        obtain ⟨g11, h⟩ := h
        refine (zq_iald2 (v := (mA m (mR m 733 a0) (Int.toNat a1))) dX11_bend_121 (by first | rfl | simp only [zm_Is, zm_Rs, zm_As, zm_Os, zm_In0, zm_Rn0])).mpr ⟨⟨g10, g11⟩, ?_⟩
        refine (zq_iconst dX11_bend_122 (by decide)).mpr ?_
        refine (zq_iadd dX11_bend_123).mpr ?_
        refine (zq_iast dX11_bend_124).mpr ⟨⟨g10, g11⟩, ?_⟩
        refine (zq_aload_n dX11_bend_125 rfl).mpr ?_
        refine (zq_getR2 (f := 733) (v := (mR m 733 a0)) dX11_bend_126 fl_11_91 (by decide) rfl rfl (by first | rfl | simp only [zm_Is, zm_Rs, zm_As, zm_Os, zm_In0, zm_Rn0])).mpr ⟨g1, ?_⟩
        refine (zq_iload_n dX11_bend_129 rfl).mpr ?_
        refine (zq_iald2 (v := (wr ((mA m (mR m 733 a0) (Int.toNat a1)) + 1))) dX11_bend_130 (by first | rfl | simp only [zm_Is, zm_Rs, zm_As, zm_Os, zm_In0, zm_Rn0])).mpr ⟨⟨g10, g11⟩, ?_⟩
        refine (zq_iconst dX11_bend_131 (by decide)).mpr ?_
        refine (zq_icmp_ne (t := 141) dX11_bend_132 rfl).mpr ⟨fun c => ?_, fun c => ?_⟩
        · replace h := h.1 c
          refine (zq_iconst dX11_bend_141 (by decide)).mpr ?_
          refine (zq_istore_n dX11_bend_142 (by simp) rfl).mpr ?_
          refine (zq_iconst dX11_bend_143 (by decide)).mpr ?_
          refine (zq_iload_n dX11_bend_144 rfl).mpr ?_
          refine (zq_imul dX11_bend_145).mpr ?_
          refine (zq_istore dX11_bend_146 (by simp) rfl).mpr ?_
          exact h
        · replace h := h.2 c
          refine (zq_aload_n dX11_bend_135 rfl).mpr ?_
          refine (zq_iload_n dX11_bend_136 rfl).mpr ?_
          refine zq_virtualI (n := 1) dX11_bend_137 mr_11_215 zn_156 rfl rfl rfl (zrcv_R zo_156 (by decide) g1) (Nat.le_of_ble_eq_true rfl) ?_
          refine h.mono (fun r m12 h => ?_)
          obtain ⟨v13, rfl, h⟩ := h
          refine ⟨_, rfl, ?_⟩
          obtain ⟨g14, h⟩ := h
          exact (zq_iret dX11_bend_140 rfl).mpr ⟨g14, h⟩
  · replace h := h.2 c
    refine (zq_aload_n dX11_bend_11 rfl).mpr ?_
    obtain ⟨g15, h⟩ := h
    refine (zq_getR2 (f := 735) (v := (mR m 735 a0)) dX11_bend_12 fl_11_97 (by decide) rfl rfl (by first | rfl | simp only [zm_Is, zm_Rs, zm_As, zm_Os, zm_In0, zm_Rn0])).mpr ⟨g15, ?_⟩
    refine (zq_iconst dX11_bend_15 (by decide)).mpr ?_
    refine (zq_iload_n dX11_bend_16 rfl).mpr ?_
    refine (zq_imul dX11_bend_17).mpr ?_
    refine (zq_iload dX11_bend_18 rfl).mpr ?_
    refine (zq_iadd dX11_bend_20).mpr ?_
    refine (zq_aload_n dX11_bend_21 rfl).mpr ?_
    refine (zq_getR2 (f := 717) (v := (mR m 717 a0)) dX11_bend_22 fl_11_43 (by decide) rfl rfl (by first | rfl | simp only [zm_Is, zm_Rs, zm_As, zm_Os, zm_In0, zm_Rn0])).mpr ⟨g15, ?_⟩
    refine (zq_iload_n dX11_bend_25 rfl).mpr ?_
    refine (zq_iconst dX11_bend_26 (by decide)).mpr ?_
    refine (zq_iadd dX11_bend_27).mpr ?_
    refine (zq_iload dX11_bend_28 rfl).mpr ?_
    refine (zq_iadd dX11_bend_30).mpr ?_
    obtain ⟨g16, h⟩ := h
    obtain ⟨g17, h⟩ := h
    refine (zq_iald2 (v := (mA m (mR m 717 a0) (Int.toNat (wr ((wr (a2 + 1)) + a4))))) dX11_bend_31 (by first | rfl | simp only [zm_Is, zm_Rs, zm_As, zm_Os, zm_In0, zm_Rn0])).mpr ⟨⟨g16, g17⟩, ?_⟩
    obtain ⟨g18, h⟩ := h
    obtain ⟨g19, h⟩ := h
    refine (zq_iast dX11_bend_32).mpr ⟨⟨g19, g18⟩, ?_⟩
    refine (zq_iload_n dX11_bend_33 rfl).mpr ?_
    refine (zq_if_eq (t := 66) dX11_bend_34 rfl).mpr ⟨fun c => ?_, fun c => ?_⟩
    · replace h := h.1 c
      refine (zq_iconst dX11_bend_66 (by decide)).mpr ?_
      refine (zq_istore_n dX11_bend_67 (by simp) rfl).mpr ?_
      refine (zq_iinc dX11_bend_68 rfl rfl).mpr ?_
      refine (zq_goto (t := 5) dX11_bend_71 rfl).mpr ?_
      exact h
    · replace h := h.2 c
      refine (zq_aload_n dX11_bend_37 rfl).mpr ?_
      refine (zq_getR2 (f := 734) (v := (mR m 734 a0)) dX11_bend_38 fl_11_94 (by decide) rfl rfl (by first | rfl | simp only [zm_Is, zm_Rs, zm_As, zm_Os, zm_In0, zm_Rn0])).mpr ⟨g15, ?_⟩
      refine (zq_iconst dX11_bend_41 (by decide)).mpr ?_
      refine (zq_iload_n dX11_bend_42 rfl).mpr ?_
      refine (zq_imul dX11_bend_43).mpr ?_
      refine (zq_iload dX11_bend_44 rfl).mpr ?_
      refine (zq_iadd dX11_bend_46).mpr ?_
      obtain ⟨g20, h⟩ := h
      obtain ⟨g21, h⟩ := h
      refine (zq_iald2 (v := (mA (sA m (mR m 735 a0) (Int.toNat (wr ((wr (3 * a1)) + a4))) (mA m (mR m 717 a0) (Int.toNat (wr ((wr (a2 + 1)) + a4))))) (mR m 734 a0) (Int.toNat (wr ((wr (3 * a1)) + a4))))) dX11_bend_47 (by first | rfl | simp only [zm_Is, zm_Rs, zm_As, zm_Os, zm_In0, zm_Rn0])).mpr ⟨⟨g20, g21⟩, ?_⟩
      refine (zq_aload_n dX11_bend_48 rfl).mpr ?_
      refine (zq_getR2 (f := 735) (v := (mR m 735 a0)) dX11_bend_49 fl_11_97 (by decide) rfl rfl (by first | rfl | simp only [zm_Is, zm_Rs, zm_As, zm_Os, zm_In0, zm_Rn0])).mpr ⟨g15, ?_⟩
      refine (zq_iconst dX11_bend_52 (by decide)).mpr ?_
      refine (zq_iload_n dX11_bend_53 rfl).mpr ?_
      refine (zq_imul dX11_bend_54).mpr ?_
      refine (zq_iload dX11_bend_55 rfl).mpr ?_
      refine (zq_iadd dX11_bend_57).mpr ?_
      refine (zq_iald2 (v := (mA m (mR m 717 a0) (Int.toNat (wr ((wr (a2 + 1)) + a4))))) dX11_bend_58 (by first | rfl | simp only [zm_Is, zm_Rs, zm_As, zm_Os, zm_In0, zm_Rn0])).mpr ⟨⟨g19, g18⟩, ?_⟩
      refine (zq_icmp_ne (t := 66) dX11_bend_59 rfl).mpr ⟨fun c => ?_, fun c => ?_⟩
      · replace h := h.1 c
        refine (zq_iconst dX11_bend_66 (by decide)).mpr ?_
        refine (zq_istore_n dX11_bend_67 (by simp) rfl).mpr ?_
        refine (zq_iinc dX11_bend_68 rfl rfl).mpr ?_
        refine (zq_goto (t := 5) dX11_bend_71 rfl).mpr ?_
        exact h
      · replace h := h.2 c
        refine (zq_iconst dX11_bend_62 (by decide)).mpr ?_
        refine (zq_goto (t := 67) dX11_bend_63 rfl).mpr ?_
        refine (zq_istore_n dX11_bend_67 (by simp) rfl).mpr ?_
        refine (zq_iinc dX11_bend_68 rfl rfl).mpr ?_
        refine (zq_goto (t := 5) dX11_bend_71 rfl).mpr ?_
        exact h
theorem bX11_bend_148 {a0 : Nat} {a1 : Int} {a2 : Int} {a3 : Int} {a4 : Int} {a5 : Int} {a6 : zV} (h : (((wr ((wr (3 * a1)) + 3)) ≤ a5 → (mC m a0 = 12) ∧ zC xs xl d 150 [zR a0, zI a1, zI (-10)] m (fun r m1 => r = .inl none ∧ (mC m1 a0 = 12) ∧ zC xs xl d 151 [zR a0, zI a1, zI (-1)] m1 (fun r m4 => r = .inl none ∧ (a3 = 0 ∨ a3 = 1) ∧ Q (.inl (some (zI a3))) m4))) ∧ (¬ ((wr ((wr (3 * a1)) + 3)) ≤ a5) → (mC m a0 = 12) ∧ (mC m (mR m 735 a0) = 20) ∧ (0 ≤ a5 ∧ a5 < mN m (mR m 735 a0)) ∧ (mC m (mR m 734 a0) = 20) ∧ (0 ≤ a5 ∧ a5 < mN m (mR m 734 a0)) ∧ zC xs xl d 220 [zI (wr ((mA m (mR m 735 a0) (Int.toNat a5)) - (mA m (mR m 734 a0) (Int.toNat a5))))] m (fun r m13 => ∃ v14 : Int, r = .inl (some (zI v14)) ∧ (0 ≤ a5 ∧ a5 < mN m13 (mR m 734 a0)) ∧ (mC m13 (mR m 734 a0) = 20) ∧ ((a3 = 0 → zW xs xl d cX11_bend 11 (some .boolean) false [] 148 [zR a0, zI a1, zI a2, zI 0, zI a4, zI (wr (a5 + 1)), zI (wr ((mA m (mR m 735 a0) (Int.toNat a5)) - (mA m (mR m 734 a0) (Int.toNat a5))))] [] (sA m13 (mR m 734 a0) (Int.toNat a5) (wr ((mA m (mR m 734 a0) (Int.toNat a5)) + (wr (v14 * (if (if 0 ≤ (wr ((mA m (mR m 735 a0) (Int.toNat a5)) - (mA m (mR m 734 a0) (Int.toNat a5)))) then (wr ((mA m (mR m 735 a0) (Int.toNat a5)) - (mA m (mR m 734 a0) (Int.toNat a5)))) else wr (0 - (wr ((mA m (mR m 735 a0) (Int.toNat a5)) - (mA m (mR m 734 a0) (Int.toNat a5)))))) < a4 then (if 0 ≤ (wr ((mA m (mR m 735 a0) (Int.toNat a5)) - (mA m (mR m 734 a0) (Int.toNat a5)))) then (wr ((mA m (mR m 735 a0) (Int.toNat a5)) - (mA m (mR m 734 a0) (Int.toNat a5)))) else wr (0 - (wr ((mA m (mR m 735 a0) (Int.toNat a5)) - (mA m (mR m 734 a0) (Int.toNat a5)))))) else a4)))))) Q) ∧ (¬ (a3 = 0) → (mC m13 a0 = 12) ∧ (mC m13 (mR m13 734 a0) = 20) ∧ (0 ≤ a5 ∧ a5 < mN m13 (mR m13 734 a0)) ∧ (mC m13 (mR m13 735 a0) = 20) ∧ (0 ≤ a5 ∧ a5 < mN m13 (mR m13 735 a0)) ∧ (((mA (sA m13 (mR m 734 a0) (Int.toNat a5) (wr ((mA m (mR m 734 a0) (Int.toNat a5)) + (wr (v14 * (if (if 0 ≤ (wr ((mA m (mR m 735 a0) (Int.toNat a5)) - (mA m (mR m 734 a0) (Int.toNat a5)))) then (wr ((mA m (mR m 735 a0) (Int.toNat a5)) - (mA m (mR m 734 a0) (Int.toNat a5)))) else wr (0 - (wr ((mA m (mR m 735 a0) (Int.toNat a5)) - (mA m (mR m 734 a0) (Int.toNat a5)))))) < a4 then (if 0 ≤ (wr ((mA m (mR m 735 a0) (Int.toNat a5)) - (mA m (mR m 734 a0) (Int.toNat a5)))) then (wr ((mA m (mR m 735 a0) (Int.toNat a5)) - (mA m (mR m 734 a0) (Int.toNat a5)))) else wr (0 - (wr ((mA m (mR m 735 a0) (Int.toNat a5)) - (mA m (mR m 734 a0) (Int.toNat a5)))))) else a4)))))) (mR m13 734 a0) (Int.toNat a5)) ≠ (mA (sA m13 (mR m 734 a0) (Int.toNat a5) (wr ((mA m (mR m 734 a0) (Int.toNat a5)) + (wr (v14 * (if (if 0 ≤ (wr ((mA m (mR m 735 a0) (Int.toNat a5)) - (mA m (mR m 734 a0) (Int.toNat a5)))) then (wr ((mA m (mR m 735 a0) (Int.toNat a5)) - (mA m (mR m 734 a0) (Int.toNat a5)))) else wr (0 - (wr ((mA m (mR m 735 a0) (Int.toNat a5)) - (mA m (mR m 734 a0) (Int.toNat a5)))))) < a4 then (if 0 ≤ (wr ((mA m (mR m 735 a0) (Int.toNat a5)) - (mA m (mR m 734 a0) (Int.toNat a5)))) then (wr ((mA m (mR m 735 a0) (Int.toNat a5)) - (mA m (mR m 734 a0) (Int.toNat a5)))) else wr (0 - (wr ((mA m (mR m 735 a0) (Int.toNat a5)) - (mA m (mR m 734 a0) (Int.toNat a5)))))) else a4)))))) (mR m13 735 a0) (Int.toNat a5)) → zW xs xl d cX11_bend 11 (some .boolean) false [] 148 [zR a0, zI a1, zI a2, zI 0, zI a4, zI (wr (a5 + 1)), zI (wr ((mA m (mR m 735 a0) (Int.toNat a5)) - (mA m (mR m 734 a0) (Int.toNat a5))))] [] (sA m13 (mR m 734 a0) (Int.toNat a5) (wr ((mA m (mR m 734 a0) (Int.toNat a5)) + (wr (v14 * (if (if 0 ≤ (wr ((mA m (mR m 735 a0) (Int.toNat a5)) - (mA m (mR m 734 a0) (Int.toNat a5)))) then (wr ((mA m (mR m 735 a0) (Int.toNat a5)) - (mA m (mR m 734 a0) (Int.toNat a5)))) else wr (0 - (wr ((mA m (mR m 735 a0) (Int.toNat a5)) - (mA m (mR m 734 a0) (Int.toNat a5)))))) < a4 then (if 0 ≤ (wr ((mA m (mR m 735 a0) (Int.toNat a5)) - (mA m (mR m 734 a0) (Int.toNat a5)))) then (wr ((mA m (mR m 735 a0) (Int.toNat a5)) - (mA m (mR m 734 a0) (Int.toNat a5)))) else wr (0 - (wr ((mA m (mR m 735 a0) (Int.toNat a5)) - (mA m (mR m 734 a0) (Int.toNat a5)))))) else a4)))))) Q) ∧ (¬ ((mA (sA m13 (mR m 734 a0) (Int.toNat a5) (wr ((mA m (mR m 734 a0) (Int.toNat a5)) + (wr (v14 * (if (if 0 ≤ (wr ((mA m (mR m 735 a0) (Int.toNat a5)) - (mA m (mR m 734 a0) (Int.toNat a5)))) then (wr ((mA m (mR m 735 a0) (Int.toNat a5)) - (mA m (mR m 734 a0) (Int.toNat a5)))) else wr (0 - (wr ((mA m (mR m 735 a0) (Int.toNat a5)) - (mA m (mR m 734 a0) (Int.toNat a5)))))) < a4 then (if 0 ≤ (wr ((mA m (mR m 735 a0) (Int.toNat a5)) - (mA m (mR m 734 a0) (Int.toNat a5)))) then (wr ((mA m (mR m 735 a0) (Int.toNat a5)) - (mA m (mR m 734 a0) (Int.toNat a5)))) else wr (0 - (wr ((mA m (mR m 735 a0) (Int.toNat a5)) - (mA m (mR m 734 a0) (Int.toNat a5)))))) else a4)))))) (mR m13 734 a0) (Int.toNat a5)) ≠ (mA (sA m13 (mR m 734 a0) (Int.toNat a5) (wr ((mA m (mR m 734 a0) (Int.toNat a5)) + (wr (v14 * (if (if 0 ≤ (wr ((mA m (mR m 735 a0) (Int.toNat a5)) - (mA m (mR m 734 a0) (Int.toNat a5)))) then (wr ((mA m (mR m 735 a0) (Int.toNat a5)) - (mA m (mR m 734 a0) (Int.toNat a5)))) else wr (0 - (wr ((mA m (mR m 735 a0) (Int.toNat a5)) - (mA m (mR m 734 a0) (Int.toNat a5)))))) < a4 then (if 0 ≤ (wr ((mA m (mR m 735 a0) (Int.toNat a5)) - (mA m (mR m 734 a0) (Int.toNat a5)))) then (wr ((mA m (mR m 735 a0) (Int.toNat a5)) - (mA m (mR m 734 a0) (Int.toNat a5)))) else wr (0 - (wr ((mA m (mR m 735 a0) (Int.toNat a5)) - (mA m (mR m 734 a0) (Int.toNat a5)))))) else a4)))))) (mR m13 735 a0) (Int.toNat a5))) → zW xs xl d cX11_bend 11 (some .boolean) false [] 148 [zR a0, zI a1, zI a2, zI 1, zI a4, zI (wr (a5 + 1)), zI (wr ((mA m (mR m 735 a0) (Int.toNat a5)) - (mA m (mR m 734 a0) (Int.toNat a5))))] [] (sA m13 (mR m 734 a0) (Int.toNat a5) (wr ((mA m (mR m 734 a0) (Int.toNat a5)) + (wr (v14 * (if (if 0 ≤ (wr ((mA m (mR m 735 a0) (Int.toNat a5)) - (mA m (mR m 734 a0) (Int.toNat a5)))) then (wr ((mA m (mR m 735 a0) (Int.toNat a5)) - (mA m (mR m 734 a0) (Int.toNat a5)))) else wr (0 - (wr ((mA m (mR m 735 a0) (Int.toNat a5)) - (mA m (mR m 734 a0) (Int.toNat a5)))))) < a4 then (if 0 ≤ (wr ((mA m (mR m 735 a0) (Int.toNat a5)) - (mA m (mR m 734 a0) (Int.toNat a5)))) then (wr ((mA m (mR m 735 a0) (Int.toNat a5)) - (mA m (mR m 734 a0) (Int.toNat a5)))) else wr (0 - (wr ((mA m (mR m 735 a0) (Int.toNat a5)) - (mA m (mR m 734 a0) (Int.toNat a5)))))) else a4)))))) Q)))))))) : zW xs xl d cX11_bend 11 (some .boolean) false [] 148 [zR a0, zI a1, zI a2, zI a3, zI a4, zI a5, a6] [] m Q := by
  refine (zq_iload dX11_bend_148 rfl).mpr ?_
  refine (zq_iconst dX11_bend_150 (by decide)).mpr ?_
  refine (zq_iload_n dX11_bend_151 rfl).mpr ?_
  refine (zq_imul dX11_bend_152).mpr ?_
  refine (zq_iconst dX11_bend_153 (by decide)).mpr ?_
  refine (zq_iadd dX11_bend_154).mpr ?_
  refine (zq_icmp_ge (t := 234) dX11_bend_155 rfl).mpr ⟨fun c => ?_, fun c => ?_⟩
  · replace h := h.1 c
    refine (zq_aload_n dX11_bend_234 rfl).mpr ?_
    refine (zq_iload_n dX11_bend_235 rfl).mpr ?_
    refine (zq_bipush dX11_bend_236 (by decide)).mpr ?_
    obtain ⟨g3, h⟩ := h
    refine zq_virtualV (n := 2) dX11_bend_238 mr_11_209 zn_150 rfl rfl rfl (zrcv_R zo_150 (by decide) g3) (Nat.le_of_ble_eq_true rfl) ?_
    refine h.mono (fun r m1 h => ?_)
    obtain ⟨rfl, h⟩ := h
    refine ⟨rfl, ?_⟩
    refine (zq_aload_n dX11_bend_241 rfl).mpr ?_
    refine (zq_iload_n dX11_bend_242 rfl).mpr ?_
    refine (zq_iconst dX11_bend_243 (by decide)).mpr ?_
    obtain ⟨g6, h⟩ := h
    refine zq_virtualV (n := 2) dX11_bend_244 mr_11_212 zn_151 rfl rfl rfl (zrcv_R zo_151 (by decide) g6) (Nat.le_of_ble_eq_true rfl) ?_
    refine h.mono (fun r m4 h => ?_)
    obtain ⟨rfl, h⟩ := h
    refine ⟨rfl, ?_⟩
    refine (zq_iload_n dX11_bend_247 rfl).mpr ?_
    obtain ⟨g7, h⟩ := h
    exact (zq_iret dX11_bend_248 rfl).mpr ⟨g7, h⟩
  · replace h := h.2 c
    refine (zq_aload_n dX11_bend_158 rfl).mpr ?_
    obtain ⟨g8, h⟩ := h
    refine (zq_getR2 (f := 735) (v := (mR m 735 a0)) dX11_bend_159 fl_11_97 (by decide) rfl rfl (by first | rfl | simp only [zm_Is, zm_Rs, zm_As, zm_Os, zm_In0, zm_Rn0])).mpr ⟨g8, ?_⟩
    refine (zq_iload dX11_bend_162 rfl).mpr ?_
    obtain ⟨g9, h⟩ := h
    obtain ⟨g10, h⟩ := h
    refine (zq_iald2 (v := (mA m (mR m 735 a0) (Int.toNat a5))) dX11_bend_164 (by first | rfl | simp only [zm_Is, zm_Rs, zm_As, zm_Os, zm_In0, zm_Rn0])).mpr ⟨⟨g9, g10⟩, ?_⟩
    refine (zq_aload_n dX11_bend_165 rfl).mpr ?_
    refine (zq_getR2 (f := 734) (v := (mR m 734 a0)) dX11_bend_166 fl_11_94 (by decide) rfl rfl (by first | rfl | simp only [zm_Is, zm_Rs, zm_As, zm_Os, zm_In0, zm_Rn0])).mpr ⟨g8, ?_⟩
    refine (zq_iload dX11_bend_169 rfl).mpr ?_
    obtain ⟨g11, h⟩ := h
    obtain ⟨g12, h⟩ := h
    refine (zq_iald2 (v := (mA m (mR m 734 a0) (Int.toNat a5))) dX11_bend_171 (by first | rfl | simp only [zm_Is, zm_Rs, zm_As, zm_Os, zm_In0, zm_Rn0])).mpr ⟨⟨g11, g12⟩, ?_⟩
    refine (zq_isub dX11_bend_172).mpr ?_
    refine (zq_istore dX11_bend_173 (by simp) rfl).mpr ?_
    refine (zq_aload_n dX11_bend_175 rfl).mpr ?_
    refine (zq_getR2 (f := 734) (v := (mR m 734 a0)) dX11_bend_176 fl_11_94 (by decide) rfl rfl (by first | rfl | simp only [zm_Is, zm_Rs, zm_As, zm_Os, zm_In0, zm_Rn0])).mpr ⟨g8, ?_⟩
    refine (zq_iload dX11_bend_179 rfl).mpr ?_
    refine (zq_dup2IR dX11_bend_181).mpr ?_
    refine (zq_iald2 (v := (mA m (mR m 734 a0) (Int.toNat a5))) dX11_bend_182 (by first | rfl | simp only [zm_Is, zm_Rs, zm_As, zm_Os, zm_In0, zm_Rn0])).mpr ⟨⟨g11, g12⟩, ?_⟩
    refine (zq_iload dX11_bend_183 rfl).mpr ?_
    refine zq_staticI (n := 1) dX11_bend_185 mr_11_173 zn_220 rfl rfl (Nat.le_of_ble_eq_true rfl) (Nat.le_of_ble_eq_true rfl) ?_
    refine h.mono (fun r m13 h => ?_)
    obtain ⟨v14, rfl, h⟩ := h
    refine ⟨_, rfl, ?_⟩
    refine (zq_iload dX11_bend_188 rfl).mpr ?_
    refine (zq_iload dX11_bend_190 rfl).mpr ?_
    refine (zq_abs dX11_bend_192 mr_11_221).mpr ⟨(Nat.le_of_ble_eq_true rfl), ?_⟩
    refine (zq_min dX11_bend_195 mr_11_206).mpr ⟨(Nat.le_of_ble_eq_true rfl), ?_⟩
    refine (zq_imul dX11_bend_198).mpr ?_
    refine (zq_iadd dX11_bend_199).mpr ?_
    obtain ⟨g15, h⟩ := h
    obtain ⟨g16, h⟩ := h
    refine (zq_iast dX11_bend_200).mpr ⟨⟨g16, g15⟩, ?_⟩
    refine (zq_iload_n dX11_bend_201 rfl).mpr ?_
    refine (zq_if_eq (t := 226) dX11_bend_202 rfl).mpr ⟨fun c => ?_, fun c => ?_⟩
    · replace h := h.1 c
      refine (zq_iconst dX11_bend_226 (by decide)).mpr ?_
      refine (zq_istore_n dX11_bend_227 (by simp) rfl).mpr ?_
      refine (zq_iinc dX11_bend_228 rfl rfl).mpr ?_
      refine (zq_goto (t := 148) dX11_bend_231 rfl).mpr ?_
      exact h
    · replace h := h.2 c
      refine (zq_aload_n dX11_bend_205 rfl).mpr ?_
      obtain ⟨g17, h⟩ := h
      refine (zq_getR2 (f := 734) (v := (mR m13 734 a0)) dX11_bend_206 fl_11_94 (by decide) rfl rfl (by first | rfl | simp only [zm_Is, zm_Rs, zm_As, zm_Os, zm_In0, zm_Rn0])).mpr ⟨g17, ?_⟩
      refine (zq_iload dX11_bend_209 rfl).mpr ?_
      obtain ⟨g18, h⟩ := h
      obtain ⟨g19, h⟩ := h
      refine (zq_iald2 (v := (mA (sA m13 (mR m 734 a0) (Int.toNat a5) (wr ((mA m (mR m 734 a0) (Int.toNat a5)) + (wr (v14 * (if (if 0 ≤ (wr ((mA m (mR m 735 a0) (Int.toNat a5)) - (mA m (mR m 734 a0) (Int.toNat a5)))) then (wr ((mA m (mR m 735 a0) (Int.toNat a5)) - (mA m (mR m 734 a0) (Int.toNat a5)))) else wr (0 - (wr ((mA m (mR m 735 a0) (Int.toNat a5)) - (mA m (mR m 734 a0) (Int.toNat a5)))))) < a4 then (if 0 ≤ (wr ((mA m (mR m 735 a0) (Int.toNat a5)) - (mA m (mR m 734 a0) (Int.toNat a5)))) then (wr ((mA m (mR m 735 a0) (Int.toNat a5)) - (mA m (mR m 734 a0) (Int.toNat a5)))) else wr (0 - (wr ((mA m (mR m 735 a0) (Int.toNat a5)) - (mA m (mR m 734 a0) (Int.toNat a5)))))) else a4)))))) (mR m13 734 a0) (Int.toNat a5))) dX11_bend_211 (by first | rfl | simp only [zm_Is, zm_Rs, zm_As, zm_Os, zm_In0, zm_Rn0])).mpr ⟨⟨g18, g19⟩, ?_⟩
      refine (zq_aload_n dX11_bend_212 rfl).mpr ?_
      refine (zq_getR2 (f := 735) (v := (mR m13 735 a0)) dX11_bend_213 fl_11_97 (by decide) rfl rfl (by first | rfl | simp only [zm_Is, zm_Rs, zm_As, zm_Os, zm_In0, zm_Rn0])).mpr ⟨g17, ?_⟩
      refine (zq_iload dX11_bend_216 rfl).mpr ?_
      obtain ⟨g20, h⟩ := h
      obtain ⟨g21, h⟩ := h
      refine (zq_iald2 (v := (mA (sA m13 (mR m 734 a0) (Int.toNat a5) (wr ((mA m (mR m 734 a0) (Int.toNat a5)) + (wr (v14 * (if (if 0 ≤ (wr ((mA m (mR m 735 a0) (Int.toNat a5)) - (mA m (mR m 734 a0) (Int.toNat a5)))) then (wr ((mA m (mR m 735 a0) (Int.toNat a5)) - (mA m (mR m 734 a0) (Int.toNat a5)))) else wr (0 - (wr ((mA m (mR m 735 a0) (Int.toNat a5)) - (mA m (mR m 734 a0) (Int.toNat a5)))))) < a4 then (if 0 ≤ (wr ((mA m (mR m 735 a0) (Int.toNat a5)) - (mA m (mR m 734 a0) (Int.toNat a5)))) then (wr ((mA m (mR m 735 a0) (Int.toNat a5)) - (mA m (mR m 734 a0) (Int.toNat a5)))) else wr (0 - (wr ((mA m (mR m 735 a0) (Int.toNat a5)) - (mA m (mR m 734 a0) (Int.toNat a5)))))) else a4)))))) (mR m13 735 a0) (Int.toNat a5))) dX11_bend_218 (by first | rfl | simp only [zm_Is, zm_Rs, zm_As, zm_Os, zm_In0, zm_Rn0])).mpr ⟨⟨g20, g21⟩, ?_⟩
      refine (zq_icmp_ne (t := 226) dX11_bend_219 rfl).mpr ⟨fun c => ?_, fun c => ?_⟩
      · replace h := h.1 c
        refine (zq_iconst dX11_bend_226 (by decide)).mpr ?_
        refine (zq_istore_n dX11_bend_227 (by simp) rfl).mpr ?_
        refine (zq_iinc dX11_bend_228 rfl rfl).mpr ?_
        refine (zq_goto (t := 148) dX11_bend_231 rfl).mpr ?_
        exact h
      · replace h := h.2 c
        refine (zq_iconst dX11_bend_222 (by decide)).mpr ?_
        refine (zq_goto (t := 227) dX11_bend_223 rfl).mpr ?_
        refine (zq_istore_n dX11_bend_227 (by simp) rfl).mpr ?_
        refine (zq_iinc dX11_bend_228 rfl rfl).mpr ?_
        refine (zq_goto (t := 148) dX11_bend_231 rfl).mpr ?_
        exact h
theorem bX11_fit_0 {a0 : Nat} {a1 : Int} (h : zW xs xl d cX11_fit 11 (some .boolean) false [] 6 [zR a0, zI a1, zI 0, zI (wr (3 * a1))] [] m Q) : zC xs xl (d + 1) 154 [zR a0, zI a1] m Q := by
  refine zk_154 ?_
  refine (zq_iconst dX11_fit_0 (by decide)).mpr ?_
  refine (zq_istore_n dX11_fit_1 (by simp) rfl).mpr ?_
  refine (zq_iconst dX11_fit_2 (by decide)).mpr ?_
  refine (zq_iload_n dX11_fit_3 rfl).mpr ?_
  refine (zq_imul dX11_fit_4).mpr ?_
  refine (zq_istore_n dX11_fit_5 (by simp) rfl).mpr ?_
  exact h
theorem bX11_fit_6 {a0 : Nat} {a1 : Int} {a2 : Int} {a3 : Int} (h : (((wr ((wr (3 * a1)) + 3)) ≤ a3 → (mC m a0 = 12) ∧ (mC m (mR m 715 a0) = 20) ∧ (0 ≤ a1 ∧ a1 < mN m (mR m 715 a0)) ∧ ((a2 ≤ (mA m (mR m 715 a0) (Int.toNat a1)) → (mC m (mR m 721 a0) = 20) ∧ (0 ≤ a1 ∧ a1 < mN m (mR m 721 a0)) ∧ (mC m (mR m 722 a0) = 20) ∧ (0 ≤ a1 ∧ a1 < mN m (mR m 722 a0)) ∧ zC xs xl d 155 [zR a0, zI a1] (sA (sA m (mR m 721 a0) (Int.toNat a1) (wr ((mA m (mR m 721 a0) (Int.toNat a1)) + 1))) (mR m 722 a0) (Int.toNat a1) (wr ((mA (sA m (mR m 721 a0) (Int.toNat a1) (wr ((mA m (mR m 721 a0) (Int.toNat a1)) + 1))) (mR m 722 a0) (Int.toNat a1)) + a2))) (fun r m8 => r = .inl none ∧ Q (.inl (some (zI 1))) m8)) ∧ (¬ (a2 ≤ (mA m (mR m 715 a0) (Int.toNat a1))) → zC xs xl d 156 [zR a0, zI a1] m (fun r m10 => ∃ v11 : Int, r = .inl (some (zI v11)) ∧ (v11 = 0 ∨ v11 = 1) ∧ Q (.inl (some (zI v11))) m10)))) ∧ (¬ ((wr ((wr (3 * a1)) + 3)) ≤ a3) → (mC m a0 = 12) ∧ (mC m (mR m 734 a0) = 20) ∧ (0 ≤ a3 ∧ a3 < mN m (mR m 734 a0)) ∧ (mC m (mR m 731 a0) = 20) ∧ (0 ≤ a1 ∧ a1 < mN m (mR m 731 a0)) ∧ (mC m (mR m 735 a0) = 20) ∧ (0 ≤ a3 ∧ a3 < mN m (mR m 735 a0)) ∧ zW xs xl d cX11_fit 11 (some .boolean) false [] 6 [zR a0, zI a1, zI (wr (a2 + (if 0 ≤ (wr ((mA (sA m (mR m 734 a0) (Int.toNat a3) (wr ((mA m (mR m 734 a0) (Int.toNat a3)) - (wr (Int.tdiv (wr ((mA m (mR m 734 a0) (Int.toNat a3)) * (mA m (mR m 731 a0) (Int.toNat a1)))) 200))))) (mR m 735 a0) (Int.toNat a3)) - (wr ((mA m (mR m 734 a0) (Int.toNat a3)) - (wr (Int.tdiv (wr ((mA m (mR m 734 a0) (Int.toNat a3)) * (mA m (mR m 731 a0) (Int.toNat a1)))) 200)))))) then (wr ((mA (sA m (mR m 734 a0) (Int.toNat a3) (wr ((mA m (mR m 734 a0) (Int.toNat a3)) - (wr (Int.tdiv (wr ((mA m (mR m 734 a0) (Int.toNat a3)) * (mA m (mR m 731 a0) (Int.toNat a1)))) 200))))) (mR m 735 a0) (Int.toNat a3)) - (wr ((mA m (mR m 734 a0) (Int.toNat a3)) - (wr (Int.tdiv (wr ((mA m (mR m 734 a0) (Int.toNat a3)) * (mA m (mR m 731 a0) (Int.toNat a1)))) 200)))))) else wr (0 - (wr ((mA (sA m (mR m 734 a0) (Int.toNat a3) (wr ((mA m (mR m 734 a0) (Int.toNat a3)) - (wr (Int.tdiv (wr ((mA m (mR m 734 a0) (Int.toNat a3)) * (mA m (mR m 731 a0) (Int.toNat a1)))) 200))))) (mR m 735 a0) (Int.toNat a3)) - (wr ((mA m (mR m 734 a0) (Int.toNat a3)) - (wr (Int.tdiv (wr ((mA m (mR m 734 a0) (Int.toNat a3)) * (mA m (mR m 731 a0) (Int.toNat a1)))) 200)))))))))), zI (wr (a3 + 1))] [] (sA m (mR m 734 a0) (Int.toNat a3) (wr ((mA m (mR m 734 a0) (Int.toNat a3)) - (wr (Int.tdiv (wr ((mA m (mR m 734 a0) (Int.toNat a3)) * (mA m (mR m 731 a0) (Int.toNat a1)))) 200))))) Q))) : zW xs xl d cX11_fit 11 (some .boolean) false [] 6 [zR a0, zI a1, zI a2, zI a3] [] m Q := by
  refine (zq_iload_n dX11_fit_6 rfl).mpr ?_
  refine (zq_iconst dX11_fit_7 (by decide)).mpr ?_
  refine (zq_iload_n dX11_fit_8 rfl).mpr ?_
  refine (zq_imul dX11_fit_9).mpr ?_
  refine (zq_iconst dX11_fit_10 (by decide)).mpr ?_
  refine (zq_iadd dX11_fit_11).mpr ?_
  refine (zq_icmp_ge (t := 66) dX11_fit_12 rfl).mpr ⟨fun c => ?_, fun c => ?_⟩
  · replace h := h.1 c
    refine (zq_iload_n dX11_fit_66 rfl).mpr ?_
    refine (zq_aload_n dX11_fit_67 rfl).mpr ?_
    obtain ⟨g1, h⟩ := h
    refine (zq_getR2 (f := 715) (v := (mR m 715 a0)) dX11_fit_68 fl_11_37 (by decide) rfl rfl (by first | rfl | simp only [zm_Is, zm_Rs, zm_As, zm_Os, zm_In0, zm_Rn0])).mpr ⟨g1, ?_⟩
    refine (zq_iload_n dX11_fit_71 rfl).mpr ?_
    obtain ⟨g2, h⟩ := h
    obtain ⟨g3, h⟩ := h
    refine (zq_iald2 (v := (mA m (mR m 715 a0) (Int.toNat a1))) dX11_fit_72 (by first | rfl | simp only [zm_Is, zm_Rs, zm_As, zm_Os, zm_In0, zm_Rn0])).mpr ⟨⟨g2, g3⟩, ?_⟩
    refine (zq_icmp_le (t := 82) dX11_fit_73 rfl).mpr ⟨fun c => ?_, fun c => ?_⟩
    · replace h := h.1 c
      refine (zq_aload_n dX11_fit_82 rfl).mpr ?_
      refine (zq_getR2 (f := 721) (v := (mR m 721 a0)) dX11_fit_83 fl_11_55 (by decide) rfl rfl (by first | rfl | simp only [zm_Is, zm_Rs, zm_As, zm_Os, zm_In0, zm_Rn0])).mpr ⟨g1, ?_⟩
      refine (zq_iload_n dX11_fit_86 rfl).mpr ?_
      refine (zq_dup2IR dX11_fit_87).mpr ?_
      obtain ⟨g4, h⟩ := h
      obtain ⟨g5, h⟩ := h
      refine (zq_iald2 (v := (mA m (mR m 721 a0) (Int.toNat a1))) dX11_fit_88 (by first | rfl | simp only [zm_Is, zm_Rs, zm_As, zm_Os, zm_In0, zm_Rn0])).mpr ⟨⟨g4, g5⟩, ?_⟩
      refine (zq_iconst dX11_fit_89 (by decide)).mpr ?_
      refine (zq_iadd dX11_fit_90).mpr ?_
      refine (zq_iast dX11_fit_91).mpr ⟨⟨g4, g5⟩, ?_⟩
      refine (zq_aload_n dX11_fit_92 rfl).mpr ?_
      refine (zq_getR2 (f := 722) (v := (mR m 722 a0)) dX11_fit_93 fl_11_58 (by decide) rfl rfl (by first | rfl | simp only [zm_Is, zm_Rs, zm_As, zm_Os, zm_In0, zm_Rn0])).mpr ⟨g1, ?_⟩
      refine (zq_iload_n dX11_fit_96 rfl).mpr ?_
      refine (zq_dup2IR dX11_fit_97).mpr ?_
      obtain ⟨g6, h⟩ := h
      obtain ⟨g7, h⟩ := h
      refine (zq_iald2 (v := (mA (sA m (mR m 721 a0) (Int.toNat a1) (wr ((mA m (mR m 721 a0) (Int.toNat a1)) + 1))) (mR m 722 a0) (Int.toNat a1))) dX11_fit_98 (by first | rfl | simp only [zm_Is, zm_Rs, zm_As, zm_Os, zm_In0, zm_Rn0])).mpr ⟨⟨g6, g7⟩, ?_⟩
      refine (zq_iload_n dX11_fit_99 rfl).mpr ?_
      refine (zq_iadd dX11_fit_100).mpr ?_
      refine (zq_iast dX11_fit_101).mpr ⟨⟨g6, g7⟩, ?_⟩
      refine (zq_aload_n dX11_fit_102 rfl).mpr ?_
      refine (zq_iload_n dX11_fit_103 rfl).mpr ?_
      refine zq_virtualV (n := 1) dX11_fit_104 mr_11_224 zn_155 rfl rfl rfl (zrcv_R zo_155 (by decide) g1) (Nat.le_of_ble_eq_true rfl) ?_
      refine h.mono (fun r m8 h => ?_)
      obtain ⟨rfl, h⟩ := h
      refine ⟨rfl, ?_⟩
      refine (zq_iconst dX11_fit_107 (by decide)).mpr ?_
      exact (zq_iret dX11_fit_108 rfl).mpr ⟨by decide, h⟩
    · replace h := h.2 c
      refine (zq_aload_n dX11_fit_76 rfl).mpr ?_
      refine (zq_iload_n dX11_fit_77 rfl).mpr ?_
      refine zq_virtualI (n := 1) dX11_fit_78 mr_11_215 zn_156 rfl rfl rfl (zrcv_R zo_156 (by decide) g1) (Nat.le_of_ble_eq_true rfl) ?_
      refine h.mono (fun r m10 h => ?_)
      obtain ⟨v11, rfl, h⟩ := h
      refine ⟨_, rfl, ?_⟩
      obtain ⟨g12, h⟩ := h
      exact (zq_iret dX11_fit_81 rfl).mpr ⟨g12, h⟩
  · replace h := h.2 c
    refine (zq_aload_n dX11_fit_15 rfl).mpr ?_
    obtain ⟨g13, h⟩ := h
    refine (zq_getR2 (f := 734) (v := (mR m 734 a0)) dX11_fit_16 fl_11_94 (by decide) rfl rfl (by first | rfl | simp only [zm_Is, zm_Rs, zm_As, zm_Os, zm_In0, zm_Rn0])).mpr ⟨g13, ?_⟩
    refine (zq_iload_n dX11_fit_19 rfl).mpr ?_
    refine (zq_dup2IR dX11_fit_20).mpr ?_
    obtain ⟨g14, h⟩ := h
    obtain ⟨g15, h⟩ := h
    refine (zq_iald2 (v := (mA m (mR m 734 a0) (Int.toNat a3))) dX11_fit_21 (by first | rfl | simp only [zm_Is, zm_Rs, zm_As, zm_Os, zm_In0, zm_Rn0])).mpr ⟨⟨g14, g15⟩, ?_⟩
    refine (zq_aload_n dX11_fit_22 rfl).mpr ?_
    refine (zq_getR2 (f := 734) (v := (mR m 734 a0)) dX11_fit_23 fl_11_94 (by decide) rfl rfl (by first | rfl | simp only [zm_Is, zm_Rs, zm_As, zm_Os, zm_In0, zm_Rn0])).mpr ⟨g13, ?_⟩
    refine (zq_iload_n dX11_fit_26 rfl).mpr ?_
    refine (zq_iald2 (v := (mA m (mR m 734 a0) (Int.toNat a3))) dX11_fit_27 (by first | rfl | simp only [zm_Is, zm_Rs, zm_As, zm_Os, zm_In0, zm_Rn0])).mpr ⟨⟨g14, g15⟩, ?_⟩
    refine (zq_aload_n dX11_fit_28 rfl).mpr ?_
    refine (zq_getR2 (f := 731) (v := (mR m 731 a0)) dX11_fit_29 fl_11_85 (by decide) rfl rfl (by first | rfl | simp only [zm_Is, zm_Rs, zm_As, zm_Os, zm_In0, zm_Rn0])).mpr ⟨g13, ?_⟩
    refine (zq_iload_n dX11_fit_32 rfl).mpr ?_
    obtain ⟨g16, h⟩ := h
    obtain ⟨g17, h⟩ := h
    refine (zq_iald2 (v := (mA m (mR m 731 a0) (Int.toNat a1))) dX11_fit_33 (by first | rfl | simp only [zm_Is, zm_Rs, zm_As, zm_Os, zm_In0, zm_Rn0])).mpr ⟨⟨g16, g17⟩, ?_⟩
    refine (zq_imul dX11_fit_34).mpr ?_
    refine (zq_sipush dX11_fit_35 (by decide)).mpr ?_
    refine (zq_idiv dX11_fit_38).mpr ⟨by decide, ?_⟩
    refine (zq_isub dX11_fit_39).mpr ?_
    refine (zq_iast dX11_fit_40).mpr ⟨⟨g14, g15⟩, ?_⟩
    refine (zq_iload_n dX11_fit_41 rfl).mpr ?_
    refine (zq_aload_n dX11_fit_42 rfl).mpr ?_
    refine (zq_getR2 (f := 735) (v := (mR m 735 a0)) dX11_fit_43 fl_11_97 (by decide) rfl rfl (by first | rfl | simp only [zm_Is, zm_Rs, zm_As, zm_Os, zm_In0, zm_Rn0])).mpr ⟨g13, ?_⟩
    refine (zq_iload_n dX11_fit_46 rfl).mpr ?_
    obtain ⟨g18, h⟩ := h
    obtain ⟨g19, h⟩ := h
    refine (zq_iald2 (v := (mA (sA m (mR m 734 a0) (Int.toNat a3) (wr ((mA m (mR m 734 a0) (Int.toNat a3)) - (wr (Int.tdiv (wr ((mA m (mR m 734 a0) (Int.toNat a3)) * (mA m (mR m 731 a0) (Int.toNat a1)))) 200))))) (mR m 735 a0) (Int.toNat a3))) dX11_fit_47 (by first | rfl | simp only [zm_Is, zm_Rs, zm_As, zm_Os, zm_In0, zm_Rn0])).mpr ⟨⟨g18, g19⟩, ?_⟩
    refine (zq_aload_n dX11_fit_48 rfl).mpr ?_
    refine (zq_getR2 (f := 734) (v := (mR m 734 a0)) dX11_fit_49 fl_11_94 (by decide) rfl rfl (by first | rfl | simp only [zm_Is, zm_Rs, zm_As, zm_Os, zm_In0, zm_Rn0])).mpr ⟨g13, ?_⟩
    refine (zq_iload_n dX11_fit_52 rfl).mpr ?_
    refine (zq_iald2 (v := (wr ((mA m (mR m 734 a0) (Int.toNat a3)) - (wr (Int.tdiv (wr ((mA m (mR m 734 a0) (Int.toNat a3)) * (mA m (mR m 731 a0) (Int.toNat a1)))) 200))))) dX11_fit_53 (by first | rfl | simp only [zm_Is, zm_Rs, zm_As, zm_Os, zm_In0, zm_Rn0])).mpr ⟨⟨g14, g15⟩, ?_⟩
    refine (zq_isub dX11_fit_54).mpr ?_
    refine (zq_abs dX11_fit_55 mr_11_221).mpr ⟨(Nat.le_of_ble_eq_true rfl), ?_⟩
    refine (zq_iadd dX11_fit_58).mpr ?_
    refine (zq_istore_n dX11_fit_59 (by simp) rfl).mpr ?_
    refine (zq_iinc dX11_fit_60 rfl rfl).mpr ?_
    refine (zq_goto (t := 6) dX11_fit_63 rfl).mpr ?_
    exact h
theorem bX11_clearPiece_0 {a0 : Nat} {a1 : Int} (h : (mC m a0 = 12) ∧ (0 ≤ a1 ∧ a1 < mN m (mR m 729 a0)) ∧ ((mC m (mR m 729 a0) = 21 ∧ (0 = 0 ∨ 0 = 1)) ∨ (mC m (mR m 729 a0) = 22 ∧ -128 ≤ 0 ∧ 0 ≤ 127)) ∧ (0 ≤ a1 ∧ a1 < mN m (mR m 731 a0)) ∧ (mC m (mR m 731 a0) = 20) ∧ (0 ≤ a1 ∧ a1 < mN m (mR m 732 a0)) ∧ (mC m (mR m 732 a0) = 20) ∧ (0 ≤ a1 ∧ a1 < mN m (mR m 733 a0)) ∧ (mC m (mR m 733 a0) = 20) ∧ zW xs xl d cX11_clearPiece 11 (none) false [] 30 [zR a0, zI a1, zI 0] [] (sA (sA (sA (sA m (mR m 729 a0) (Int.toNat a1) 0) (mR m 731 a0) (Int.toNat a1) 0) (mR m 732 a0) (Int.toNat a1) 0) (mR m 733 a0) (Int.toNat a1) 0) Q) : zC xs xl (d + 1) 155 [zR a0, zI a1] m Q := by
  refine zk_155 ?_
  refine (zq_aload_n dX11_clearPiece_0 rfl).mpr ?_
  obtain ⟨g1, h⟩ := h
  refine (zq_getR2 (f := 729) (v := (mR m 729 a0)) dX11_clearPiece_1 fl_11_79 (by decide) rfl rfl (by first | rfl | simp only [zm_Is, zm_Rs, zm_As, zm_Os, zm_In0, zm_Rn0])).mpr ⟨g1, ?_⟩
  refine (zq_iload_n dX11_clearPiece_4 rfl).mpr ?_
  refine (zq_iconst dX11_clearPiece_5 (by decide)).mpr ?_
  obtain ⟨g2, h⟩ := h
  obtain ⟨g3, h⟩ := h
  refine (zq_bast dX11_clearPiece_6).mpr ⟨⟨g3, g2⟩, ?_⟩
  refine (zq_aload_n dX11_clearPiece_7 rfl).mpr ?_
  refine (zq_getR2 (f := 731) (v := (mR m 731 a0)) dX11_clearPiece_8 fl_11_85 (by decide) rfl rfl (by first | rfl | simp only [zm_Is, zm_Rs, zm_As, zm_Os, zm_In0, zm_Rn0])).mpr ⟨g1, ?_⟩
  refine (zq_iload_n dX11_clearPiece_11 rfl).mpr ?_
  refine (zq_iconst dX11_clearPiece_12 (by decide)).mpr ?_
  obtain ⟨g4, h⟩ := h
  obtain ⟨g5, h⟩ := h
  refine (zq_iast dX11_clearPiece_13).mpr ⟨⟨g5, g4⟩, ?_⟩
  refine (zq_aload_n dX11_clearPiece_14 rfl).mpr ?_
  refine (zq_getR2 (f := 732) (v := (mR m 732 a0)) dX11_clearPiece_15 fl_11_88 (by decide) rfl rfl (by first | rfl | simp only [zm_Is, zm_Rs, zm_As, zm_Os, zm_In0, zm_Rn0])).mpr ⟨g1, ?_⟩
  refine (zq_iload_n dX11_clearPiece_18 rfl).mpr ?_
  refine (zq_iconst dX11_clearPiece_19 (by decide)).mpr ?_
  obtain ⟨g6, h⟩ := h
  obtain ⟨g7, h⟩ := h
  refine (zq_iast dX11_clearPiece_20).mpr ⟨⟨g7, g6⟩, ?_⟩
  refine (zq_aload_n dX11_clearPiece_21 rfl).mpr ?_
  refine (zq_getR2 (f := 733) (v := (mR m 733 a0)) dX11_clearPiece_22 fl_11_91 (by decide) rfl rfl (by first | rfl | simp only [zm_Is, zm_Rs, zm_As, zm_Os, zm_In0, zm_Rn0])).mpr ⟨g1, ?_⟩
  refine (zq_iload_n dX11_clearPiece_25 rfl).mpr ?_
  refine (zq_iconst dX11_clearPiece_26 (by decide)).mpr ?_
  obtain ⟨g8, h⟩ := h
  obtain ⟨g9, h⟩ := h
  refine (zq_iast dX11_clearPiece_27).mpr ⟨⟨g9, g8⟩, ?_⟩
  refine (zq_iconst dX11_clearPiece_28 (by decide)).mpr ?_
  refine (zq_istore_n dX11_clearPiece_29 (by simp) rfl).mpr ?_
  exact h
theorem bX11_clearPiece_30 {a0 : Nat} {a1 : Int} {a2 : Int} (h : ((3 ≤ a2 → Q (.inl none) m) ∧ (¬ (3 ≤ a2) → (mC m a0 = 12) ∧ (0 ≤ (wr ((wr (3 * a1)) + a2)) ∧ (wr ((wr (3 * a1)) + a2)) < mN m (mR m 734 a0)) ∧ (mC m (mR m 734 a0) = 20) ∧ (0 ≤ (wr ((wr (3 * a1)) + a2)) ∧ (wr ((wr (3 * a1)) + a2)) < mN m (mR m 735 a0)) ∧ (mC m (mR m 735 a0) = 20) ∧ zW xs xl d cX11_clearPiece 11 (none) false [] 30 [zR a0, zI a1, zI (wr (a2 + 1))] [] (sA (sA m (mR m 734 a0) (Int.toNat (wr ((wr (3 * a1)) + a2))) 0) (mR m 735 a0) (Int.toNat (wr ((wr (3 * a1)) + a2))) 0) Q))) : zW xs xl d cX11_clearPiece 11 (none) false [] 30 [zR a0, zI a1, zI a2] [] m Q := by
  refine (zq_iload_n dX11_clearPiece_30 rfl).mpr ?_
  refine (zq_iconst dX11_clearPiece_31 (by decide)).mpr ?_
  refine (zq_icmp_ge (t := 63) dX11_clearPiece_32 rfl).mpr ⟨fun c => ?_, fun c => ?_⟩
  · replace h := h.1 c
    exact (zq_ret dX11_clearPiece_63 rfl).mpr h
  · replace h := h.2 c
    refine (zq_aload_n dX11_clearPiece_35 rfl).mpr ?_
    obtain ⟨g1, h⟩ := h
    refine (zq_getR2 (f := 734) (v := (mR m 734 a0)) dX11_clearPiece_36 fl_11_94 (by decide) rfl rfl (by first | rfl | simp only [zm_Is, zm_Rs, zm_As, zm_Os, zm_In0, zm_Rn0])).mpr ⟨g1, ?_⟩
    refine (zq_iconst dX11_clearPiece_39 (by decide)).mpr ?_
    refine (zq_iload_n dX11_clearPiece_40 rfl).mpr ?_
    refine (zq_imul dX11_clearPiece_41).mpr ?_
    refine (zq_iload_n dX11_clearPiece_42 rfl).mpr ?_
    refine (zq_iadd dX11_clearPiece_43).mpr ?_
    refine (zq_iconst dX11_clearPiece_44 (by decide)).mpr ?_
    obtain ⟨g2, h⟩ := h
    obtain ⟨g3, h⟩ := h
    refine (zq_iast dX11_clearPiece_45).mpr ⟨⟨g3, g2⟩, ?_⟩
    refine (zq_aload_n dX11_clearPiece_46 rfl).mpr ?_
    refine (zq_getR2 (f := 735) (v := (mR m 735 a0)) dX11_clearPiece_47 fl_11_97 (by decide) rfl rfl (by first | rfl | simp only [zm_Is, zm_Rs, zm_As, zm_Os, zm_In0, zm_Rn0])).mpr ⟨g1, ?_⟩
    refine (zq_iconst dX11_clearPiece_50 (by decide)).mpr ?_
    refine (zq_iload_n dX11_clearPiece_51 rfl).mpr ?_
    refine (zq_imul dX11_clearPiece_52).mpr ?_
    refine (zq_iload_n dX11_clearPiece_53 rfl).mpr ?_
    refine (zq_iadd dX11_clearPiece_54).mpr ?_
    refine (zq_iconst dX11_clearPiece_55 (by decide)).mpr ?_
    obtain ⟨g4, h⟩ := h
    obtain ⟨g5, h⟩ := h
    refine (zq_iast dX11_clearPiece_56).mpr ⟨⟨g5, g4⟩, ?_⟩
    refine (zq_iinc dX11_clearPiece_57 rfl rfl).mpr ?_
    refine (zq_goto (t := 30) dX11_clearPiece_60 rfl).mpr ?_
    exact h
theorem bX11_lose_0 {a0 : Nat} {a1 : Int} (h : (mC m a0 = 12) ∧ zC xs xl d 155 [zR a0, zI a1] m (fun r m1 => r = .inl none ∧ (mC m1 a0 = 12) ∧ (mC m1 (mR m1 723 a0) = 20) ∧ (0 ≤ a1 ∧ a1 < mN m1 (mR m1 723 a0)) ∧ (mC m1 (mR m1 719 a0) = 20) ∧ (0 ≤ a1 ∧ a1 < mN m1 (mR m1 719 a0)) ∧ (0 ≤ a1 ∧ a1 < mN m1 (mR m1 718 a0)) ∧ (mC m1 (mR m1 718 a0) = 20) ∧ (0 ≤ a1 ∧ a1 < mN m1 (mR m1 720 a0)) ∧ (mC m1 (mR m1 720 a0) = 20) ∧ Q (.inl (some (zI 0))) (sA (sA (sI (sA m1 (mR m1 723 a0) (Int.toNat a1) (wr ((mA m1 (mR m1 723 a0) (Int.toNat a1)) + 1))) 737 a0 (wr ((mI m1 737 a0) + 1))) (mR m1 718 a0) (Int.toNat a1) (mA (sA m1 (mR m1 723 a0) (Int.toNat a1) (wr ((mA m1 (mR m1 723 a0) (Int.toNat a1)) + 1))) (mR m1 719 a0) (Int.toNat a1))) (mR m1 720 a0) (Int.toNat a1) 0))) : zC xs xl (d + 1) 156 [zR a0, zI a1] m Q := by
  refine zk_156 ?_
  refine (zq_aload_n dX11_lose_0 rfl).mpr ?_
  refine (zq_iload_n dX11_lose_1 rfl).mpr ?_
  obtain ⟨g3, h⟩ := h
  refine zq_virtualV (n := 1) dX11_lose_2 mr_11_224 zn_155 rfl rfl rfl (zrcv_R zo_155 (by decide) g3) (Nat.le_of_ble_eq_true rfl) ?_
  refine h.mono (fun r m1 h => ?_)
  obtain ⟨rfl, h⟩ := h
  refine ⟨rfl, ?_⟩
  refine (zq_aload_n dX11_lose_5 rfl).mpr ?_
  obtain ⟨g4, h⟩ := h
  refine (zq_getR2 (f := 723) (v := (mR m1 723 a0)) dX11_lose_6 fl_11_61 (by decide) rfl rfl (by first | rfl | simp only [zm_Is, zm_Rs, zm_As, zm_Os, zm_In0, zm_Rn0])).mpr ⟨g4, ?_⟩
  refine (zq_iload_n dX11_lose_9 rfl).mpr ?_
  refine (zq_dup2IR dX11_lose_10).mpr ?_
  obtain ⟨g5, h⟩ := h
  obtain ⟨g6, h⟩ := h
  refine (zq_iald2 (v := (mA m1 (mR m1 723 a0) (Int.toNat a1))) dX11_lose_11 (by first | rfl | simp only [zm_Is, zm_Rs, zm_As, zm_Os, zm_In0, zm_Rn0])).mpr ⟨⟨g5, g6⟩, ?_⟩
  refine (zq_iconst dX11_lose_12 (by decide)).mpr ?_
  refine (zq_iadd dX11_lose_13).mpr ?_
  refine (zq_iast dX11_lose_14).mpr ⟨⟨g5, g6⟩, ?_⟩
  refine (zq_aload_n dX11_lose_15 rfl).mpr ?_
  refine (zq_dupR dX11_lose_16).mpr ?_
  refine (zq_getI2 (f := 737) (v := (mI m1 737 a0)) dX11_lose_17 fl_11_122 (by decide) rfl rfl (by first | rfl | simp only [zm_Is, zm_Rs, zm_As, zm_Os, zm_In0, zm_Rn0])).mpr ⟨g4, ?_⟩
  refine (zq_iconst dX11_lose_20 (by decide)).mpr ?_
  refine (zq_iadd dX11_lose_21).mpr ?_
  refine (zq_putI (f := 737) dX11_lose_22 fl_11_122 (by decide) rfl rfl rfl).mpr ⟨g4, ?_⟩
  refine (zq_aload_n dX11_lose_25 rfl).mpr ?_
  refine (zq_getR2 (f := 718) (v := (mR m1 718 a0)) dX11_lose_26 fl_11_46 (by decide) rfl rfl (by first | rfl | simp only [zm_Is, zm_Rs, zm_As, zm_Os, zm_In0, zm_Rn0])).mpr ⟨g4, ?_⟩
  refine (zq_iload_n dX11_lose_29 rfl).mpr ?_
  refine (zq_aload_n dX11_lose_30 rfl).mpr ?_
  refine (zq_getR2 (f := 719) (v := (mR m1 719 a0)) dX11_lose_31 fl_11_49 (by decide) rfl rfl (by first | rfl | simp only [zm_Is, zm_Rs, zm_As, zm_Os, zm_In0, zm_Rn0])).mpr ⟨g4, ?_⟩
  refine (zq_iload_n dX11_lose_34 rfl).mpr ?_
  obtain ⟨g7, h⟩ := h
  obtain ⟨g8, h⟩ := h
  refine (zq_iald2 (v := (mA (sA m1 (mR m1 723 a0) (Int.toNat a1) (wr ((mA m1 (mR m1 723 a0) (Int.toNat a1)) + 1))) (mR m1 719 a0) (Int.toNat a1))) dX11_lose_35 (by first | rfl | simp only [zm_Is, zm_Rs, zm_As, zm_Os, zm_In0, zm_Rn0])).mpr ⟨⟨g7, g8⟩, ?_⟩
  obtain ⟨g9, h⟩ := h
  obtain ⟨g10, h⟩ := h
  refine (zq_iast dX11_lose_36).mpr ⟨⟨g10, g9⟩, ?_⟩
  refine (zq_aload_n dX11_lose_37 rfl).mpr ?_
  refine (zq_getR2 (f := 720) (v := (mR m1 720 a0)) dX11_lose_38 fl_11_52 (by decide) rfl rfl (by first | rfl | simp only [zm_Is, zm_Rs, zm_As, zm_Os, zm_In0, zm_Rn0])).mpr ⟨g4, ?_⟩
  refine (zq_iload_n dX11_lose_41 rfl).mpr ?_
  refine (zq_iconst dX11_lose_42 (by decide)).mpr ?_
  obtain ⟨g11, h⟩ := h
  obtain ⟨g12, h⟩ := h
  refine (zq_iast dX11_lose_43).mpr ⟨⟨g12, g11⟩, ?_⟩
  refine (zq_iconst dX11_lose_44 (by decide)).mpr ?_
  exact (zq_iret dX11_lose_45 rfl).mpr ⟨by decide, h⟩
theorem bX11_finish_0 {a0 : Nat} {a1 : Int} (h : (mC m a0 = 12) ∧ (0 ≤ a1 ∧ a1 < mN m (mR m 714 a0)) ∧ ((mC m (mR m 714 a0) = 21 ∧ (0 = 0 ∨ 0 = 1)) ∨ (mC m (mR m 714 a0) = 22 ∧ -128 ≤ 0 ∧ 0 ≤ 127)) ∧ ((40 ≤ (mI m 736 a0) → Q (.inl none) (sI (sA m (mR m 714 a0) (Int.toNat a1) 0) 736 a0 (wr ((mI m 736 a0) + 1)))) ∧ (¬ (40 ≤ (mI m 736 a0)) → (0 < mN (nwA (sA m (mR m 714 a0) (Int.toNat a1) 0) 20 6) (mz m)) ∧ (mC (nwA (sA m (mR m 714 a0) (Int.toNat a1) 0) 20 6) (mz m) = 20) ∧ (mC (nwA (sA m (mR m 714 a0) (Int.toNat a1) 0) 20 6) a0 = 12) ∧ (mC (nwA (sA m (mR m 714 a0) (Int.toNat a1) 0) 20 6) (mR m 713 a0) = 20) ∧ (0 ≤ a1 ∧ a1 < mN (nwA (sA m (mR m 714 a0) (Int.toNat a1) 0) 20 6) (mR m 713 a0)) ∧ (1 < mN (nwA (sA m (mR m 714 a0) (Int.toNat a1) 0) 20 6) (mz m)) ∧ (mC (nwA (sA m (mR m 714 a0) (Int.toNat a1) 0) 20 6) (mR m 721 a0) = 20) ∧ (0 ≤ a1 ∧ a1 < mN (nwA (sA m (mR m 714 a0) (Int.toNat a1) 0) 20 6) (mR m 721 a0)) ∧ (2 < mN (nwA (sA m (mR m 714 a0) (Int.toNat a1) 0) 20 6) (mz m)) ∧ (mC (nwA (sA m (mR m 714 a0) (Int.toNat a1) 0) 20 6) (mR m 722 a0) = 20) ∧ (0 ≤ a1 ∧ a1 < mN (nwA (sA m (mR m 714 a0) (Int.toNat a1) 0) 20 6) (mR m 722 a0)) ∧ (3 < mN (nwA (sA m (mR m 714 a0) (Int.toNat a1) 0) 20 6) (mz m)) ∧ (mC (nwA (sA m (mR m 714 a0) (Int.toNat a1) 0) 20 6) (mR m 724 a0) = 20) ∧ (0 ≤ a1 ∧ a1 < mN (nwA (sA m (mR m 714 a0) (Int.toNat a1) 0) 20 6) (mR m 724 a0)) ∧ (4 < mN (nwA (sA m (mR m 714 a0) (Int.toNat a1) 0) 20 6) (mz m)) ∧ (5 < mN (nwA (sA m (mR m 714 a0) (Int.toNat a1) 0) 20 6) (mz m)) ∧ (0 ≤ 6 ∧ 0 ≤ (wr (6 * (mI m 736 a0))) ∧ 0 ≤ 0 ∧ 0 + 6 ≤ mN (nwA (sA m (mR m 714 a0) (Int.toNat a1) 0) 20 6) (mz m) ∧ (wr (6 * (mI m 736 a0))) + 6 ≤ mN (nwA (sA m (mR m 714 a0) (Int.toNat a1) 0) 20 6) (mR m 739 a0) ∧ mC (nwA (sA m (mR m 714 a0) (Int.toNat a1) 0) 20 6) (mz m) = mC (nwA (sA m (mR m 714 a0) (Int.toNat a1) 0) 20 6) (mR m 739 a0) ∧ (mC (nwA (sA m (mR m 714 a0) (Int.toNat a1) 0) 20 6) (mz m) = 20 ∨ (mC (nwA (sA m (mR m 714 a0) (Int.toNat a1) 0) 20 6) (mz m) = 21 ∧ ∀ j : Nat, 0 ≤ j → j < 0 + 6 → mA (sA (sA (sA (sA (sA (sA (nwA (sA m (mR m 714 a0) (Int.toNat a1) 0) 20 6) (mz m) 0 a1) (mz m) 1 (mA (sA (nwA (sA m (mR m 714 a0) (Int.toNat a1) 0) 20 6) (mz m) 0 a1) (mR m 713 a0) (Int.toNat a1))) (mz m) 2 (mA (sA (sA (nwA (sA m (mR m 714 a0) (Int.toNat a1) 0) 20 6) (mz m) 0 a1) (mz m) 1 (mA (sA (nwA (sA m (mR m 714 a0) (Int.toNat a1) 0) 20 6) (mz m) 0 a1) (mR m 713 a0) (Int.toNat a1))) (mR m 721 a0) (Int.toNat a1))) (mz m) 3 (mA (sA (sA (sA (nwA (sA m (mR m 714 a0) (Int.toNat a1) 0) 20 6) (mz m) 0 a1) (mz m) 1 (mA (sA (nwA (sA m (mR m 714 a0) (Int.toNat a1) 0) 20 6) (mz m) 0 a1) (mR m 713 a0) (Int.toNat a1))) (mz m) 2 (mA (sA (sA (nwA (sA m (mR m 714 a0) (Int.toNat a1) 0) 20 6) (mz m) 0 a1) (mz m) 1 (mA (sA (nwA (sA m (mR m 714 a0) (Int.toNat a1) 0) 20 6) (mz m) 0 a1) (mR m 713 a0) (Int.toNat a1))) (mR m 721 a0) (Int.toNat a1))) (mR m 722 a0) (Int.toNat a1))) (mz m) 4 (mA (sA (sA (sA (sA (nwA (sA m (mR m 714 a0) (Int.toNat a1) 0) 20 6) (mz m) 0 a1) (mz m) 1 (mA (sA (nwA (sA m (mR m 714 a0) (Int.toNat a1) 0) 20 6) (mz m) 0 a1) (mR m 713 a0) (Int.toNat a1))) (mz m) 2 (mA (sA (sA (nwA (sA m (mR m 714 a0) (Int.toNat a1) 0) 20 6) (mz m) 0 a1) (mz m) 1 (mA (sA (nwA (sA m (mR m 714 a0) (Int.toNat a1) 0) 20 6) (mz m) 0 a1) (mR m 713 a0) (Int.toNat a1))) (mR m 721 a0) (Int.toNat a1))) (mz m) 3 (mA (sA (sA (sA (nwA (sA m (mR m 714 a0) (Int.toNat a1) 0) 20 6) (mz m) 0 a1) (mz m) 1 (mA (sA (nwA (sA m (mR m 714 a0) (Int.toNat a1) 0) 20 6) (mz m) 0 a1) (mR m 713 a0) (Int.toNat a1))) (mz m) 2 (mA (sA (sA (nwA (sA m (mR m 714 a0) (Int.toNat a1) 0) 20 6) (mz m) 0 a1) (mz m) 1 (mA (sA (nwA (sA m (mR m 714 a0) (Int.toNat a1) 0) 20 6) (mz m) 0 a1) (mR m 713 a0) (Int.toNat a1))) (mR m 721 a0) (Int.toNat a1))) (mR m 722 a0) (Int.toNat a1))) (mR m 724 a0) (Int.toNat a1))) (mz m) 5 (mI m 704 a0)) (mz m) j = 0 ∨ mA (sA (sA (sA (sA (sA (sA (nwA (sA m (mR m 714 a0) (Int.toNat a1) 0) 20 6) (mz m) 0 a1) (mz m) 1 (mA (sA (nwA (sA m (mR m 714 a0) (Int.toNat a1) 0) 20 6) (mz m) 0 a1) (mR m 713 a0) (Int.toNat a1))) (mz m) 2 (mA (sA (sA (nwA (sA m (mR m 714 a0) (Int.toNat a1) 0) 20 6) (mz m) 0 a1) (mz m) 1 (mA (sA (nwA (sA m (mR m 714 a0) (Int.toNat a1) 0) 20 6) (mz m) 0 a1) (mR m 713 a0) (Int.toNat a1))) (mR m 721 a0) (Int.toNat a1))) (mz m) 3 (mA (sA (sA (sA (nwA (sA m (mR m 714 a0) (Int.toNat a1) 0) 20 6) (mz m) 0 a1) (mz m) 1 (mA (sA (nwA (sA m (mR m 714 a0) (Int.toNat a1) 0) 20 6) (mz m) 0 a1) (mR m 713 a0) (Int.toNat a1))) (mz m) 2 (mA (sA (sA (nwA (sA m (mR m 714 a0) (Int.toNat a1) 0) 20 6) (mz m) 0 a1) (mz m) 1 (mA (sA (nwA (sA m (mR m 714 a0) (Int.toNat a1) 0) 20 6) (mz m) 0 a1) (mR m 713 a0) (Int.toNat a1))) (mR m 721 a0) (Int.toNat a1))) (mR m 722 a0) (Int.toNat a1))) (mz m) 4 (mA (sA (sA (sA (sA (nwA (sA m (mR m 714 a0) (Int.toNat a1) 0) 20 6) (mz m) 0 a1) (mz m) 1 (mA (sA (nwA (sA m (mR m 714 a0) (Int.toNat a1) 0) 20 6) (mz m) 0 a1) (mR m 713 a0) (Int.toNat a1))) (mz m) 2 (mA (sA (sA (nwA (sA m (mR m 714 a0) (Int.toNat a1) 0) 20 6) (mz m) 0 a1) (mz m) 1 (mA (sA (nwA (sA m (mR m 714 a0) (Int.toNat a1) 0) 20 6) (mz m) 0 a1) (mR m 713 a0) (Int.toNat a1))) (mR m 721 a0) (Int.toNat a1))) (mz m) 3 (mA (sA (sA (sA (nwA (sA m (mR m 714 a0) (Int.toNat a1) 0) 20 6) (mz m) 0 a1) (mz m) 1 (mA (sA (nwA (sA m (mR m 714 a0) (Int.toNat a1) 0) 20 6) (mz m) 0 a1) (mR m 713 a0) (Int.toNat a1))) (mz m) 2 (mA (sA (sA (nwA (sA m (mR m 714 a0) (Int.toNat a1) 0) 20 6) (mz m) 0 a1) (mz m) 1 (mA (sA (nwA (sA m (mR m 714 a0) (Int.toNat a1) 0) 20 6) (mz m) 0 a1) (mR m 713 a0) (Int.toNat a1))) (mR m 721 a0) (Int.toNat a1))) (mR m 722 a0) (Int.toNat a1))) (mR m 724 a0) (Int.toNat a1))) (mz m) 5 (mI m 704 a0)) (mz m) j = 1)) ∧ (mz m) ≠ (mR m 739 a0)) ∧ Q (.inl none) (sI (cpA (sA (sA (sA (sA (sA (sA (nwA (sA m (mR m 714 a0) (Int.toNat a1) 0) 20 6) (mz m) 0 a1) (mz m) 1 (mA (sA (nwA (sA m (mR m 714 a0) (Int.toNat a1) 0) 20 6) (mz m) 0 a1) (mR m 713 a0) (Int.toNat a1))) (mz m) 2 (mA (sA (sA (nwA (sA m (mR m 714 a0) (Int.toNat a1) 0) 20 6) (mz m) 0 a1) (mz m) 1 (mA (sA (nwA (sA m (mR m 714 a0) (Int.toNat a1) 0) 20 6) (mz m) 0 a1) (mR m 713 a0) (Int.toNat a1))) (mR m 721 a0) (Int.toNat a1))) (mz m) 3 (mA (sA (sA (sA (nwA (sA m (mR m 714 a0) (Int.toNat a1) 0) 20 6) (mz m) 0 a1) (mz m) 1 (mA (sA (nwA (sA m (mR m 714 a0) (Int.toNat a1) 0) 20 6) (mz m) 0 a1) (mR m 713 a0) (Int.toNat a1))) (mz m) 2 (mA (sA (sA (nwA (sA m (mR m 714 a0) (Int.toNat a1) 0) 20 6) (mz m) 0 a1) (mz m) 1 (mA (sA (nwA (sA m (mR m 714 a0) (Int.toNat a1) 0) 20 6) (mz m) 0 a1) (mR m 713 a0) (Int.toNat a1))) (mR m 721 a0) (Int.toNat a1))) (mR m 722 a0) (Int.toNat a1))) (mz m) 4 (mA (sA (sA (sA (sA (nwA (sA m (mR m 714 a0) (Int.toNat a1) 0) 20 6) (mz m) 0 a1) (mz m) 1 (mA (sA (nwA (sA m (mR m 714 a0) (Int.toNat a1) 0) 20 6) (mz m) 0 a1) (mR m 713 a0) (Int.toNat a1))) (mz m) 2 (mA (sA (sA (nwA (sA m (mR m 714 a0) (Int.toNat a1) 0) 20 6) (mz m) 0 a1) (mz m) 1 (mA (sA (nwA (sA m (mR m 714 a0) (Int.toNat a1) 0) 20 6) (mz m) 0 a1) (mR m 713 a0) (Int.toNat a1))) (mR m 721 a0) (Int.toNat a1))) (mz m) 3 (mA (sA (sA (sA (nwA (sA m (mR m 714 a0) (Int.toNat a1) 0) 20 6) (mz m) 0 a1) (mz m) 1 (mA (sA (nwA (sA m (mR m 714 a0) (Int.toNat a1) 0) 20 6) (mz m) 0 a1) (mR m 713 a0) (Int.toNat a1))) (mz m) 2 (mA (sA (sA (nwA (sA m (mR m 714 a0) (Int.toNat a1) 0) 20 6) (mz m) 0 a1) (mz m) 1 (mA (sA (nwA (sA m (mR m 714 a0) (Int.toNat a1) 0) 20 6) (mz m) 0 a1) (mR m 713 a0) (Int.toNat a1))) (mR m 721 a0) (Int.toNat a1))) (mR m 722 a0) (Int.toNat a1))) (mR m 724 a0) (Int.toNat a1))) (mz m) 5 (mI m 704 a0)) (mz m) 0 (mR m 739 a0) (Int.toNat (wr (6 * (mI m 736 a0)))) 6) 736 a0 (wr ((mI m 736 a0) + 1)))))) : zC xs xl (d + 1) 157 [zR a0, zI a1] m Q := by
  refine zk_157 ?_
  refine (zq_aload_n dX11_finish_0 rfl).mpr ?_
  obtain ⟨g1, h⟩ := h
  refine (zq_getR2 (f := 714) (v := (mR m 714 a0)) dX11_finish_1 fl_11_33 (by decide) rfl rfl (by first | rfl | simp only [zm_Is, zm_Rs, zm_As, zm_Os, zm_In0, zm_Rn0])).mpr ⟨g1, ?_⟩
  refine (zq_iload_n dX11_finish_4 rfl).mpr ?_
  refine (zq_iconst dX11_finish_5 (by decide)).mpr ?_
  obtain ⟨g2, h⟩ := h
  obtain ⟨g3, h⟩ := h
  refine (zq_bast dX11_finish_6).mpr ⟨⟨g3, g2⟩, ?_⟩
  refine (zq_aload_n dX11_finish_7 rfl).mpr ?_
  refine (zq_getI2 (f := 736) (v := (mI m 736 a0)) dX11_finish_8 fl_11_119 (by decide) rfl rfl (by first | rfl | simp only [zm_Is, zm_Rs, zm_As, zm_Os, zm_In0, zm_Rn0])).mpr ⟨g1, ?_⟩
  refine (zq_bipush dX11_finish_11 (by decide)).mpr ?_
  refine (zq_icmp_ge (t := 86) dX11_finish_13 rfl).mpr ⟨fun c => ?_, fun c => ?_⟩
  · replace h := h.1 c
    refine (zq_aload_n dX11_finish_86 rfl).mpr ?_
    refine (zq_dupR dX11_finish_87).mpr ?_
    refine (zq_getI2 (f := 736) (v := (mI m 736 a0)) dX11_finish_88 fl_11_119 (by decide) rfl rfl (by first | rfl | simp only [zm_Is, zm_Rs, zm_As, zm_Os, zm_In0, zm_Rn0])).mpr ⟨g1, ?_⟩
    refine (zq_iconst dX11_finish_91 (by decide)).mpr ?_
    refine (zq_iadd dX11_finish_92).mpr ?_
    refine (zq_putI (f := 736) dX11_finish_93 fl_11_119 (by decide) rfl rfl rfl).mpr ⟨g1, ?_⟩
    exact (zq_ret dX11_finish_96 rfl).mpr h
  · replace h := h.2 c
    refine (zq_bipush dX11_finish_16 (by decide)).mpr ?_
    refine (zq_newarray (kd := 20) dX11_finish_18 rfl (by decide)).mpr ⟨by decide, ?_⟩
    refine (zq_dupR dX11_finish_20).mpr ?_
    refine (zq_iconst dX11_finish_21 (by decide)).mpr ?_
    refine (zq_iload_n dX11_finish_22 rfl).mpr ?_
    obtain ⟨g5, h⟩ := h
    obtain ⟨g6, h⟩ := h
    refine (zq_iast dX11_finish_23).mpr ⟨⟨g6, ⟨by decide, g5⟩⟩, ?_⟩
    refine (zq_dupR dX11_finish_24).mpr ?_
    refine (zq_iconst dX11_finish_25 (by decide)).mpr ?_
    refine (zq_aload_n dX11_finish_26 rfl).mpr ?_
    obtain ⟨g7, h⟩ := h
    refine (zq_getR2 (f := 713) (v := (mR m 713 a0)) dX11_finish_27 fl_11_30 (by decide) rfl rfl (by first | rfl | simp only [zm_Is, zm_Rs, zm_As, zm_Os, zm_In0, zm_Rn0])).mpr ⟨g7, ?_⟩
    refine (zq_iload_n dX11_finish_30 rfl).mpr ?_
    obtain ⟨g8, h⟩ := h
    obtain ⟨g9, h⟩ := h
    refine (zq_iald2 (v := (mA (sA (nwA (sA m (mR m 714 a0) (Int.toNat a1) 0) 20 6) (mz m) 0 a1) (mR m 713 a0) (Int.toNat a1))) dX11_finish_31 (by first | rfl | simp only [zm_Is, zm_Rs, zm_As, zm_Os, zm_In0, zm_Rn0])).mpr ⟨⟨g8, g9⟩, ?_⟩
    obtain ⟨g10, h⟩ := h
    refine (zq_iast dX11_finish_32).mpr ⟨⟨g6, ⟨by decide, g10⟩⟩, ?_⟩
    refine (zq_dupR dX11_finish_33).mpr ?_
    refine (zq_iconst dX11_finish_34 (by decide)).mpr ?_
    refine (zq_aload_n dX11_finish_35 rfl).mpr ?_
    refine (zq_getR2 (f := 721) (v := (mR m 721 a0)) dX11_finish_36 fl_11_55 (by decide) rfl rfl (by first | rfl | simp only [zm_Is, zm_Rs, zm_As, zm_Os, zm_In0, zm_Rn0])).mpr ⟨g7, ?_⟩
    refine (zq_iload_n dX11_finish_39 rfl).mpr ?_
    obtain ⟨g11, h⟩ := h
    obtain ⟨g12, h⟩ := h
    refine (zq_iald2 (v := (mA (sA (sA (nwA (sA m (mR m 714 a0) (Int.toNat a1) 0) 20 6) (mz m) 0 a1) (mz m) 1 (mA (sA (nwA (sA m (mR m 714 a0) (Int.toNat a1) 0) 20 6) (mz m) 0 a1) (mR m 713 a0) (Int.toNat a1))) (mR m 721 a0) (Int.toNat a1))) dX11_finish_40 (by first | rfl | simp only [zm_Is, zm_Rs, zm_As, zm_Os, zm_In0, zm_Rn0])).mpr ⟨⟨g11, g12⟩, ?_⟩
    obtain ⟨g13, h⟩ := h
    refine (zq_iast dX11_finish_41).mpr ⟨⟨g6, ⟨by decide, g13⟩⟩, ?_⟩
    refine (zq_dupR dX11_finish_42).mpr ?_
    refine (zq_iconst dX11_finish_43 (by decide)).mpr ?_
    refine (zq_aload_n dX11_finish_44 rfl).mpr ?_
    refine (zq_getR2 (f := 722) (v := (mR m 722 a0)) dX11_finish_45 fl_11_58 (by decide) rfl rfl (by first | rfl | simp only [zm_Is, zm_Rs, zm_As, zm_Os, zm_In0, zm_Rn0])).mpr ⟨g7, ?_⟩
    refine (zq_iload_n dX11_finish_48 rfl).mpr ?_
    obtain ⟨g14, h⟩ := h
    obtain ⟨g15, h⟩ := h
    refine (zq_iald2 (v := (mA (sA (sA (sA (nwA (sA m (mR m 714 a0) (Int.toNat a1) 0) 20 6) (mz m) 0 a1) (mz m) 1 (mA (sA (nwA (sA m (mR m 714 a0) (Int.toNat a1) 0) 20 6) (mz m) 0 a1) (mR m 713 a0) (Int.toNat a1))) (mz m) 2 (mA (sA (sA (nwA (sA m (mR m 714 a0) (Int.toNat a1) 0) 20 6) (mz m) 0 a1) (mz m) 1 (mA (sA (nwA (sA m (mR m 714 a0) (Int.toNat a1) 0) 20 6) (mz m) 0 a1) (mR m 713 a0) (Int.toNat a1))) (mR m 721 a0) (Int.toNat a1))) (mR m 722 a0) (Int.toNat a1))) dX11_finish_49 (by first | rfl | simp only [zm_Is, zm_Rs, zm_As, zm_Os, zm_In0, zm_Rn0])).mpr ⟨⟨g14, g15⟩, ?_⟩
    obtain ⟨g16, h⟩ := h
    refine (zq_iast dX11_finish_50).mpr ⟨⟨g6, ⟨by decide, g16⟩⟩, ?_⟩
    refine (zq_dupR dX11_finish_51).mpr ?_
    refine (zq_iconst dX11_finish_52 (by decide)).mpr ?_
    refine (zq_aload_n dX11_finish_53 rfl).mpr ?_
    refine (zq_getR2 (f := 724) (v := (mR m 724 a0)) dX11_finish_54 fl_11_64 (by decide) rfl rfl (by first | rfl | simp only [zm_Is, zm_Rs, zm_As, zm_Os, zm_In0, zm_Rn0])).mpr ⟨g7, ?_⟩
    refine (zq_iload_n dX11_finish_57 rfl).mpr ?_
    obtain ⟨g17, h⟩ := h
    obtain ⟨g18, h⟩ := h
    refine (zq_iald2 (v := (mA (sA (sA (sA (sA (nwA (sA m (mR m 714 a0) (Int.toNat a1) 0) 20 6) (mz m) 0 a1) (mz m) 1 (mA (sA (nwA (sA m (mR m 714 a0) (Int.toNat a1) 0) 20 6) (mz m) 0 a1) (mR m 713 a0) (Int.toNat a1))) (mz m) 2 (mA (sA (sA (nwA (sA m (mR m 714 a0) (Int.toNat a1) 0) 20 6) (mz m) 0 a1) (mz m) 1 (mA (sA (nwA (sA m (mR m 714 a0) (Int.toNat a1) 0) 20 6) (mz m) 0 a1) (mR m 713 a0) (Int.toNat a1))) (mR m 721 a0) (Int.toNat a1))) (mz m) 3 (mA (sA (sA (sA (nwA (sA m (mR m 714 a0) (Int.toNat a1) 0) 20 6) (mz m) 0 a1) (mz m) 1 (mA (sA (nwA (sA m (mR m 714 a0) (Int.toNat a1) 0) 20 6) (mz m) 0 a1) (mR m 713 a0) (Int.toNat a1))) (mz m) 2 (mA (sA (sA (nwA (sA m (mR m 714 a0) (Int.toNat a1) 0) 20 6) (mz m) 0 a1) (mz m) 1 (mA (sA (nwA (sA m (mR m 714 a0) (Int.toNat a1) 0) 20 6) (mz m) 0 a1) (mR m 713 a0) (Int.toNat a1))) (mR m 721 a0) (Int.toNat a1))) (mR m 722 a0) (Int.toNat a1))) (mR m 724 a0) (Int.toNat a1))) dX11_finish_58 (by first | rfl | simp only [zm_Is, zm_Rs, zm_As, zm_Os, zm_In0, zm_Rn0])).mpr ⟨⟨g17, g18⟩, ?_⟩
    obtain ⟨g19, h⟩ := h
    refine (zq_iast dX11_finish_59).mpr ⟨⟨g6, ⟨by decide, g19⟩⟩, ?_⟩
    refine (zq_dupR dX11_finish_60).mpr ?_
    refine (zq_iconst dX11_finish_61 (by decide)).mpr ?_
    refine (zq_aload_n dX11_finish_62 rfl).mpr ?_
    refine (zq_getI2 (f := 704) (v := (mI m 704 a0)) dX11_finish_63 fl_11_109 (by decide) rfl rfl (by first | rfl | simp only [zm_Is, zm_Rs, zm_As, zm_Os, zm_In0, zm_Rn0])).mpr ⟨g7, ?_⟩
    obtain ⟨g20, h⟩ := h
    refine (zq_iast dX11_finish_66).mpr ⟨⟨g6, ⟨by decide, g20⟩⟩, ?_⟩
    refine (zq_astore_n dX11_finish_67 (by simp) rfl).mpr ?_
    refine (zq_aload_n dX11_finish_68 rfl).mpr ?_
    refine (zq_iconst dX11_finish_69 (by decide)).mpr ?_
    refine (zq_aload_n dX11_finish_70 rfl).mpr ?_
    refine (zq_getR2 (f := 739) (v := (mR m 739 a0)) dX11_finish_71 fl_11_100 (by decide) rfl rfl (by first | rfl | simp only [zm_Is, zm_Rs, zm_As, zm_Os, zm_In0, zm_Rn0])).mpr ⟨g7, ?_⟩
    refine (zq_bipush dX11_finish_74 (by decide)).mpr ?_
    refine (zq_aload_n dX11_finish_76 rfl).mpr ?_
    refine (zq_getI2 (f := 736) (v := (mI m 736 a0)) dX11_finish_77 fl_11_119 (by decide) rfl rfl (by first | rfl | simp only [zm_Is, zm_Rs, zm_As, zm_Os, zm_In0, zm_Rn0])).mpr ⟨g7, ?_⟩
    refine (zq_imul dX11_finish_80).mpr ?_
    refine (zq_bipush dX11_finish_81 (by decide)).mpr ?_
    obtain ⟨g21, h⟩ := h
    refine (zq_copy dX11_finish_83 mr_11_103).mpr ⟨⟨g21.1, g21.2.1, g21.2.2.1, g21.2.2.2.1, g21.2.2.2.2.1, g21.2.2.2.2.2.1, g21.2.2.2.2.2.2.1, g21.2.2.2.2.2.2.2, (Nat.le_of_ble_eq_true rfl)⟩, ?_⟩
    refine (zq_aload_n dX11_finish_86 rfl).mpr ?_
    refine (zq_dupR dX11_finish_87).mpr ?_
    refine (zq_getI2 (f := 736) (v := (mI m 736 a0)) dX11_finish_88 fl_11_119 (by decide) rfl rfl (by first | rfl | simp only [zm_Is, zm_Rs, zm_As, zm_Os, zm_In0, zm_Rn0])).mpr ⟨g7, ?_⟩
    refine (zq_iconst dX11_finish_91 (by decide)).mpr ?_
    refine (zq_iadd dX11_finish_92).mpr ?_
    refine (zq_putI (f := 736) dX11_finish_93 fl_11_119 (by decide) rfl rfl rfl).mpr ⟨g7, ?_⟩
    exact (zq_ret dX11_finish_96 rfl).mpr h
end ZB6
