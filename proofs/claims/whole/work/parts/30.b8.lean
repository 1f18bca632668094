section ZB8
variable {xs : Nat → Int} {xl d : Nat} {m : zM} {Q : zRes → zM → Prop}
theorem bX12_compile_0 {a0 : Nat} {a1 : Int} (h : (mC m a0 = 13) ∧ zC xs xl d 163 [zI a1, zI 0, zI 5] (sI m 768 a0 0) (fun r m2 => ∃ v3 : Int, r = .inl (some (zI v3)) ∧ ((v3 ≠ 0 → (mC m2 a0 = 13) ∧ zC xs xl d 169 [zR a0] (sI (sI (sI (sI (sI (sI m2 772 a0 0) 771 a0 (-1)) 779 a0 0) 781 a0 0) 782 a0 0) 783 a0 0) (fun r m5 => r = .inl none ∧ (mC m5 a0 = 13) ∧ zC xs xl d 174 [zR a0] m5 (fun r m7 => ∃ v8 : Int, r = .inl (some (zI v8)) ∧ ((v8 ≠ 0 → (mC m7 a0 = 13) ∧ zC xs xl d 178 [zR a0, zI 0, zI 0] m7 (fun r m10 => ∃ v11 : Int, r = .inl (some (zI v11)) ∧ ((v11 = 0 → zW xs xl d cX12_compile 12 (some .int) false [] 107 [zR a0, zI a1] [] m10 Q) ∧ (¬ (v11 = 0) → (mC m10 a0 = 13) ∧ (((mI m10 781 a0) ≠ 0 → zC xs xl d 177 [zR a0, zI 3, zI (mI m10 776 a0)] m10 (fun r m14 => ∃ v15 : Int, r = .inl (some (zI v15)) ∧ zW xs xl d cX12_compile 12 (some .int) false [] 107 [zR a0, zI a1] [] m14 Q)) ∧ (¬ ((mI m10 781 a0) ≠ 0) → (((mI m10 783 a0) = 0 → zW xs xl d cX12_compile 12 (some .int) false [] 107 [zR a0, zI a1] [] m10 Q) ∧ (¬ ((mI m10 783 a0) = 0) → zC xs xl d 177 [zR a0, zI 3, zI (mI m10 776 a0)] m10 (fun r m16 => ∃ v17 : Int, r = .inl (some (zI v17)) ∧ zW xs xl d cX12_compile 12 (some .int) false [] 107 [zR a0, zI a1] [] m16 Q))))))))) ∧ (¬ (v8 ≠ 0) → (mC m7 a0 = 13) ∧ zC xs xl d 177 [zR a0, zI 1, zI (mI m7 776 a0)] m7 (fun r m19 => ∃ v20 : Int, r = .inl (some (zI v20)) ∧ zW xs xl d cX12_compile 12 (some .int) false [] 107 [zR a0, zI a1] [] m19 Q)))))) ∧ (¬ (v3 ≠ 0) → (mC m2 a0 = 13) ∧ zC xs xl d 162 [zR a0, zI 1] m2 (fun r m21 => ∃ v22 : Int, r = .inl (some (zI v22)) ∧ Q (.inl (some (zI v22))) m21))))) : zC xs xl (d + 1) 182 [zR a0, zI a1] m Q := by
  refine zk_182 ?_
  refine (zq_aload_n dX12_compile_0 rfl).mpr ?_
  refine (zq_iconst (v := 0) dX12_compile_1 (by decide)).mpr ?_
  obtain ⟨g1, h⟩ := h
  refine (zq_putI (f := 768) dX12_compile_2 fl_12_45 (by decide) rfl rfl rfl).mpr ⟨g1, ?_⟩
  refine (zq_iload_n dX12_compile_5 rfl).mpr ?_
  refine (zq_iconst (v := 0) dX12_compile_6 (by decide)).mpr ?_
  refine (zq_iconst (v := 5) dX12_compile_7 (by decide)).mpr ?_
  refine zq_staticI (n := 3) dX12_compile_8 mr_12_55 zn_163 rfl rfl (Nat.le_of_ble_eq_true rfl) (Nat.le_of_ble_eq_true rfl) ?_
  refine h.mono (fun r m2 h => ?_)
  obtain ⟨v3, rfl, h⟩ := h
  refine ⟨_, rfl, ?_⟩
  refine (zq_if_ne (t := 20) dX12_compile_11 rfl).mpr ⟨fun c => ?_, fun c => ?_⟩
  · replace h := h.1 c
    refine (zq_aload_n dX12_compile_20 rfl).mpr ?_
    refine (zq_iconst (v := 0) dX12_compile_21 (by decide)).mpr ?_
    obtain ⟨g4, h⟩ := h
    refine (zq_putI (f := 772) dX12_compile_22 fl_12_121 (by decide) rfl rfl rfl).mpr ⟨g4, ?_⟩
    refine (zq_aload_n dX12_compile_25 rfl).mpr ?_
    refine (zq_iconst (v := (-1)) dX12_compile_26 (by decide)).mpr ?_
    refine (zq_putI (f := 771) dX12_compile_27 fl_12_13 (by decide) rfl rfl rfl).mpr ⟨g4, ?_⟩
    refine (zq_aload_n dX12_compile_30 rfl).mpr ?_
    refine (zq_iconst (v := 0) dX12_compile_31 (by decide)).mpr ?_
    refine (zq_putI (f := 779) dX12_compile_32 fl_12_153 (by decide) rfl rfl rfl).mpr ⟨g4, ?_⟩
    refine (zq_aload_n dX12_compile_35 rfl).mpr ?_
    refine (zq_iconst (v := 0) dX12_compile_36 (by decide)).mpr ?_
    refine (zq_putZ (f := 781) dX12_compile_37 fl_12_143 (by decide) rfl rfl rfl).mpr ⟨⟨g4, (by decide)⟩, ?_⟩
    refine (zq_aload_n dX12_compile_40 rfl).mpr ?_
    refine (zq_iconst (v := 0) dX12_compile_41 (by decide)).mpr ?_
    refine (zq_putZ (f := 782) dX12_compile_42 fl_12_147 (by decide) rfl rfl rfl).mpr ⟨⟨g4, (by decide)⟩, ?_⟩
    refine (zq_aload_n dX12_compile_45 rfl).mpr ?_
    refine (zq_iconst (v := 0) dX12_compile_46 (by decide)).mpr ?_
    refine (zq_putI (f := 783) dX12_compile_47 fl_12_140 (by decide) rfl rfl rfl).mpr ⟨g4, ?_⟩
    refine (zq_aload_n dX12_compile_50 rfl).mpr ?_
    refine zq_virtualV (n := 0) dX12_compile_51 mr_12_162 zn_169 rfl rfl rfl (zrcv_R zo_169 (by decide) g4) (Nat.le_of_ble_eq_true rfl) ?_
    refine h.mono (fun r m5 h => ?_)
    obtain ⟨rfl, h⟩ := h
    refine ⟨rfl, ?_⟩
    refine (zq_aload_n dX12_compile_54 rfl).mpr ?_
    obtain ⟨g9, h⟩ := h
    refine zq_virtualI (n := 0) dX12_compile_55 mr_12_165 zn_174 rfl rfl rfl (zrcv_R zo_174 (by decide) g9) (Nat.le_of_ble_eq_true rfl) ?_
    refine h.mono (fun r m7 h => ?_)
    obtain ⟨v8, rfl, h⟩ := h
    refine ⟨_, rfl, ?_⟩
    refine (zq_if_ne (t := 74) dX12_compile_58 rfl).mpr ⟨fun c => ?_, fun c => ?_⟩
    · replace h := h.1 c
      refine (zq_aload_n dX12_compile_74 rfl).mpr ?_
      refine (zq_iconst (v := 0) dX12_compile_75 (by decide)).mpr ?_
      refine (zq_iconst (v := 0) dX12_compile_76 (by decide)).mpr ?_
      obtain ⟨g12, h⟩ := h
      refine zq_virtualI (n := 2) dX12_compile_77 mr_12_137 zn_178 rfl rfl rfl (zrcv_R zo_178 (by decide) g12) (Nat.le_of_ble_eq_true rfl) ?_
      refine h.mono (fun r m10 h => ?_)
      obtain ⟨v11, rfl, h⟩ := h
      refine ⟨_, rfl, ?_⟩
      refine (zq_if_eq (t := 107) dX12_compile_80 rfl).mpr ⟨fun c => ?_, fun c => ?_⟩
      · replace h := h.1 c
        exact h
      · replace h := h.2 c
        refine (zq_aload_n dX12_compile_83 rfl).mpr ?_
        obtain ⟨g13, h⟩ := h
        refine (zq_getI2 (f := 781) (v := (mI m10 781 a0)) dX12_compile_84 fl_12_143 (by decide) rfl rfl (by first | rfl | simp only [zm_Is, zm_Rs, zm_As, zm_Os, zm_In0, zm_Rn0])).mpr ⟨g13, ?_⟩
        refine (zq_if_ne (t := 97) dX12_compile_87 rfl).mpr ⟨fun c => ?_, fun c => ?_⟩
        · replace h := h.1 c
          refine (zq_aload_n dX12_compile_97 rfl).mpr ?_
          refine (zq_iconst (v := 3) dX12_compile_98 (by decide)).mpr ?_
          refine (zq_aload_n dX12_compile_99 rfl).mpr ?_
          refine (zq_getI2 (f := 776) (v := (mI m10 776 a0)) dX12_compile_100 fl_12_82 (by decide) rfl rfl (by first | rfl | simp only [zm_Is, zm_Rs, zm_As, zm_Os, zm_In0, zm_Rn0])).mpr ⟨g13, ?_⟩
          refine zq_virtualI (n := 2) dX12_compile_103 mr_12_130 zn_177 rfl rfl rfl (zrcv_R zo_177 (by decide) g13) (Nat.le_of_ble_eq_true rfl) ?_
          refine h.mono (fun r m14 h => ?_)
          obtain ⟨v15, rfl, h⟩ := h
          refine ⟨_, rfl, ?_⟩
          refine (zq_popI dX12_compile_106).mpr ?_
          exact h
        · replace h := h.2 c
          refine (zq_aload_n dX12_compile_90 rfl).mpr ?_
          refine (zq_getI2 (f := 783) (v := (mI m10 783 a0)) dX12_compile_91 fl_12_140 (by decide) rfl rfl (by first | rfl | simp only [zm_Is, zm_Rs, zm_As, zm_Os, zm_In0, zm_Rn0])).mpr ⟨g13, ?_⟩
          refine (zq_if_eq (t := 107) dX12_compile_94 rfl).mpr ⟨fun c => ?_, fun c => ?_⟩
          · replace h := h.1 c
            exact h
          · replace h := h.2 c
            refine (zq_aload_n dX12_compile_97 rfl).mpr ?_
            refine (zq_iconst (v := 3) dX12_compile_98 (by decide)).mpr ?_
            refine (zq_aload_n dX12_compile_99 rfl).mpr ?_
            refine (zq_getI2 (f := 776) (v := (mI m10 776 a0)) dX12_compile_100 fl_12_82 (by decide) rfl rfl (by first | rfl | simp only [zm_Is, zm_Rs, zm_As, zm_Os, zm_In0, zm_Rn0])).mpr ⟨g13, ?_⟩
            refine zq_virtualI (n := 2) dX12_compile_103 mr_12_130 zn_177 rfl rfl rfl (zrcv_R zo_177 (by decide) g13) (Nat.le_of_ble_eq_true rfl) ?_
            refine h.mono (fun r m16 h => ?_)
            obtain ⟨v17, rfl, h⟩ := h
            refine ⟨_, rfl, ?_⟩
            refine (zq_popI dX12_compile_106).mpr ?_
            exact h
    · replace h := h.2 c
      refine (zq_aload_n dX12_compile_61 rfl).mpr ?_
      refine (zq_iconst (v := 1) dX12_compile_62 (by decide)).mpr ?_
      refine (zq_aload_n dX12_compile_63 rfl).mpr ?_
      obtain ⟨g18, h⟩ := h
      refine (zq_getI2 (f := 776) (v := (mI m7 776 a0)) dX12_compile_64 fl_12_82 (by decide) rfl rfl (by first | rfl | simp only [zm_Is, zm_Rs, zm_As, zm_Os, zm_In0, zm_Rn0])).mpr ⟨g18, ?_⟩
      refine zq_virtualI (n := 2) dX12_compile_67 mr_12_130 zn_177 rfl rfl rfl (zrcv_R zo_177 (by decide) g18) (Nat.le_of_ble_eq_true rfl) ?_
      refine h.mono (fun r m19 h => ?_)
      obtain ⟨v20, rfl, h⟩ := h
      refine ⟨_, rfl, ?_⟩
      refine (zq_popI dX12_compile_70).mpr ?_
      refine (zq_goto (t := 107) dX12_compile_71 rfl).mpr ?_
      exact h
  · replace h := h.2 c
    refine (zq_aload_n dX12_compile_14 rfl).mpr ?_
    refine (zq_iconst (v := 1) dX12_compile_15 (by decide)).mpr ?_
    obtain ⟨g23, h⟩ := h
    refine zq_virtualI (n := 1) dX12_compile_16 mr_12_51 zn_162 rfl rfl rfl (zrcv_R zo_162 (by decide) g23) (Nat.le_of_ble_eq_true rfl) ?_
    refine h.mono (fun r m21 h => ?_)
    obtain ⟨v22, rfl, h⟩ := h
    refine ⟨_, rfl, ?_⟩
    exact (zq_iret dX12_compile_19 rfl).mpr ⟨trivial, h⟩
theorem bX12_compile_107 {a0 : Nat} {a1 : Int} (h : (mC m a0 = 13) ∧ (((mI m 772 a0) = 0 → (0 ≤ a1 ∧ a1 < mN m (mR m 777 a0)) ∧ (mC m (mR m 777 a0) = 20) ∧ (0 ≤ (wr (4 * (mI m 779 a0))) ∧ 0 ≤ (wr (240 * a1)) ∧ 0 ≤ (0 : Int) ∧ (0 : Int) + (wr (4 * (mI m 779 a0))) ≤ mN m (mR m 780 a0) ∧ (wr (240 * a1)) + (wr (4 * (mI m 779 a0))) ≤ mN m (mR m 778 a0) ∧ mC m (mR m 780 a0) = mC m (mR m 778 a0) ∧ (mC m (mR m 780 a0) = 20 ∨ (mC m (mR m 780 a0) = 21 ∧ ∀ j : Nat, (0 : Int) ≤ j → j < (0 : Int) + (wr (4 * (mI m 779 a0))) → mA (sA (sI m 770 a0 0) (mR m 777 a0) (Int.toNat a1) (mI m 779 a0)) (mR m 780 a0) j = 0 ∨ mA (sA (sI m 770 a0 0) (mR m 777 a0) (Int.toNat a1) (mI m 779 a0)) (mR m 780 a0) j = 1)) ∧ (mR m 780 a0) ≠ (mR m 778 a0)) ∧ Q (.inl (some (zI 0))) (cpA (sA (sI m 770 a0 0) (mR m 777 a0) (Int.toNat a1) (mI m 779 a0)) (mR m 780 a0) 0 (mR m 778 a0) (Int.toNat (wr (240 * a1))) (Int.toNat (wr (4 * (mI m 779 a0)))))) ∧ (¬ ((mI m 772 a0) = 0) → Q (.inl (some (zI (mI m 772 a0)))) (sI m 770 a0 0)))) : zW xs xl d cX12_compile 12 (some .int) false [] 107 [zR a0, zI a1] [] m Q := by
  refine (zq_aload_n dX12_compile_107 rfl).mpr ?_
  refine (zq_iconst (v := 0) dX12_compile_108 (by decide)).mpr ?_
  obtain ⟨g1, h⟩ := h
  refine (zq_putI (f := 770) dX12_compile_109 fl_12_48 (by decide) rfl rfl rfl).mpr ⟨g1, ?_⟩
  refine (zq_aload_n dX12_compile_112 rfl).mpr ?_
  refine (zq_getI2 (f := 772) (v := (mI m 772 a0)) dX12_compile_113 fl_12_121 (by decide) rfl rfl (by first | rfl | simp only [zm_Is, zm_Rs, zm_As, zm_Os, zm_In0, zm_Rn0])).mpr ⟨g1, ?_⟩
  refine (zq_if_eq (t := 124) dX12_compile_116 rfl).mpr ⟨fun c => ?_, fun c => ?_⟩
  · replace h := h.1 c
    refine (zq_aload_n dX12_compile_124 rfl).mpr ?_
    refine (zq_getR2 (f := 777) (v := (mR m 777 a0)) dX12_compile_125 fl_12_26 (by decide) rfl rfl (by first | rfl | simp only [zm_Is, zm_Rs, zm_As, zm_Os, zm_In0, zm_Rn0])).mpr ⟨g1, ?_⟩
    refine (zq_iload_n dX12_compile_128 rfl).mpr ?_
    refine (zq_aload_n dX12_compile_129 rfl).mpr ?_
    refine (zq_getI2 (f := 779) (v := (mI m 779 a0)) dX12_compile_130 fl_12_153 (by decide) rfl rfl (by first | rfl | simp only [zm_Is, zm_Rs, zm_As, zm_Os, zm_In0, zm_Rn0])).mpr ⟨g1, ?_⟩
    obtain ⟨g2, h⟩ := h
    obtain ⟨g3, h⟩ := h
    refine (zq_iast dX12_compile_133).mpr ⟨⟨g3, g2⟩, ?_⟩
    refine (zq_aload_n dX12_compile_134 rfl).mpr ?_
    refine (zq_getR2 (f := 780) (v := (mR m 780 a0)) dX12_compile_135 fl_12_32 (by decide) rfl rfl (by first | rfl | simp only [zm_Is, zm_Rs, zm_As, zm_Os, zm_In0, zm_Rn0])).mpr ⟨g1, ?_⟩
    refine (zq_iconst (v := 0) dX12_compile_138 (by decide)).mpr ?_
    refine (zq_aload_n dX12_compile_139 rfl).mpr ?_
    refine (zq_getR2 (f := 778) (v := (mR m 778 a0)) dX12_compile_140 fl_12_29 (by decide) rfl rfl (by first | rfl | simp only [zm_Is, zm_Rs, zm_As, zm_Os, zm_In0, zm_Rn0])).mpr ⟨g1, ?_⟩
    refine (zq_sipush (v := 240) dX12_compile_143 (by decide)).mpr ?_
    refine (zq_iload_n dX12_compile_146 rfl).mpr ?_
    refine (zq_imul dX12_compile_147).mpr ?_
    refine (zq_iconst (v := 4) dX12_compile_148 (by decide)).mpr ?_
    refine (zq_aload_n dX12_compile_149 rfl).mpr ?_
    refine (zq_getI2 (f := 779) (v := (mI m 779 a0)) dX12_compile_150 fl_12_153 (by decide) rfl rfl (by first | rfl | simp only [zm_Is, zm_Rs, zm_As, zm_Os, zm_In0, zm_Rn0])).mpr ⟨g1, ?_⟩
    refine (zq_imul dX12_compile_153).mpr ?_
    obtain ⟨g4, h⟩ := h
    refine (zq_copy dX12_compile_154 mr_12_168).mpr ⟨⟨g4.1, g4.2.1, g4.2.2.1, g4.2.2.2.1, g4.2.2.2.2.1, g4.2.2.2.2.2.1, g4.2.2.2.2.2.2.1, g4.2.2.2.2.2.2.2, (Nat.le_of_ble_eq_true rfl)⟩, ?_⟩
    refine (zq_iconst (v := 0) dX12_compile_157 (by decide)).mpr ?_
    exact (zq_iret dX12_compile_158 rfl).mpr ⟨trivial, h⟩
  · replace h := h.2 c
    refine (zq_aload_n dX12_compile_119 rfl).mpr ?_
    refine (zq_getI2 (f := 772) (v := (mI m 772 a0)) dX12_compile_120 fl_12_121 (by decide) rfl rfl (by first | rfl | simp only [zm_Is, zm_Rs, zm_As, zm_Os, zm_In0, zm_Rn0])).mpr ⟨g1, ?_⟩
    exact (zq_iret dX12_compile_123 rfl).mpr ⟨trivial, h⟩
theorem bX12_errorAt_0 {a0 : Nat} (h : (mC m a0 = 13) ∧ Q (.inl (some (zI (mI m 771 a0)))) (sI m 768 a0 0)) : zC xs xl (d + 1) 183 [zR a0] m Q := by
  refine zk_183 ?_
  refine (zq_aload_n dX12_errorAt_0 rfl).mpr ?_
  refine (zq_iconst (v := 0) dX12_errorAt_1 (by decide)).mpr ?_
  obtain ⟨g1, h⟩ := h
  refine (zq_putI (f := 768) dX12_errorAt_2 fl_12_45 (by decide) rfl rfl rfl).mpr ⟨g1, ?_⟩
  refine (zq_aload_n dX12_errorAt_5 rfl).mpr ?_
  refine (zq_getI2 (f := 771) (v := (mI m 771 a0)) dX12_errorAt_6 fl_12_13 (by decide) rfl rfl (by first | rfl | simp only [zm_Is, zm_Rs, zm_As, zm_Os, zm_In0, zm_Rn0])).mpr ⟨g1, ?_⟩
  exact (zq_iret dX12_errorAt_9 rfl).mpr ⟨trivial, h⟩
theorem bX12_planTold_0 {a0 : Nat} {a1 : Int} {a2 : Int} (h : ((a2 ≠ 0 → zW xs xl d cX12_planTold 12 (some .int) false [] 16 [zR a0, zI a1, zI a2, zI 0, zI 0, zU, zU, zU] [] m Q) ∧ (¬ (a2 ≠ 0) → (mC m a0 = 13) ∧ (mC m (mR m 777 a0) = 20) ∧ (0 ≤ a1 ∧ a1 < mN m (mR m 777 a0)) ∧ Q (.inl (some (zI (mA m (mR m 777 a0) (Int.toNat a1))))) m))) : zC xs xl (d + 1) 184 [zR a0, zI a1, zI a2] m Q := by
  refine zk_184 ?_
  refine (zq_iload_n dX12_planTold_0 rfl).mpr ?_
  refine (zq_if_ne (t := 11) dX12_planTold_1 rfl).mpr ⟨fun c => ?_, fun c => ?_⟩
  · replace h := h.1 c
    refine (zq_iconst (v := 0) dX12_planTold_11 (by decide)).mpr ?_
    refine (zq_istore_n (l := [zR a0, zI a1, zI a2, zI 0, zU, zU, zU, zU]) dX12_planTold_12 (Nat.le_of_ble_eq_true rfl) rfl).mpr ?_
    refine (zq_iconst (v := 0) dX12_planTold_13 (by decide)).mpr ?_
    refine (zq_istore (l := [zR a0, zI a1, zI a2, zI 0, zI 0, zU, zU, zU]) dX12_planTold_14 (Nat.le_of_ble_eq_true rfl) rfl).mpr ?_
    exact h
  · replace h := h.2 c
    refine (zq_aload_n dX12_planTold_4 rfl).mpr ?_
    obtain ⟨g1, h⟩ := h
    refine (zq_getR2 (f := 777) (v := (mR m 777 a0)) dX12_planTold_5 fl_12_26 (by decide) rfl rfl (by first | rfl | simp only [zm_Is, zm_Rs, zm_As, zm_Os, zm_In0, zm_Rn0])).mpr ⟨g1, ?_⟩
    refine (zq_iload_n dX12_planTold_8 rfl).mpr ?_
    obtain ⟨g2, h⟩ := h
    obtain ⟨g3, h⟩ := h
    refine (zq_iald2 (v := (mA m (mR m 777 a0) (Int.toNat a1))) dX12_planTold_9 (by first | rfl | simp only [zm_Is, zm_Rs, zm_As, zm_Os, zm_In0, zm_Rn0])).mpr ⟨⟨g2, g3⟩, ?_⟩
    exact (zq_iret dX12_planTold_10 rfl).mpr ⟨trivial, h⟩
theorem bX12_planTold_16 {a0 : Nat} {a1 : Int} {a2 : Int} {a3 : Int} {a4 : Int} {a5 : zV} {a6 : zV} {a7 : zV} (h : (mC m a0 = 13) ∧ (mC m (mR m 777 a0) = 20) ∧ (0 ≤ a1 ∧ a1 < mN m (mR m 777 a0)) ∧ (((mA m (mR m 777 a0) (Int.toNat a1)) ≤ a4 → Q (.inl (some (zI a3))) m) ∧ (¬ ((mA m (mR m 777 a0) (Int.toNat a1)) ≤ a4) → (mC m (mR m 778 a0) = 20) ∧ (0 ≤ (wr (4 * (wr ((wr (60 * a1)) + a4)))) ∧ (wr (4 * (wr ((wr (60 * a1)) + a4)))) < mN m (mR m 778 a0)) ∧ (((mA m (mR m 778 a0) (Int.toNat (wr (4 * (wr ((wr (60 * a1)) + a4)))))) ≠ 2 → ((a2 ≠ 1 → zW xs xl d cX12_planTold 12 (some .int) false [] 78 [zR a0, zI a1, zI a2, zI a3, zI a4, zI (wr (4 * (wr ((wr (60 * a1)) + a4)))), zI (mA m (mR m 778 a0) (Int.toNat (wr (4 * (wr ((wr (60 * a1)) + a4)))))), zI 0] [] m Q) ∧ (¬ (a2 ≠ 1) → zW xs xl d cX12_planTold 12 (some .int) false [] 78 [zR a0, zI a1, zI a2, zI (wr (a3 + 0)), zI a4, zI (wr (4 * (wr ((wr (60 * a1)) + a4)))), zI (mA m (mR m 778 a0) (Int.toNat (wr (4 * (wr ((wr (60 * a1)) + a4)))))), zI 0] [] m Q))) ∧ (¬ ((mA m (mR m 778 a0) (Int.toNat (wr (4 * (wr ((wr (60 * a1)) + a4)))))) ≠ 2) → ((a2 ≠ 1 → zW xs xl d cX12_planTold 12 (some .int) false [] 78 [zR a0, zI a1, zI a2, zI a3, zI a4, zI (wr (4 * (wr ((wr (60 * a1)) + a4)))), zI (mA m (mR m 778 a0) (Int.toNat (wr (4 * (wr ((wr (60 * a1)) + a4)))))), zI 1] [] m Q) ∧ (¬ (a2 ≠ 1) → zW xs xl d cX12_planTold 12 (some .int) false [] 78 [zR a0, zI a1, zI a2, zI (wr (a3 + 1)), zI a4, zI (wr (4 * (wr ((wr (60 * a1)) + a4)))), zI (mA m (mR m 778 a0) (Int.toNat (wr (4 * (wr ((wr (60 * a1)) + a4)))))), zI 1] [] m Q))))))) : zW xs xl d cX12_planTold 12 (some .int) false [] 16 [zR a0, zI a1, zI a2, zI a3, zI a4, a5, a6, a7] [] m Q := by
  refine (zq_iload dX12_planTold_16 rfl).mpr ?_
  refine (zq_aload_n dX12_planTold_18 rfl).mpr ?_
  obtain ⟨g1, h⟩ := h
  refine (zq_getR2 (f := 777) (v := (mR m 777 a0)) dX12_planTold_19 fl_12_26 (by decide) rfl rfl (by first | rfl | simp only [zm_Is, zm_Rs, zm_As, zm_Os, zm_In0, zm_Rn0])).mpr ⟨g1, ?_⟩
  refine (zq_iload_n dX12_planTold_22 rfl).mpr ?_
  obtain ⟨g2, h⟩ := h
  obtain ⟨g3, h⟩ := h
  refine (zq_iald2 (v := (mA m (mR m 777 a0) (Int.toNat a1))) dX12_planTold_23 (by first | rfl | simp only [zm_Is, zm_Rs, zm_As, zm_Os, zm_In0, zm_Rn0])).mpr ⟨⟨g2, g3⟩, ?_⟩
  refine (zq_icmp_ge (t := 150) dX12_planTold_24 rfl).mpr ⟨fun c => ?_, fun c => ?_⟩
  · replace h := h.1 c
    refine (zq_iload_n dX12_planTold_150 rfl).mpr ?_
    exact (zq_iret dX12_planTold_151 rfl).mpr ⟨trivial, h⟩
  · replace h := h.2 c
    refine (zq_iconst (v := 4) dX12_planTold_27 (by decide)).mpr ?_
    refine (zq_bipush (v := 60) dX12_planTold_28 (by decide)).mpr ?_
    refine (zq_iload_n dX12_planTold_30 rfl).mpr ?_
    refine (zq_imul dX12_planTold_31).mpr ?_
    refine (zq_iload dX12_planTold_32 rfl).mpr ?_
    refine (zq_iadd dX12_planTold_34).mpr ?_
    refine (zq_imul dX12_planTold_35).mpr ?_
    refine (zq_istore (l := [zR a0, zI a1, zI a2, zI a3, zI a4, zI (wr (4 * (wr ((wr (60 * a1)) + a4)))), a6, a7]) dX12_planTold_36 (Nat.le_of_ble_eq_true rfl) rfl).mpr ?_
    refine (zq_aload_n dX12_planTold_38 rfl).mpr ?_
    refine (zq_getR2 (f := 778) (v := (mR m 778 a0)) dX12_planTold_39 fl_12_29 (by decide) rfl rfl (by first | rfl | simp only [zm_Is, zm_Rs, zm_As, zm_Os, zm_In0, zm_Rn0])).mpr ⟨g1, ?_⟩
    refine (zq_iload dX12_planTold_42 rfl).mpr ?_
    obtain ⟨g4, h⟩ := h
    obtain ⟨g5, h⟩ := h
    refine (zq_iald2 (v := (mA m (mR m 778 a0) (Int.toNat (wr (4 * (wr ((wr (60 * a1)) + a4))))))) dX12_planTold_44 (by first | rfl | simp only [zm_Is, zm_Rs, zm_As, zm_Os, zm_In0, zm_Rn0])).mpr ⟨⟨g4, g5⟩, ?_⟩
    refine (zq_istore (l := [zR a0, zI a1, zI a2, zI a3, zI a4, zI (wr (4 * (wr ((wr (60 * a1)) + a4)))), zI (mA m (mR m 778 a0) (Int.toNat (wr (4 * (wr ((wr (60 * a1)) + a4)))))), a7]) dX12_planTold_45 (Nat.le_of_ble_eq_true rfl) rfl).mpr ?_
    refine (zq_iload dX12_planTold_47 rfl).mpr ?_
    refine (zq_iconst (v := 2) dX12_planTold_49 (by decide)).mpr ?_
    refine (zq_icmp_ne (t := 57) dX12_planTold_50 rfl).mpr ⟨fun c => ?_, fun c => ?_⟩
    · replace h := h.1 c
      refine (zq_iconst (v := 0) dX12_planTold_57 (by decide)).mpr ?_
      refine (zq_istore (l := [zR a0, zI a1, zI a2, zI a3, zI a4, zI (wr (4 * (wr ((wr (60 * a1)) + a4)))), zI (mA m (mR m 778 a0) (Int.toNat (wr (4 * (wr ((wr (60 * a1)) + a4)))))), zI 0]) dX12_planTold_58 (Nat.le_of_ble_eq_true rfl) rfl).mpr ?_
      refine (zq_iload_n dX12_planTold_60 rfl).mpr ?_
      refine (zq_iconst (v := 1) dX12_planTold_61 (by decide)).mpr ?_
      refine (zq_icmp_ne (t := 78) dX12_planTold_62 rfl).mpr ⟨fun c => ?_, fun c => ?_⟩
      · replace h := h.1 c
        exact h
      · replace h := h.2 c
        refine (zq_iload_n dX12_planTold_65 rfl).mpr ?_
        refine (zq_iload dX12_planTold_66 rfl).mpr ?_
        refine (zq_if_eq (t := 75) dX12_planTold_68 rfl).mpr ⟨fun _ => ?_, fun c => absurd (by decide) c⟩
        refine (zq_iconst (v := 0) dX12_planTold_75 (by decide)).mpr ?_
        refine (zq_iadd dX12_planTold_76).mpr ?_
        refine (zq_istore_n (l := [zR a0, zI a1, zI a2, zI (wr (a3 + 0)), zI a4, zI (wr (4 * (wr ((wr (60 * a1)) + a4)))), zI (mA m (mR m 778 a0) (Int.toNat (wr (4 * (wr ((wr (60 * a1)) + a4)))))), zI 0]) dX12_planTold_77 (Nat.le_of_ble_eq_true rfl) rfl).mpr ?_
        exact h
    · replace h := h.2 c
      refine (zq_iconst (v := 1) dX12_planTold_53 (by decide)).mpr ?_
      refine (zq_goto (t := 58) dX12_planTold_54 rfl).mpr ?_
      refine (zq_istore (l := [zR a0, zI a1, zI a2, zI a3, zI a4, zI (wr (4 * (wr ((wr (60 * a1)) + a4)))), zI (mA m (mR m 778 a0) (Int.toNat (wr (4 * (wr ((wr (60 * a1)) + a4)))))), zI 1]) dX12_planTold_58 (Nat.le_of_ble_eq_true rfl) rfl).mpr ?_
      refine (zq_iload_n dX12_planTold_60 rfl).mpr ?_
      refine (zq_iconst (v := 1) dX12_planTold_61 (by decide)).mpr ?_
      refine (zq_icmp_ne (t := 78) dX12_planTold_62 rfl).mpr ⟨fun c => ?_, fun c => ?_⟩
      · replace h := h.1 c
        exact h
      · replace h := h.2 c
        refine (zq_iload_n dX12_planTold_65 rfl).mpr ?_
        refine (zq_iload dX12_planTold_66 rfl).mpr ?_
        refine (zq_if_eq (t := 75) dX12_planTold_68 rfl).mpr ⟨fun c => absurd c (by decide), fun _ => ?_⟩
        refine (zq_iconst (v := 1) dX12_planTold_71 (by decide)).mpr ?_
        refine (zq_goto (t := 76) dX12_planTold_72 rfl).mpr ?_
        refine (zq_iadd dX12_planTold_76).mpr ?_
        refine (zq_istore_n (l := [zR a0, zI a1, zI a2, zI (wr (a3 + 1)), zI a4, zI (wr (4 * (wr ((wr (60 * a1)) + a4)))), zI (mA m (mR m 778 a0) (Int.toNat (wr (4 * (wr ((wr (60 * a1)) + a4)))))), zI 1]) dX12_planTold_77 (Nat.le_of_ble_eq_true rfl) rfl).mpr ?_
        exact h
theorem bX12_planTold_78 {a0 : Nat} {a1 : Int} {a2 : Int} {a3 : Int} {a4 : Int} {a5 : Int} {a6 : Int} {a7 : Int} (h : ((a2 ≠ 2 → zW xs xl d cX12_planTold 12 (some .int) false [] 104 [zR a0, zI a1, zI a2, zI a3, zI a4, zI a5, zI a6, zI a7] [] m Q) ∧ (¬ (a2 ≠ 2) → ((a7 = 0 → zW xs xl d cX12_planTold 12 (some .int) false [] 104 [zR a0, zI a1, zI a2, zI (wr (a3 + 0)), zI a4, zI a5, zI a6, zI a7] [] m Q) ∧ (¬ (a7 = 0) → (mC m a0 = 13) ∧ (mC m (mR m 778 a0) = 20) ∧ (0 ≤ (wr (a5 + 2)) ∧ (wr (a5 + 2)) < mN m (mR m 778 a0)) ∧ zW xs xl d cX12_planTold 12 (some .int) false [] 104 [zR a0, zI a1, zI a2, zI (wr (a3 + (mA m (mR m 778 a0) (Int.toNat (wr (a5 + 2)))))), zI a4, zI a5, zI a6, zI a7] [] m Q))))) : zW xs xl d cX12_planTold 12 (some .int) false [] 78 [zR a0, zI a1, zI a2, zI a3, zI a4, zI a5, zI a6, zI a7] [] m Q := by
  refine (zq_iload_n dX12_planTold_78 rfl).mpr ?_
  refine (zq_iconst (v := 2) dX12_planTold_79 (by decide)).mpr ?_
  refine (zq_icmp_ne (t := 104) dX12_planTold_80 rfl).mpr ⟨fun c => ?_, fun c => ?_⟩
  · replace h := h.1 c
    exact h
  · replace h := h.2 c
    refine (zq_iload_n dX12_planTold_83 rfl).mpr ?_
    refine (zq_iload dX12_planTold_84 rfl).mpr ?_
    refine (zq_if_eq (t := 101) dX12_planTold_86 rfl).mpr ⟨fun c => ?_, fun c => ?_⟩
    · replace h := h.1 c
      refine (zq_iconst (v := 0) dX12_planTold_101 (by decide)).mpr ?_
      refine (zq_iadd dX12_planTold_102).mpr ?_
      refine (zq_istore_n (l := [zR a0, zI a1, zI a2, zI (wr (a3 + 0)), zI a4, zI a5, zI a6, zI a7]) dX12_planTold_103 (Nat.le_of_ble_eq_true rfl) rfl).mpr ?_
      exact h
    · replace h := h.2 c
      refine (zq_aload_n dX12_planTold_89 rfl).mpr ?_
      obtain ⟨g1, h⟩ := h
      refine (zq_getR2 (f := 778) (v := (mR m 778 a0)) dX12_planTold_90 fl_12_29 (by decide) rfl rfl (by first | rfl | simp only [zm_Is, zm_Rs, zm_As, zm_Os, zm_In0, zm_Rn0])).mpr ⟨g1, ?_⟩
      refine (zq_iload dX12_planTold_93 rfl).mpr ?_
      refine (zq_iconst (v := 2) dX12_planTold_95 (by decide)).mpr ?_
      refine (zq_iadd dX12_planTold_96).mpr ?_
      obtain ⟨g2, h⟩ := h
      obtain ⟨g3, h⟩ := h
      refine (zq_iald2 (v := (mA m (mR m 778 a0) (Int.toNat (wr (a5 + 2))))) dX12_planTold_97 (by first | rfl | simp only [zm_Is, zm_Rs, zm_As, zm_Os, zm_In0, zm_Rn0])).mpr ⟨⟨g2, g3⟩, ?_⟩
      refine (zq_goto (t := 102) dX12_planTold_98 rfl).mpr ?_
      refine (zq_iadd dX12_planTold_102).mpr ?_
      refine (zq_istore_n (l := [zR a0, zI a1, zI a2, zI (wr (a3 + (mA m (mR m 778 a0) (Int.toNat (wr (a5 + 2)))))), zI a4, zI a5, zI a6, zI a7]) dX12_planTold_103 (Nat.le_of_ble_eq_true rfl) rfl).mpr ?_
      exact h
theorem bX12_planTold_104 {a0 : Nat} {a1 : Int} {a2 : Int} {a3 : Int} {a4 : Int} {a5 : Int} {a6 : Int} {a7 : Int} (h : ((a2 ≠ 3 → zW xs xl d cX12_planTold 12 (some .int) false [] 16 [zR a0, zI a1, zI a2, zI a3, zI (wr (a4 + 1)), zI a5, zI a6, zI a7] [] m Q) ∧ (¬ (a2 ≠ 3) → ((a6 = 3 → (mC m a0 = 13) ∧ (mC m (mR m 778 a0) = 20) ∧ (0 ≤ (wr (a5 + 1)) ∧ (wr (a5 + 1)) < mN m (mR m 778 a0)) ∧ zW xs xl d cX12_planTold 12 (some .int) false [] 16 [zR a0, zI a1, zI a2, zI (wr (a3 + (mA m (mR m 778 a0) (Int.toNat (wr (a5 + 1)))))), zI (wr (a4 + 1)), zI a5, zI a6, zI a7] [] m Q) ∧ (¬ (a6 = 3) → ((a6 = 4 → (mC m a0 = 13) ∧ (mC m (mR m 778 a0) = 20) ∧ (0 ≤ (wr (a5 + 1)) ∧ (wr (a5 + 1)) < mN m (mR m 778 a0)) ∧ zW xs xl d cX12_planTold 12 (some .int) false [] 16 [zR a0, zI a1, zI a2, zI (wr (a3 + (mA m (mR m 778 a0) (Int.toNat (wr (a5 + 1)))))), zI (wr (a4 + 1)), zI a5, zI a6, zI a7] [] m Q) ∧ (¬ (a6 = 4) → ((a6 ≠ 6 → zW xs xl d cX12_planTold 12 (some .int) false [] 16 [zR a0, zI a1, zI a2, zI (wr (a3 + 1)), zI (wr (a4 + 1)), zI a5, zI a6, zI a7] [] m Q) ∧ (¬ (a6 ≠ 6) → (mC m a0 = 13) ∧ (mC m (mR m 778 a0) = 20) ∧ (0 ≤ (wr (a5 + 1)) ∧ (wr (a5 + 1)) < mN m (mR m 778 a0)) ∧ zW xs xl d cX12_planTold 12 (some .int) false [] 16 [zR a0, zI a1, zI a2, zI (wr (a3 + (mA m (mR m 778 a0) (Int.toNat (wr (a5 + 1)))))), zI (wr (a4 + 1)), zI a5, zI a6, zI a7] [] m Q))))))))) : zW xs xl d cX12_planTold 12 (some .int) false [] 104 [zR a0, zI a1, zI a2, zI a3, zI a4, zI a5, zI a6, zI a7] [] m Q := by
  refine (zq_iload_n dX12_planTold_104 rfl).mpr ?_
  refine (zq_iconst (v := 3) dX12_planTold_105 (by decide)).mpr ?_
  refine (zq_icmp_ne (t := 144) dX12_planTold_106 rfl).mpr ⟨fun c => ?_, fun c => ?_⟩
  · replace h := h.1 c
    refine (zq_iinc (l := [zR a0, zI a1, zI a2, zI a3, zI (wr (a4 + 1)), zI a5, zI a6, zI a7]) dX12_planTold_144 rfl rfl).mpr ?_
    refine (zq_goto (t := 16) dX12_planTold_147 rfl).mpr ?_
    exact h
  · replace h := h.2 c
    refine (zq_iload_n dX12_planTold_109 rfl).mpr ?_
    refine (zq_iload dX12_planTold_110 rfl).mpr ?_
    refine (zq_iconst (v := 3) dX12_planTold_112 (by decide)).mpr ?_
    refine (zq_icmp_eq (t := 129) dX12_planTold_113 rfl).mpr ⟨fun c => ?_, fun c => ?_⟩
    · replace h := h.1 c
      refine (zq_aload_n dX12_planTold_129 rfl).mpr ?_
      obtain ⟨g1, h⟩ := h
      refine (zq_getR2 (f := 778) (v := (mR m 778 a0)) dX12_planTold_130 fl_12_29 (by decide) rfl rfl (by first | rfl | simp only [zm_Is, zm_Rs, zm_As, zm_Os, zm_In0, zm_Rn0])).mpr ⟨g1, ?_⟩
      refine (zq_iload dX12_planTold_133 rfl).mpr ?_
      refine (zq_iconst (v := 1) dX12_planTold_135 (by decide)).mpr ?_
      refine (zq_iadd dX12_planTold_136).mpr ?_
      obtain ⟨g2, h⟩ := h
      obtain ⟨g3, h⟩ := h
      refine (zq_iald2 (v := (mA m (mR m 778 a0) (Int.toNat (wr (a5 + 1))))) dX12_planTold_137 (by first | rfl | simp only [zm_Is, zm_Rs, zm_As, zm_Os, zm_In0, zm_Rn0])).mpr ⟨⟨g2, g3⟩, ?_⟩
      refine (zq_goto (t := 142) dX12_planTold_138 rfl).mpr ?_
      refine (zq_iadd dX12_planTold_142).mpr ?_
      refine (zq_istore_n (l := [zR a0, zI a1, zI a2, zI (wr (a3 + (mA m (mR m 778 a0) (Int.toNat (wr (a5 + 1)))))), zI a4, zI a5, zI a6, zI a7]) dX12_planTold_143 (Nat.le_of_ble_eq_true rfl) rfl).mpr ?_
      refine (zq_iinc (l := [zR a0, zI a1, zI a2, zI (wr (a3 + (mA m (mR m 778 a0) (Int.toNat (wr (a5 + 1)))))), zI (wr (a4 + 1)), zI a5, zI a6, zI a7]) dX12_planTold_144 rfl rfl).mpr ?_
      refine (zq_goto (t := 16) dX12_planTold_147 rfl).mpr ?_
      exact h
    · replace h := h.2 c
      refine (zq_iload dX12_planTold_116 rfl).mpr ?_
      refine (zq_iconst (v := 4) dX12_planTold_118 (by decide)).mpr ?_
      refine (zq_icmp_eq (t := 129) dX12_planTold_119 rfl).mpr ⟨fun c => ?_, fun c => ?_⟩
      · replace h := h.1 c
        refine (zq_aload_n dX12_planTold_129 rfl).mpr ?_
        obtain ⟨g4, h⟩ := h
        refine (zq_getR2 (f := 778) (v := (mR m 778 a0)) dX12_planTold_130 fl_12_29 (by decide) rfl rfl (by first | rfl | simp only [zm_Is, zm_Rs, zm_As, zm_Os, zm_In0, zm_Rn0])).mpr ⟨g4, ?_⟩
        refine (zq_iload dX12_planTold_133 rfl).mpr ?_
        refine (zq_iconst (v := 1) dX12_planTold_135 (by decide)).mpr ?_
        refine (zq_iadd dX12_planTold_136).mpr ?_
        obtain ⟨g5, h⟩ := h
        obtain ⟨g6, h⟩ := h
        refine (zq_iald2 (v := (mA m (mR m 778 a0) (Int.toNat (wr (a5 + 1))))) dX12_planTold_137 (by first | rfl | simp only [zm_Is, zm_Rs, zm_As, zm_Os, zm_In0, zm_Rn0])).mpr ⟨⟨g5, g6⟩, ?_⟩
        refine (zq_goto (t := 142) dX12_planTold_138 rfl).mpr ?_
        refine (zq_iadd dX12_planTold_142).mpr ?_
        refine (zq_istore_n (l := [zR a0, zI a1, zI a2, zI (wr (a3 + (mA m (mR m 778 a0) (Int.toNat (wr (a5 + 1)))))), zI a4, zI a5, zI a6, zI a7]) dX12_planTold_143 (Nat.le_of_ble_eq_true rfl) rfl).mpr ?_
        refine (zq_iinc (l := [zR a0, zI a1, zI a2, zI (wr (a3 + (mA m (mR m 778 a0) (Int.toNat (wr (a5 + 1)))))), zI (wr (a4 + 1)), zI a5, zI a6, zI a7]) dX12_planTold_144 rfl rfl).mpr ?_
        refine (zq_goto (t := 16) dX12_planTold_147 rfl).mpr ?_
        exact h
      · replace h := h.2 c
        refine (zq_iload dX12_planTold_122 rfl).mpr ?_
        refine (zq_bipush (v := 6) dX12_planTold_124 (by decide)).mpr ?_
        refine (zq_icmp_ne (t := 141) dX12_planTold_126 rfl).mpr ⟨fun c => ?_, fun c => ?_⟩
        · replace h := h.1 c
          refine (zq_iconst (v := 1) dX12_planTold_141 (by decide)).mpr ?_
          refine (zq_iadd dX12_planTold_142).mpr ?_
          refine (zq_istore_n (l := [zR a0, zI a1, zI a2, zI (wr (a3 + 1)), zI a4, zI a5, zI a6, zI a7]) dX12_planTold_143 (Nat.le_of_ble_eq_true rfl) rfl).mpr ?_
          refine (zq_iinc (l := [zR a0, zI a1, zI a2, zI (wr (a3 + 1)), zI (wr (a4 + 1)), zI a5, zI a6, zI a7]) dX12_planTold_144 rfl rfl).mpr ?_
          refine (zq_goto (t := 16) dX12_planTold_147 rfl).mpr ?_
          exact h
        · replace h := h.2 c
          refine (zq_aload_n dX12_planTold_129 rfl).mpr ?_
          obtain ⟨g7, h⟩ := h
          refine (zq_getR2 (f := 778) (v := (mR m 778 a0)) dX12_planTold_130 fl_12_29 (by decide) rfl rfl (by first | rfl | simp only [zm_Is, zm_Rs, zm_As, zm_Os, zm_In0, zm_Rn0])).mpr ⟨g7, ?_⟩
          refine (zq_iload dX12_planTold_133 rfl).mpr ?_
          refine (zq_iconst (v := 1) dX12_planTold_135 (by decide)).mpr ?_
          refine (zq_iadd dX12_planTold_136).mpr ?_
          obtain ⟨g8, h⟩ := h
          obtain ⟨g9, h⟩ := h
          refine (zq_iald2 (v := (mA m (mR m 778 a0) (Int.toNat (wr (a5 + 1))))) dX12_planTold_137 (by first | rfl | simp only [zm_Is, zm_Rs, zm_As, zm_Os, zm_In0, zm_Rn0])).mpr ⟨⟨g8, g9⟩, ?_⟩
          refine (zq_goto (t := 142) dX12_planTold_138 rfl).mpr ?_
          refine (zq_iadd dX12_planTold_142).mpr ?_
          refine (zq_istore_n (l := [zR a0, zI a1, zI a2, zI (wr (a3 + (mA m (mR m 778 a0) (Int.toNat (wr (a5 + 1)))))), zI a4, zI a5, zI a6, zI a7]) dX12_planTold_143 (Nat.le_of_ble_eq_true rfl) rfl).mpr ?_
          refine (zq_iinc (l := [zR a0, zI a1, zI a2, zI (wr (a3 + (mA m (mR m 778 a0) (Int.toNat (wr (a5 + 1)))))), zI (wr (a4 + 1)), zI a5, zI a6, zI a7]) dX12_planTold_144 rfl rfl).mpr ?_
          refine (zq_goto (t := 16) dX12_planTold_147 rfl).mpr ?_
          exact h
theorem bX12_plan_0 {a0 : Nat} {a1 : Int} {a2 : Int} (h : (mC m a0 = 13) ∧ zC xs xl d 163 [zI a1, zI 0, zI 5] (sI m 768 a0 0) (fun r m2 => ∃ v3 : Int, r = .inl (some (zI v3)) ∧ ((v3 = 0 → (mC m2 a0 = 13) ∧ zC xs xl d 162 [zR a0, zI 1] m2 (fun r m4 => ∃ v5 : Int, r = .inl (some (zI v5)) ∧ Q (.inl (some (zI v5))) m4)) ∧ (¬ (v3 = 0) → zC xs xl d 163 [zI a2, zI 0, zI 3] m2 (fun r m7 => ∃ v8 : Int, r = .inl (some (zI v8)) ∧ ((v8 = 0 → (mC m7 a0 = 13) ∧ zC xs xl d 162 [zR a0, zI 1] m7 (fun r m9 => ∃ v10 : Int, r = .inl (some (zI v10)) ∧ Q (.inl (some (zI v10))) m9)) ∧ (¬ (v8 = 0) → (mC m7 a0 = 13) ∧ zC xs xl d 184 [zR a0, zI a1, zI a2] m7 (fun r m12 => ∃ v13 : Int, r = .inl (some (zI v13)) ∧ Q (.inl (some (zI v13))) m12)))))))) : zC xs xl (d + 1) 185 [zR a0, zI a1, zI a2] m Q := by
  refine zk_185 ?_
  refine (zq_aload_n dX12_plan_0 rfl).mpr ?_
  refine (zq_iconst (v := 0) dX12_plan_1 (by decide)).mpr ?_
  obtain ⟨g1, h⟩ := h
  refine (zq_putI (f := 768) dX12_plan_2 fl_12_45 (by decide) rfl rfl rfl).mpr ⟨g1, ?_⟩
  refine (zq_iload_n dX12_plan_5 rfl).mpr ?_
  refine (zq_iconst (v := 0) dX12_plan_6 (by decide)).mpr ?_
  refine (zq_iconst (v := 5) dX12_plan_7 (by decide)).mpr ?_
  refine zq_staticI (n := 3) dX12_plan_8 mr_12_55 zn_163 rfl rfl (Nat.le_of_ble_eq_true rfl) (Nat.le_of_ble_eq_true rfl) ?_
  refine h.mono (fun r m2 h => ?_)
  obtain ⟨v3, rfl, h⟩ := h
  refine ⟨_, rfl, ?_⟩
  refine (zq_if_eq (t := 32) dX12_plan_11 rfl).mpr ⟨fun c => ?_, fun c => ?_⟩
  · replace h := h.1 c
    refine (zq_aload_n dX12_plan_32 rfl).mpr ?_
    refine (zq_iconst (v := 1) dX12_plan_33 (by decide)).mpr ?_
    obtain ⟨g6, h⟩ := h
    refine zq_virtualI (n := 1) dX12_plan_34 mr_12_51 zn_162 rfl rfl rfl (zrcv_R zo_162 (by decide) g6) (Nat.le_of_ble_eq_true rfl) ?_
    refine h.mono (fun r m4 h => ?_)
    obtain ⟨v5, rfl, h⟩ := h
    refine ⟨_, rfl, ?_⟩
    exact (zq_iret dX12_plan_37 rfl).mpr ⟨trivial, h⟩
  · replace h := h.2 c
    refine (zq_iload_n dX12_plan_14 rfl).mpr ?_
    refine (zq_iconst (v := 0) dX12_plan_15 (by decide)).mpr ?_
    refine (zq_iconst (v := 3) dX12_plan_16 (by decide)).mpr ?_
    refine zq_staticI (n := 3) dX12_plan_17 mr_12_55 zn_163 rfl rfl (Nat.le_of_ble_eq_true rfl) (Nat.le_of_ble_eq_true rfl) ?_
    refine h.mono (fun r m7 h => ?_)
    obtain ⟨v8, rfl, h⟩ := h
    refine ⟨_, rfl, ?_⟩
    refine (zq_if_eq (t := 32) dX12_plan_20 rfl).mpr ⟨fun c => ?_, fun c => ?_⟩
    · replace h := h.1 c
      refine (zq_aload_n dX12_plan_32 rfl).mpr ?_
      refine (zq_iconst (v := 1) dX12_plan_33 (by decide)).mpr ?_
      obtain ⟨g11, h⟩ := h
      refine zq_virtualI (n := 1) dX12_plan_34 mr_12_51 zn_162 rfl rfl rfl (zrcv_R zo_162 (by decide) g11) (Nat.le_of_ble_eq_true rfl) ?_
      refine h.mono (fun r m9 h => ?_)
      obtain ⟨v10, rfl, h⟩ := h
      refine ⟨_, rfl, ?_⟩
      exact (zq_iret dX12_plan_37 rfl).mpr ⟨trivial, h⟩
    · replace h := h.2 c
      refine (zq_aload_n dX12_plan_23 rfl).mpr ?_
      refine (zq_iload_n dX12_plan_24 rfl).mpr ?_
      refine (zq_iload_n dX12_plan_25 rfl).mpr ?_
      obtain ⟨g14, h⟩ := h
      refine zq_virtualI (n := 2) dX12_plan_26 mr_12_174 zn_184 rfl rfl rfl (zrcv_R zo_184 (by decide) g14) (Nat.le_of_ble_eq_true rfl) ?_
      refine h.mono (fun r m12 h => ?_)
      obtain ⟨v13, rfl, h⟩ := h
      refine ⟨_, rfl, ?_⟩
      refine (zq_goto (t := 37) dX12_plan_29 rfl).mpr ?_
      exact (zq_iret dX12_plan_37 rfl).mpr ⟨trivial, h⟩
theorem bX12_addPlank_0 {a0 : Nat} {a1 : Int} {a2 : Int} {a3 : Int} (h : (mC m a0 = 13) ∧ zC xs xl d 163 [zI a1, zI 0, zI 3] (sI m 768 a0 0) (fun r m2 => ∃ v3 : Int, r = .inl (some (zI v3)) ∧ ((v3 = 0 → (mC m2 a0 = 13) ∧ zC xs xl d 162 [zR a0, zI 1] m2 (fun r m4 => ∃ v5 : Int, r = .inl (some (zI v5)) ∧ Q (.inl (some (zI v5))) m4)) ∧ (¬ (v3 = 0) → zC xs xl d 163 [zI a2, zI 10, zI 300] m2 (fun r m7 => ∃ v8 : Int, r = .inl (some (zI v8)) ∧ ((v8 = 0 → (mC m7 a0 = 13) ∧ zC xs xl d 162 [zR a0, zI 1] m7 (fun r m9 => ∃ v10 : Int, r = .inl (some (zI v10)) ∧ Q (.inl (some (zI v10))) m9)) ∧ (¬ (v8 = 0) → zC xs xl d 163 [zI a3, zI 0, zI 100] m7 (fun r m12 => ∃ v13 : Int, r = .inl (some (zI v13)) ∧ ((v13 ≠ 0 → (mC m12 a0 = 13) ∧ (mC m12 (mR m12 784 a0) = 12) ∧ (((mI m12 705 (mR m12 784 a0)) ≠ 60 → zC xs xl d 137 [zR (mR m12 784 a0), zI a1, zI a2, zI a3] m12 (fun r m16 => ∃ v17 : Int, r = .inl (some (zI v17)) ∧ Q (.inl (some (zI v17))) m16)) ∧ (¬ ((mI m12 705 (mR m12 784 a0)) ≠ 60) → zC xs xl d 162 [zR a0, zI 2] m12 (fun r m18 => ∃ v19 : Int, r = .inl (some (zI v19)) ∧ Q (.inl (some (zI v19))) m18)))) ∧ (¬ (v13 ≠ 0) → (mC m12 a0 = 13) ∧ zC xs xl d 162 [zR a0, zI 1] m12 (fun r m20 => ∃ v21 : Int, r = .inl (some (zI v21)) ∧ Q (.inl (some (zI v21))) m20))))))))))) : zC xs xl (d + 1) 186 [zR a0, zI a1, zI a2, zI a3] m Q := by
  refine zk_186 ?_
  refine (zq_aload_n dX12_addPlank_0 rfl).mpr ?_
  refine (zq_iconst (v := 0) dX12_addPlank_1 (by decide)).mpr ?_
  obtain ⟨g1, h⟩ := h
  refine (zq_putI (f := 768) dX12_addPlank_2 fl_12_45 (by decide) rfl rfl rfl).mpr ⟨g1, ?_⟩
  refine (zq_iload_n dX12_addPlank_5 rfl).mpr ?_
  refine (zq_iconst (v := 0) dX12_addPlank_6 (by decide)).mpr ?_
  refine (zq_iconst (v := 3) dX12_addPlank_7 (by decide)).mpr ?_
  refine zq_staticI (n := 3) dX12_addPlank_8 mr_12_55 zn_163 rfl rfl (Nat.le_of_ble_eq_true rfl) (Nat.le_of_ble_eq_true rfl) ?_
  refine h.mono (fun r m2 h => ?_)
  obtain ⟨v3, rfl, h⟩ := h
  refine ⟨_, rfl, ?_⟩
  refine (zq_if_eq (t := 36) dX12_addPlank_11 rfl).mpr ⟨fun c => ?_, fun c => ?_⟩
  · replace h := h.1 c
    refine (zq_aload_n dX12_addPlank_36 rfl).mpr ?_
    refine (zq_iconst (v := 1) dX12_addPlank_37 (by decide)).mpr ?_
    obtain ⟨g6, h⟩ := h
    refine zq_virtualI (n := 1) dX12_addPlank_38 mr_12_51 zn_162 rfl rfl rfl (zrcv_R zo_162 (by decide) g6) (Nat.le_of_ble_eq_true rfl) ?_
    refine h.mono (fun r m4 h => ?_)
    obtain ⟨v5, rfl, h⟩ := h
    refine ⟨_, rfl, ?_⟩
    exact (zq_iret dX12_addPlank_41 rfl).mpr ⟨trivial, h⟩
  · replace h := h.2 c
    refine (zq_iload_n dX12_addPlank_14 rfl).mpr ?_
    refine (zq_bipush (v := 10) dX12_addPlank_15 (by decide)).mpr ?_
    refine (zq_sipush (v := 300) dX12_addPlank_17 (by decide)).mpr ?_
    refine zq_staticI (n := 3) dX12_addPlank_20 mr_12_55 zn_163 rfl rfl (Nat.le_of_ble_eq_true rfl) (Nat.le_of_ble_eq_true rfl) ?_
    refine h.mono (fun r m7 h => ?_)
    obtain ⟨v8, rfl, h⟩ := h
    refine ⟨_, rfl, ?_⟩
    refine (zq_if_eq (t := 36) dX12_addPlank_23 rfl).mpr ⟨fun c => ?_, fun c => ?_⟩
    · replace h := h.1 c
      refine (zq_aload_n dX12_addPlank_36 rfl).mpr ?_
      refine (zq_iconst (v := 1) dX12_addPlank_37 (by decide)).mpr ?_
      obtain ⟨g11, h⟩ := h
      refine zq_virtualI (n := 1) dX12_addPlank_38 mr_12_51 zn_162 rfl rfl rfl (zrcv_R zo_162 (by decide) g11) (Nat.le_of_ble_eq_true rfl) ?_
      refine h.mono (fun r m9 h => ?_)
      obtain ⟨v10, rfl, h⟩ := h
      refine ⟨_, rfl, ?_⟩
      exact (zq_iret dX12_addPlank_41 rfl).mpr ⟨trivial, h⟩
    · replace h := h.2 c
      refine (zq_iload_n dX12_addPlank_26 rfl).mpr ?_
      refine (zq_iconst (v := 0) dX12_addPlank_27 (by decide)).mpr ?_
      refine (zq_bipush (v := 100) dX12_addPlank_28 (by decide)).mpr ?_
      refine zq_staticI (n := 3) dX12_addPlank_30 mr_12_55 zn_163 rfl rfl (Nat.le_of_ble_eq_true rfl) (Nat.le_of_ble_eq_true rfl) ?_
      refine h.mono (fun r m12 h => ?_)
      obtain ⟨v13, rfl, h⟩ := h
      refine ⟨_, rfl, ?_⟩
      refine (zq_if_ne (t := 42) dX12_addPlank_33 rfl).mpr ⟨fun c => ?_, fun c => ?_⟩
      · replace h := h.1 c
        refine (zq_aload_n dX12_addPlank_42 rfl).mpr ?_
        obtain ⟨g14, h⟩ := h
        refine (zq_getR2 (f := 784) (v := (mR m12 784 a0)) dX12_addPlank_43 fl_12_38 (by decide) rfl rfl (by first | rfl | simp only [zm_Is, zm_Rs, zm_As, zm_Os, zm_In0, zm_Rn0])).mpr ⟨g14, ?_⟩
        obtain ⟨g15, h⟩ := h
        refine (zq_getI2 (f := 705) (v := (mI m12 705 (mR m12 784 a0))) dX12_addPlank_46 fl_12_178 (by decide) rfl rfl (by first | rfl | simp only [zm_Is, zm_Rs, zm_As, zm_Os, zm_In0, zm_Rn0])).mpr ⟨g15, ?_⟩
        refine (zq_bipush (v := 60) dX12_addPlank_49 (by decide)).mpr ?_
        refine (zq_icmp_ne (t := 60) dX12_addPlank_51 rfl).mpr ⟨fun c => ?_, fun c => ?_⟩
        · replace h := h.1 c
          refine (zq_aload_n dX12_addPlank_60 rfl).mpr ?_
          refine (zq_getR2 (f := 784) (v := (mR m12 784 a0)) dX12_addPlank_61 fl_12_38 (by decide) rfl rfl (by first | rfl | simp only [zm_Is, zm_Rs, zm_As, zm_Os, zm_In0, zm_Rn0])).mpr ⟨g14, ?_⟩
          refine (zq_iload_n dX12_addPlank_64 rfl).mpr ?_
          refine (zq_iload_n dX12_addPlank_65 rfl).mpr ?_
          refine (zq_iload_n dX12_addPlank_66 rfl).mpr ?_
          refine zq_virtualI (n := 3) dX12_addPlank_67 mr_12_181 zn_137 rfl rfl rfl (zrcv_R zo_137 (by decide) g15) (Nat.le_of_ble_eq_true rfl) ?_
          refine h.mono (fun r m16 h => ?_)
          obtain ⟨v17, rfl, h⟩ := h
          refine ⟨_, rfl, ?_⟩
          exact (zq_iret dX12_addPlank_70 rfl).mpr ⟨trivial, h⟩
        · replace h := h.2 c
          refine (zq_aload_n dX12_addPlank_54 rfl).mpr ?_
          refine (zq_iconst (v := 2) dX12_addPlank_55 (by decide)).mpr ?_
          refine zq_virtualI (n := 1) dX12_addPlank_56 mr_12_51 zn_162 rfl rfl rfl (zrcv_R zo_162 (by decide) g14) (Nat.le_of_ble_eq_true rfl) ?_
          refine h.mono (fun r m18 h => ?_)
          obtain ⟨v19, rfl, h⟩ := h
          refine ⟨_, rfl, ?_⟩
          exact (zq_iret dX12_addPlank_59 rfl).mpr ⟨trivial, h⟩
      · replace h := h.2 c
        refine (zq_aload_n dX12_addPlank_36 rfl).mpr ?_
        refine (zq_iconst (v := 1) dX12_addPlank_37 (by decide)).mpr ?_
        obtain ⟨g22, h⟩ := h
        refine zq_virtualI (n := 1) dX12_addPlank_38 mr_12_51 zn_162 rfl rfl rfl (zrcv_R zo_162 (by decide) g22) (Nat.le_of_ble_eq_true rfl) ?_
        refine h.mono (fun r m20 h => ?_)
        obtain ⟨v21, rfl, h⟩ := h
        refine ⟨_, rfl, ?_⟩
        exact (zq_iret dX12_addPlank_41 rfl).mpr ⟨trivial, h⟩
theorem bX12_isPlank_0 {a0 : Nat} {a1 : Int} (h : (mC m a0 = 13) ∧ (mC m (mR m 784 a0) = 12) ∧ zC xs xl d 163 [zI a1, zI 0, zI (wr ((mI m 705 (mR m 784 a0)) - 1))] m (fun r m3 => ∃ v4 : Int, r = .inl (some (zI v4)) ∧ (v4 = 0 ∨ v4 = 1) ∧ Q (.inl (some (zI v4))) m3)) : zC xs xl (d + 1) 187 [zR a0, zI a1] m Q := by
  refine zk_187 ?_
  refine (zq_iload_n dX12_isPlank_0 rfl).mpr ?_
  refine (zq_iconst (v := 0) dX12_isPlank_1 (by decide)).mpr ?_
  refine (zq_aload_n dX12_isPlank_2 rfl).mpr ?_
  obtain ⟨g1, h⟩ := h
  refine (zq_getR2 (f := 784) (v := (mR m 784 a0)) dX12_isPlank_3 fl_12_38 (by decide) rfl rfl (by first | rfl | simp only [zm_Is, zm_Rs, zm_As, zm_Os, zm_In0, zm_Rn0])).mpr ⟨g1, ?_⟩
  obtain ⟨g2, h⟩ := h
  refine (zq_getI2 (f := 705) (v := (mI m 705 (mR m 784 a0))) dX12_isPlank_6 fl_12_178 (by decide) rfl rfl (by first | rfl | simp only [zm_Is, zm_Rs, zm_As, zm_Os, zm_In0, zm_Rn0])).mpr ⟨g2, ?_⟩
  refine (zq_iconst (v := 1) dX12_isPlank_9 (by decide)).mpr ?_
  refine (zq_isub dX12_isPlank_10).mpr ?_
  refine zq_staticI (n := 3) dX12_isPlank_11 mr_12_55 zn_163 rfl rfl (Nat.le_of_ble_eq_true rfl) (Nat.le_of_ble_eq_true rfl) ?_
  refine h.mono (fun r m3 h => ?_)
  obtain ⟨v4, rfl, h⟩ := h
  refine ⟨_, rfl, ?_⟩
  obtain ⟨g5, h⟩ := h
  exact (zq_iret dX12_isPlank_14 rfl).mpr ⟨g5, h⟩
theorem bX12_addKnot_0 {a0 : Nat} {a1 : Int} {a2 : Int} (h : (mC m a0 = 13) ∧ zC xs xl d 187 [zR a0, zI a1] (sI m 768 a0 0) (fun r m2 => ∃ v3 : Int, r = .inl (some (zI v3)) ∧ ((v3 ≠ 0 → (mC m2 a0 = 13) ∧ (mC m2 (mR m2 784 a0) = 12) ∧ (mC m2 (mR m2 707 (mR m2 784 a0)) = 20) ∧ (0 ≤ a1 ∧ a1 < mN m2 (mR m2 707 (mR m2 784 a0))) ∧ zC xs xl d 163 [zI a2, zI 0, zI (wr ((mA m2 (mR m2 707 (mR m2 784 a0)) (Int.toNat a1)) - 1))] m2 (fun r m8 => ∃ v9 : Int, r = .inl (some (zI v9)) ∧ ((v9 ≠ 0 → (mC m8 a0 = 13) ∧ (mC m8 (mR m8 784 a0) = 12) ∧ zC xs xl d 133 [zR (mR m8 784 a0), zI a1, zI a2] m8 (fun r m11 => ∃ v12 : Int, r = .inl (some (zI v12)) ∧ ((v12 ≠ 0 → (mC m11 a0 = 13) ∧ zC xs xl d 162 [zR a0, zI 3] m11 (fun r m14 => ∃ v15 : Int, r = .inl (some (zI v15)) ∧ Q (.inl (some (zI v15))) m14)) ∧ (¬ (v12 ≠ 0) → (mC m11 a0 = 13) ∧ (mC m11 (mR m11 784 a0) = 12) ∧ (mC m11 (mR m11 709 (mR m11 784 a0)) = 20) ∧ (0 ≤ a1 ∧ a1 < mN m11 (mR m11 709 (mR m11 784 a0))) ∧ (((mA m11 (mR m11 709 (mR m11 784 a0)) (Int.toNat a1)) ≠ 8 → zC xs xl d 138 [zR (mR m11 784 a0), zI a1, zI a2] m11 (fun r m21 => r = .inl none ∧ (mC m21 a0 = 13) ∧ (mC m21 (mR m21 784 a0) = 12) ∧ (mC m21 (mR m21 709 (mR m21 784 a0)) = 20) ∧ (0 ≤ a1 ∧ a1 < mN m21 (mR m21 709 (mR m21 784 a0))) ∧ Q (.inl (some (zI (mA m21 (mR m21 709 (mR m21 784 a0)) (Int.toNat a1))))) m21)) ∧ (¬ ((mA m11 (mR m11 709 (mR m11 784 a0)) (Int.toNat a1)) ≠ 8) → zC xs xl d 162 [zR a0, zI 3] m11 (fun r m27 => ∃ v28 : Int, r = .inl (some (zI v28)) ∧ Q (.inl (some (zI v28))) m27))))))) ∧ (¬ (v9 ≠ 0) → (mC m8 a0 = 13) ∧ zC xs xl d 162 [zR a0, zI 2] m8 (fun r m29 => ∃ v30 : Int, r = .inl (some (zI v30)) ∧ Q (.inl (some (zI v30))) m29))))) ∧ (¬ (v3 ≠ 0) → (mC m2 a0 = 13) ∧ zC xs xl d 162 [zR a0, zI 1] m2 (fun r m32 => ∃ v33 : Int, r = .inl (some (zI v33)) ∧ Q (.inl (some (zI v33))) m32))))) : zC xs xl (d + 1) 188 [zR a0, zI a1, zI a2] m Q := by
  refine zk_188 ?_
  refine (zq_aload_n dX12_addKnot_0 rfl).mpr ?_
  refine (zq_iconst (v := 0) dX12_addKnot_1 (by decide)).mpr ?_
  obtain ⟨g1, h⟩ := h
  refine (zq_putI (f := 768) dX12_addKnot_2 fl_12_45 (by decide) rfl rfl rfl).mpr ⟨g1, ?_⟩
  refine (zq_aload_n dX12_addKnot_5 rfl).mpr ?_
  refine (zq_iload_n dX12_addKnot_6 rfl).mpr ?_
  refine zq_virtualI (n := 1) dX12_addKnot_7 mr_12_185 zn_187 rfl rfl rfl (zrcv_R zo_187 (by decide) g1) (Nat.le_of_ble_eq_true rfl) ?_
  refine h.mono (fun r m2 h => ?_)
  obtain ⟨v3, rfl, h⟩ := h
  refine ⟨_, rfl, ?_⟩
  refine (zq_if_ne (t := 19) dX12_addKnot_10 rfl).mpr ⟨fun c => ?_, fun c => ?_⟩
  · replace h := h.1 c
    refine (zq_iload_n dX12_addKnot_19 rfl).mpr ?_
    refine (zq_iconst (v := 0) dX12_addKnot_20 (by decide)).mpr ?_
    refine (zq_aload_n dX12_addKnot_21 rfl).mpr ?_
    obtain ⟨g4, h⟩ := h
    refine (zq_getR2 (f := 784) (v := (mR m2 784 a0)) dX12_addKnot_22 fl_12_38 (by decide) rfl rfl (by first | rfl | simp only [zm_Is, zm_Rs, zm_As, zm_Os, zm_In0, zm_Rn0])).mpr ⟨g4, ?_⟩
    obtain ⟨g5, h⟩ := h
    refine (zq_getR2 (f := 707) (v := (mR m2 707 (mR m2 784 a0))) dX12_addKnot_25 fl_12_188 (by decide) rfl rfl (by first | rfl | simp only [zm_Is, zm_Rs, zm_As, zm_Os, zm_In0, zm_Rn0])).mpr ⟨g5, ?_⟩
    refine (zq_iload_n dX12_addKnot_28 rfl).mpr ?_
    obtain ⟨g6, h⟩ := h
    obtain ⟨g7, h⟩ := h
    refine (zq_iald2 (v := (mA m2 (mR m2 707 (mR m2 784 a0)) (Int.toNat a1))) dX12_addKnot_29 (by first | rfl | simp only [zm_Is, zm_Rs, zm_As, zm_Os, zm_In0, zm_Rn0])).mpr ⟨⟨g6, g7⟩, ?_⟩
    refine (zq_iconst (v := 1) dX12_addKnot_30 (by decide)).mpr ?_
    refine (zq_isub dX12_addKnot_31).mpr ?_
    refine zq_staticI (n := 3) dX12_addKnot_32 mr_12_55 zn_163 rfl rfl (Nat.le_of_ble_eq_true rfl) (Nat.le_of_ble_eq_true rfl) ?_
    refine h.mono (fun r m8 h => ?_)
    obtain ⟨v9, rfl, h⟩ := h
    refine ⟨_, rfl, ?_⟩
    refine (zq_if_ne (t := 44) dX12_addKnot_35 rfl).mpr ⟨fun c => ?_, fun c => ?_⟩
    · replace h := h.1 c
      refine (zq_aload_n dX12_addKnot_44 rfl).mpr ?_
      obtain ⟨g10, h⟩ := h
      refine (zq_getR2 (f := 784) (v := (mR m8 784 a0)) dX12_addKnot_45 fl_12_38 (by decide) rfl rfl (by first | rfl | simp only [zm_Is, zm_Rs, zm_As, zm_Os, zm_In0, zm_Rn0])).mpr ⟨g10, ?_⟩
      refine (zq_iload_n dX12_addKnot_48 rfl).mpr ?_
      refine (zq_iload_n dX12_addKnot_49 rfl).mpr ?_
      obtain ⟨g13, h⟩ := h
      refine zq_virtualI (n := 2) dX12_addKnot_50 mr_12_191 zn_133 rfl rfl rfl (zrcv_R zo_133 (by decide) g13) (Nat.le_of_ble_eq_true rfl) ?_
      refine h.mono (fun r m11 h => ?_)
      obtain ⟨v12, rfl, h⟩ := h
      refine ⟨_, rfl, ?_⟩
      refine (zq_if_ne (t := 70) dX12_addKnot_53 rfl).mpr ⟨fun c => ?_, fun c => ?_⟩
      · replace h := h.1 c
        refine (zq_aload_n dX12_addKnot_70 rfl).mpr ?_
        refine (zq_iconst (v := 3) dX12_addKnot_71 (by decide)).mpr ?_
        obtain ⟨g16, h⟩ := h
        refine zq_virtualI (n := 1) dX12_addKnot_72 mr_12_51 zn_162 rfl rfl rfl (zrcv_R zo_162 (by decide) g16) (Nat.le_of_ble_eq_true rfl) ?_
        refine h.mono (fun r m14 h => ?_)
        obtain ⟨v15, rfl, h⟩ := h
        refine ⟨_, rfl, ?_⟩
        exact (zq_iret dX12_addKnot_75 rfl).mpr ⟨trivial, h⟩
      · replace h := h.2 c
        refine (zq_aload_n dX12_addKnot_56 rfl).mpr ?_
        obtain ⟨g17, h⟩ := h
        refine (zq_getR2 (f := 784) (v := (mR m11 784 a0)) dX12_addKnot_57 fl_12_38 (by decide) rfl rfl (by first | rfl | simp only [zm_Is, zm_Rs, zm_As, zm_Os, zm_In0, zm_Rn0])).mpr ⟨g17, ?_⟩
        obtain ⟨g18, h⟩ := h
        refine (zq_getR2 (f := 709) (v := (mR m11 709 (mR m11 784 a0))) dX12_addKnot_60 fl_12_194 (by decide) rfl rfl (by first | rfl | simp only [zm_Is, zm_Rs, zm_As, zm_Os, zm_In0, zm_Rn0])).mpr ⟨g18, ?_⟩
        refine (zq_iload_n dX12_addKnot_63 rfl).mpr ?_
        obtain ⟨g19, h⟩ := h
        obtain ⟨g20, h⟩ := h
        refine (zq_iald2 (v := (mA m11 (mR m11 709 (mR m11 784 a0)) (Int.toNat a1))) dX12_addKnot_64 (by first | rfl | simp only [zm_Is, zm_Rs, zm_As, zm_Os, zm_In0, zm_Rn0])).mpr ⟨⟨g19, g20⟩, ?_⟩
        refine (zq_bipush (v := 8) dX12_addKnot_65 (by decide)).mpr ?_
        refine (zq_icmp_ne (t := 76) dX12_addKnot_67 rfl).mpr ⟨fun c => ?_, fun c => ?_⟩
        · replace h := h.1 c
          refine (zq_aload_n dX12_addKnot_76 rfl).mpr ?_
          refine (zq_getR2 (f := 784) (v := (mR m11 784 a0)) dX12_addKnot_77 fl_12_38 (by decide) rfl rfl (by first | rfl | simp only [zm_Is, zm_Rs, zm_As, zm_Os, zm_In0, zm_Rn0])).mpr ⟨g17, ?_⟩
          refine (zq_iload_n dX12_addKnot_80 rfl).mpr ?_
          refine (zq_iload_n dX12_addKnot_81 rfl).mpr ?_
          refine zq_virtualV (n := 2) dX12_addKnot_82 mr_12_197 zn_138 rfl rfl rfl (zrcv_R zo_138 (by decide) g18) (Nat.le_of_ble_eq_true rfl) ?_
          refine h.mono (fun r m21 h => ?_)
          obtain ⟨rfl, h⟩ := h
          refine ⟨rfl, ?_⟩
          refine (zq_aload_n dX12_addKnot_85 rfl).mpr ?_
          obtain ⟨g23, h⟩ := h
          refine (zq_getR2 (f := 784) (v := (mR m21 784 a0)) dX12_addKnot_86 fl_12_38 (by decide) rfl rfl (by first | rfl | simp only [zm_Is, zm_Rs, zm_As, zm_Os, zm_In0, zm_Rn0])).mpr ⟨g23, ?_⟩
          obtain ⟨g24, h⟩ := h
          refine (zq_getR2 (f := 709) (v := (mR m21 709 (mR m21 784 a0))) dX12_addKnot_89 fl_12_194 (by decide) rfl rfl (by first | rfl | simp only [zm_Is, zm_Rs, zm_As, zm_Os, zm_In0, zm_Rn0])).mpr ⟨g24, ?_⟩
          refine (zq_iload_n dX12_addKnot_92 rfl).mpr ?_
          obtain ⟨g25, h⟩ := h
          obtain ⟨g26, h⟩ := h
          refine (zq_iald2 (v := (mA m21 (mR m21 709 (mR m21 784 a0)) (Int.toNat a1))) dX12_addKnot_93 (by first | rfl | simp only [zm_Is, zm_Rs, zm_As, zm_Os, zm_In0, zm_Rn0])).mpr ⟨⟨g25, g26⟩, ?_⟩
          exact (zq_iret dX12_addKnot_94 rfl).mpr ⟨trivial, h⟩
        · replace h := h.2 c
          refine (zq_aload_n dX12_addKnot_70 rfl).mpr ?_
          refine (zq_iconst (v := 3) dX12_addKnot_71 (by decide)).mpr ?_
          refine zq_virtualI (n := 1) dX12_addKnot_72 mr_12_51 zn_162 rfl rfl rfl (zrcv_R zo_162 (by decide) g17) (Nat.le_of_ble_eq_true rfl) ?_
          refine h.mono (fun r m27 h => ?_)
          obtain ⟨v28, rfl, h⟩ := h
          refine ⟨_, rfl, ?_⟩
          exact (zq_iret dX12_addKnot_75 rfl).mpr ⟨trivial, h⟩
    · replace h := h.2 c
      refine (zq_aload_n dX12_addKnot_38 rfl).mpr ?_
      refine (zq_iconst (v := 2) dX12_addKnot_39 (by decide)).mpr ?_
      obtain ⟨g31, h⟩ := h
      refine zq_virtualI (n := 1) dX12_addKnot_40 mr_12_51 zn_162 rfl rfl rfl (zrcv_R zo_162 (by decide) g31) (Nat.le_of_ble_eq_true rfl) ?_
      refine h.mono (fun r m29 h => ?_)
      obtain ⟨v30, rfl, h⟩ := h
      refine ⟨_, rfl, ?_⟩
      exact (zq_iret dX12_addKnot_43 rfl).mpr ⟨trivial, h⟩
  · replace h := h.2 c
    refine (zq_aload_n dX12_addKnot_13 rfl).mpr ?_
    refine (zq_iconst (v := 1) dX12_addKnot_14 (by decide)).mpr ?_
    obtain ⟨g34, h⟩ := h
    refine zq_virtualI (n := 1) dX12_addKnot_15 mr_12_51 zn_162 rfl rfl rfl (zrcv_R zo_162 (by decide) g34) (Nat.le_of_ble_eq_true rfl) ?_
    refine h.mono (fun r m32 h => ?_)
    obtain ⟨v33, rfl, h⟩ := h
    refine ⟨_, rfl, ?_⟩
    exact (zq_iret dX12_addKnot_18 rfl).mpr ⟨trivial, h⟩
theorem bX12_plankTold_0 {a0 : Nat} {a1 : Int} {a2 : Int} (h : ((a2 ≠ 0 → ((a2 ≠ 1 → ((a2 ≠ 2 → ((a2 ≠ 3 → (mC m a0 = 13) ∧ (mC m (mR m 784 a0) = 12) ∧ zC xs xl d 135 [zR (mR m 784 a0), zI a1] m (fun r m2 => ∃ v3 : Int, r = .inl (some (zI v3)) ∧ Q (.inl (some (zI v3))) m2)) ∧ (¬ (a2 ≠ 3) → (mC m a0 = 13) ∧ (mC m (mR m 784 a0) = 12) ∧ (mC m (mR m 709 (mR m 784 a0)) = 20) ∧ (0 ≤ a1 ∧ a1 < mN m (mR m 709 (mR m 784 a0))) ∧ Q (.inl (some (zI (mA m (mR m 709 (mR m 784 a0)) (Int.toNat a1))))) m))) ∧ (¬ (a2 ≠ 2) → (mC m a0 = 13) ∧ (mC m (mR m 784 a0) = 12) ∧ (mC m (mR m 708 (mR m 784 a0)) = 20) ∧ (0 ≤ a1 ∧ a1 < mN m (mR m 708 (mR m 784 a0))) ∧ Q (.inl (some (zI (mA m (mR m 708 (mR m 784 a0)) (Int.toNat a1))))) m))) ∧ (¬ (a2 ≠ 1) → (mC m a0 = 13) ∧ (mC m (mR m 784 a0) = 12) ∧ (mC m (mR m 707 (mR m 784 a0)) = 20) ∧ (0 ≤ a1 ∧ a1 < mN m (mR m 707 (mR m 784 a0))) ∧ Q (.inl (some (zI (mA m (mR m 707 (mR m 784 a0)) (Int.toNat a1))))) m))) ∧ (¬ (a2 ≠ 0) → (mC m a0 = 13) ∧ (mC m (mR m 784 a0) = 12) ∧ (mC m (mR m 706 (mR m 784 a0)) = 20) ∧ (0 ≤ a1 ∧ a1 < mN m (mR m 706 (mR m 784 a0))) ∧ Q (.inl (some (zI (mA m (mR m 706 (mR m 784 a0)) (Int.toNat a1))))) m))) : zC xs xl (d + 1) 189 [zR a0, zI a1, zI a2] m Q := by
  refine zk_189 ?_
  refine (zq_iload_n dX12_plankTold_0 rfl).mpr ?_
  refine (zq_if_ne (t := 16) dX12_plankTold_1 rfl).mpr ⟨fun c => ?_, fun c => ?_⟩
  · replace h := h.1 c
    refine (zq_iload_n dX12_plankTold_16 rfl).mpr ?_
    refine (zq_iconst (v := 1) dX12_plankTold_17 (by decide)).mpr ?_
    refine (zq_icmp_ne (t := 33) dX12_plankTold_18 rfl).mpr ⟨fun c => ?_, fun c => ?_⟩
    · replace h := h.1 c
      refine (zq_iload_n dX12_plankTold_33 rfl).mpr ?_
      refine (zq_iconst (v := 2) dX12_plankTold_34 (by decide)).mpr ?_
      refine (zq_icmp_ne (t := 50) dX12_plankTold_35 rfl).mpr ⟨fun c => ?_, fun c => ?_⟩
      · replace h := h.1 c
        refine (zq_iload_n dX12_plankTold_50 rfl).mpr ?_
        refine (zq_iconst (v := 3) dX12_plankTold_51 (by decide)).mpr ?_
        refine (zq_icmp_ne (t := 67) dX12_plankTold_52 rfl).mpr ⟨fun c => ?_, fun c => ?_⟩
        · replace h := h.1 c
          refine (zq_aload_n dX12_plankTold_67 rfl).mpr ?_
          obtain ⟨g1, h⟩ := h
          refine (zq_getR2 (f := 784) (v := (mR m 784 a0)) dX12_plankTold_68 fl_12_38 (by decide) rfl rfl (by first | rfl | simp only [zm_Is, zm_Rs, zm_As, zm_Os, zm_In0, zm_Rn0])).mpr ⟨g1, ?_⟩
          refine (zq_iload_n dX12_plankTold_71 rfl).mpr ?_
          obtain ⟨g4, h⟩ := h
          refine zq_virtualI (n := 1) dX12_plankTold_72 mr_12_207 zn_135 rfl rfl rfl (zrcv_R zo_135 (by decide) g4) (Nat.le_of_ble_eq_true rfl) ?_
          refine h.mono (fun r m2 h => ?_)
          obtain ⟨v3, rfl, h⟩ := h
          refine ⟨_, rfl, ?_⟩
          exact (zq_iret dX12_plankTold_75 rfl).mpr ⟨trivial, h⟩
        · replace h := h.2 c
          refine (zq_aload_n dX12_plankTold_55 rfl).mpr ?_
          obtain ⟨g5, h⟩ := h
          refine (zq_getR2 (f := 784) (v := (mR m 784 a0)) dX12_plankTold_56 fl_12_38 (by decide) rfl rfl (by first | rfl | simp only [zm_Is, zm_Rs, zm_As, zm_Os, zm_In0, zm_Rn0])).mpr ⟨g5, ?_⟩
          obtain ⟨g6, h⟩ := h
          refine (zq_getR2 (f := 709) (v := (mR m 709 (mR m 784 a0))) dX12_plankTold_59 fl_12_194 (by decide) rfl rfl (by first | rfl | simp only [zm_Is, zm_Rs, zm_As, zm_Os, zm_In0, zm_Rn0])).mpr ⟨g6, ?_⟩
          refine (zq_iload_n dX12_plankTold_62 rfl).mpr ?_
          obtain ⟨g7, h⟩ := h
          obtain ⟨g8, h⟩ := h
          refine (zq_iald2 (v := (mA m (mR m 709 (mR m 784 a0)) (Int.toNat a1))) dX12_plankTold_63 (by first | rfl | simp only [zm_Is, zm_Rs, zm_As, zm_Os, zm_In0, zm_Rn0])).mpr ⟨⟨g7, g8⟩, ?_⟩
          refine (zq_goto (t := 75) dX12_plankTold_64 rfl).mpr ?_
          exact (zq_iret dX12_plankTold_75 rfl).mpr ⟨trivial, h⟩
      · replace h := h.2 c
        refine (zq_aload_n dX12_plankTold_38 rfl).mpr ?_
        obtain ⟨g9, h⟩ := h
        refine (zq_getR2 (f := 784) (v := (mR m 784 a0)) dX12_plankTold_39 fl_12_38 (by decide) rfl rfl (by first | rfl | simp only [zm_Is, zm_Rs, zm_As, zm_Os, zm_In0, zm_Rn0])).mpr ⟨g9, ?_⟩
        obtain ⟨g10, h⟩ := h
        refine (zq_getR2 (f := 708) (v := (mR m 708 (mR m 784 a0))) dX12_plankTold_42 fl_12_204 (by decide) rfl rfl (by first | rfl | simp only [zm_Is, zm_Rs, zm_As, zm_Os, zm_In0, zm_Rn0])).mpr ⟨g10, ?_⟩
        refine (zq_iload_n dX12_plankTold_45 rfl).mpr ?_
        obtain ⟨g11, h⟩ := h
        obtain ⟨g12, h⟩ := h
        refine (zq_iald2 (v := (mA m (mR m 708 (mR m 784 a0)) (Int.toNat a1))) dX12_plankTold_46 (by first | rfl | simp only [zm_Is, zm_Rs, zm_As, zm_Os, zm_In0, zm_Rn0])).mpr ⟨⟨g11, g12⟩, ?_⟩
        refine (zq_goto (t := 75) dX12_plankTold_47 rfl).mpr ?_
        exact (zq_iret dX12_plankTold_75 rfl).mpr ⟨trivial, h⟩
    · replace h := h.2 c
      refine (zq_aload_n dX12_plankTold_21 rfl).mpr ?_
      obtain ⟨g13, h⟩ := h
      refine (zq_getR2 (f := 784) (v := (mR m 784 a0)) dX12_plankTold_22 fl_12_38 (by decide) rfl rfl (by first | rfl | simp only [zm_Is, zm_Rs, zm_As, zm_Os, zm_In0, zm_Rn0])).mpr ⟨g13, ?_⟩
      obtain ⟨g14, h⟩ := h
      refine (zq_getR2 (f := 707) (v := (mR m 707 (mR m 784 a0))) dX12_plankTold_25 fl_12_188 (by decide) rfl rfl (by first | rfl | simp only [zm_Is, zm_Rs, zm_As, zm_Os, zm_In0, zm_Rn0])).mpr ⟨g14, ?_⟩
      refine (zq_iload_n dX12_plankTold_28 rfl).mpr ?_
      obtain ⟨g15, h⟩ := h
      obtain ⟨g16, h⟩ := h
      refine (zq_iald2 (v := (mA m (mR m 707 (mR m 784 a0)) (Int.toNat a1))) dX12_plankTold_29 (by first | rfl | simp only [zm_Is, zm_Rs, zm_As, zm_Os, zm_In0, zm_Rn0])).mpr ⟨⟨g15, g16⟩, ?_⟩
      refine (zq_goto (t := 75) dX12_plankTold_30 rfl).mpr ?_
      exact (zq_iret dX12_plankTold_75 rfl).mpr ⟨trivial, h⟩
  · replace h := h.2 c
    refine (zq_aload_n dX12_plankTold_4 rfl).mpr ?_
    obtain ⟨g17, h⟩ := h
    refine (zq_getR2 (f := 784) (v := (mR m 784 a0)) dX12_plankTold_5 fl_12_38 (by decide) rfl rfl (by first | rfl | simp only [zm_Is, zm_Rs, zm_As, zm_Os, zm_In0, zm_Rn0])).mpr ⟨g17, ?_⟩
    obtain ⟨g18, h⟩ := h
    refine (zq_getR2 (f := 706) (v := (mR m 706 (mR m 784 a0))) dX12_plankTold_8 fl_12_201 (by decide) rfl rfl (by first | rfl | simp only [zm_Is, zm_Rs, zm_As, zm_Os, zm_In0, zm_Rn0])).mpr ⟨g18, ?_⟩
    refine (zq_iload_n dX12_plankTold_11 rfl).mpr ?_
    obtain ⟨g19, h⟩ := h
    obtain ⟨g20, h⟩ := h
    refine (zq_iald2 (v := (mA m (mR m 706 (mR m 784 a0)) (Int.toNat a1))) dX12_plankTold_12 (by first | rfl | simp only [zm_Is, zm_Rs, zm_As, zm_Os, zm_In0, zm_Rn0])).mpr ⟨⟨g19, g20⟩, ?_⟩
    refine (zq_goto (t := 75) dX12_plankTold_13 rfl).mpr ?_
    exact (zq_iret dX12_plankTold_75 rfl).mpr ⟨trivial, h⟩
theorem bX12_plank_0 {a0 : Nat} {a1 : Int} {a2 : Int} (h : (mC m a0 = 13) ∧ zC xs xl d 187 [zR a0, zI a1] (sI m 768 a0 0) (fun r m2 => ∃ v3 : Int, r = .inl (some (zI v3)) ∧ ((v3 = 0 → (mC m2 a0 = 13) ∧ zC xs xl d 162 [zR a0, zI 1] m2 (fun r m4 => ∃ v5 : Int, r = .inl (some (zI v5)) ∧ Q (.inl (some (zI v5))) m4)) ∧ (¬ (v3 = 0) → zC xs xl d 163 [zI a2, zI 0, zI 4] m2 (fun r m7 => ∃ v8 : Int, r = .inl (some (zI v8)) ∧ ((v8 = 0 → (mC m7 a0 = 13) ∧ zC xs xl d 162 [zR a0, zI 1] m7 (fun r m9 => ∃ v10 : Int, r = .inl (some (zI v10)) ∧ Q (.inl (some (zI v10))) m9)) ∧ (¬ (v8 = 0) → (mC m7 a0 = 13) ∧ zC xs xl d 189 [zR a0, zI a1, zI a2] m7 (fun r m12 => ∃ v13 : Int, r = .inl (some (zI v13)) ∧ Q (.inl (some (zI v13))) m12)))))))) : zC xs xl (d + 1) 190 [zR a0, zI a1, zI a2] m Q := by
  refine zk_190 ?_
  refine (zq_aload_n dX12_plank_0 rfl).mpr ?_
  refine (zq_iconst (v := 0) dX12_plank_1 (by decide)).mpr ?_
  obtain ⟨g1, h⟩ := h
  refine (zq_putI (f := 768) dX12_plank_2 fl_12_45 (by decide) rfl rfl rfl).mpr ⟨g1, ?_⟩
  refine (zq_aload_n dX12_plank_5 rfl).mpr ?_
  refine (zq_iload_n dX12_plank_6 rfl).mpr ?_
  refine zq_virtualI (n := 1) dX12_plank_7 mr_12_185 zn_187 rfl rfl rfl (zrcv_R zo_187 (by decide) g1) (Nat.le_of_ble_eq_true rfl) ?_
  refine h.mono (fun r m2 h => ?_)
  obtain ⟨v3, rfl, h⟩ := h
  refine ⟨_, rfl, ?_⟩
  refine (zq_if_eq (t := 31) dX12_plank_10 rfl).mpr ⟨fun c => ?_, fun c => ?_⟩
  · replace h := h.1 c
    refine (zq_aload_n dX12_plank_31 rfl).mpr ?_
    refine (zq_iconst (v := 1) dX12_plank_32 (by decide)).mpr ?_
    obtain ⟨g6, h⟩ := h
    refine zq_virtualI (n := 1) dX12_plank_33 mr_12_51 zn_162 rfl rfl rfl (zrcv_R zo_162 (by decide) g6) (Nat.le_of_ble_eq_true rfl) ?_
    refine h.mono (fun r m4 h => ?_)
    obtain ⟨v5, rfl, h⟩ := h
    refine ⟨_, rfl, ?_⟩
    exact (zq_iret dX12_plank_36 rfl).mpr ⟨trivial, h⟩
  · replace h := h.2 c
    refine (zq_iload_n dX12_plank_13 rfl).mpr ?_
    refine (zq_iconst (v := 0) dX12_plank_14 (by decide)).mpr ?_
    refine (zq_iconst (v := 4) dX12_plank_15 (by decide)).mpr ?_
    refine zq_staticI (n := 3) dX12_plank_16 mr_12_55 zn_163 rfl rfl (Nat.le_of_ble_eq_true rfl) (Nat.le_of_ble_eq_true rfl) ?_
    refine h.mono (fun r m7 h => ?_)
    obtain ⟨v8, rfl, h⟩ := h
    refine ⟨_, rfl, ?_⟩
    refine (zq_if_eq (t := 31) dX12_plank_19 rfl).mpr ⟨fun c => ?_, fun c => ?_⟩
    · replace h := h.1 c
      refine (zq_aload_n dX12_plank_31 rfl).mpr ?_
      refine (zq_iconst (v := 1) dX12_plank_32 (by decide)).mpr ?_
      obtain ⟨g11, h⟩ := h
      refine zq_virtualI (n := 1) dX12_plank_33 mr_12_51 zn_162 rfl rfl rfl (zrcv_R zo_162 (by decide) g11) (Nat.le_of_ble_eq_true rfl) ?_
      refine h.mono (fun r m9 h => ?_)
      obtain ⟨v10, rfl, h⟩ := h
      refine ⟨_, rfl, ?_⟩
      exact (zq_iret dX12_plank_36 rfl).mpr ⟨trivial, h⟩
    · replace h := h.2 c
      refine (zq_aload_n dX12_plank_22 rfl).mpr ?_
      refine (zq_iload_n dX12_plank_23 rfl).mpr ?_
      refine (zq_iload_n dX12_plank_24 rfl).mpr ?_
      obtain ⟨g14, h⟩ := h
      refine zq_virtualI (n := 2) dX12_plank_25 mr_12_210 zn_189 rfl rfl rfl (zrcv_R zo_189 (by decide) g14) (Nat.le_of_ble_eq_true rfl) ?_
      refine h.mono (fun r m12 h => ?_)
      obtain ⟨v13, rfl, h⟩ := h
      refine ⟨_, rfl, ?_⟩
      refine (zq_goto (t := 36) dX12_plank_28 rfl).mpr ?_
      exact (zq_iret dX12_plank_36 rfl).mpr ⟨trivial, h⟩
theorem bX12_find_0 {a0 : Nat} {a1 : Int} {a2 : Int} {a3 : Int} (h : (mC m a0 = 13) ∧ zC xs xl d 163 [zI a1, zI 0, zI 3] (sI m 768 a0 0) (fun r m2 => ∃ v3 : Int, r = .inl (some (zI v3)) ∧ ((v3 = 0 → (mC m2 a0 = 13) ∧ zC xs xl d 162 [zR a0, zI 1] m2 (fun r m4 => ∃ v5 : Int, r = .inl (some (zI v5)) ∧ Q (.inl (some (zI v5))) m4)) ∧ (¬ (v3 = 0) → zC xs xl d 163 [zI a2, zI 10, zI 200] m2 (fun r m7 => ∃ v8 : Int, r = .inl (some (zI v8)) ∧ ((v8 ≠ 0 → (mC m7 a0 = 13) ∧ (mC m7 (mR m7 784 a0) = 12) ∧ zC xs xl d 136 [zR (mR m7 784 a0), zI a1, zI a2] m7 (fun r m10 => ∃ v11 : Int, r = .inl (some (zI v11)) ∧ ((v11 = (-1) → Q (.inl (some (zI v11))) m10) ∧ (¬ (v11 = (-1)) → ((a3 ≠ 0 → (mC m10 a0 = 13) ∧ (mC m10 (mR m10 784 a0) = 12) ∧ zC xs xl d 134 [zR (mR m10 784 a0), zI v11, zI a2] m10 (fun r m14 => ∃ v15 : Int, r = .inl (some (zI v15)) ∧ Q (.inl (some (zI v15))) m14)) ∧ (¬ (a3 ≠ 0) → Q (.inl (some (zI v11))) m10)))))) ∧ (¬ (v8 ≠ 0) → (mC m7 a0 = 13) ∧ zC xs xl d 162 [zR a0, zI 1] m7 (fun r m17 => ∃ v18 : Int, r = .inl (some (zI v18)) ∧ Q (.inl (some (zI v18))) m17)))))))) : zC xs xl (d + 1) 191 [zR a0, zI a1, zI a2, zI a3] m Q := by
  refine zk_191 ?_
  refine (zq_aload_n dX12_find_0 rfl).mpr ?_
  refine (zq_iconst (v := 0) dX12_find_1 (by decide)).mpr ?_
  obtain ⟨g1, h⟩ := h
  refine (zq_putI (f := 768) dX12_find_2 fl_12_45 (by decide) rfl rfl rfl).mpr ⟨g1, ?_⟩
  refine (zq_iload_n dX12_find_5 rfl).mpr ?_
  refine (zq_iconst (v := 0) dX12_find_6 (by decide)).mpr ?_
  refine (zq_iconst (v := 3) dX12_find_7 (by decide)).mpr ?_
  refine zq_staticI (n := 3) dX12_find_8 mr_12_55 zn_163 rfl rfl (Nat.le_of_ble_eq_true rfl) (Nat.le_of_ble_eq_true rfl) ?_
  refine h.mono (fun r m2 h => ?_)
  obtain ⟨v3, rfl, h⟩ := h
  refine ⟨_, rfl, ?_⟩
  refine (zq_if_eq (t := 26) dX12_find_11 rfl).mpr ⟨fun c => ?_, fun c => ?_⟩
  · replace h := h.1 c
    refine (zq_aload_n dX12_find_26 rfl).mpr ?_
    refine (zq_iconst (v := 1) dX12_find_27 (by decide)).mpr ?_
    obtain ⟨g6, h⟩ := h
    refine zq_virtualI (n := 1) dX12_find_28 mr_12_51 zn_162 rfl rfl rfl (zrcv_R zo_162 (by decide) g6) (Nat.le_of_ble_eq_true rfl) ?_
    refine h.mono (fun r m4 h => ?_)
    obtain ⟨v5, rfl, h⟩ := h
    refine ⟨_, rfl, ?_⟩
    exact (zq_iret dX12_find_31 rfl).mpr ⟨trivial, h⟩
  · replace h := h.2 c
    refine (zq_iload_n dX12_find_14 rfl).mpr ?_
    refine (zq_bipush (v := 10) dX12_find_15 (by decide)).mpr ?_
    refine (zq_sipush (v := 200) dX12_find_17 (by decide)).mpr ?_
    refine zq_staticI (n := 3) dX12_find_20 mr_12_55 zn_163 rfl rfl (Nat.le_of_ble_eq_true rfl) (Nat.le_of_ble_eq_true rfl) ?_
    refine h.mono (fun r m7 h => ?_)
    obtain ⟨v8, rfl, h⟩ := h
    refine ⟨_, rfl, ?_⟩
    refine (zq_if_ne (t := 32) dX12_find_23 rfl).mpr ⟨fun c => ?_, fun c => ?_⟩
    · replace h := h.1 c
      refine (zq_aload_n dX12_find_32 rfl).mpr ?_
      obtain ⟨g9, h⟩ := h
      refine (zq_getR2 (f := 784) (v := (mR m7 784 a0)) dX12_find_33 fl_12_38 (by decide) rfl rfl (by first | rfl | simp only [zm_Is, zm_Rs, zm_As, zm_Os, zm_In0, zm_Rn0])).mpr ⟨g9, ?_⟩
      refine (zq_iload_n dX12_find_36 rfl).mpr ?_
      refine (zq_iload_n dX12_find_37 rfl).mpr ?_
      obtain ⟨g12, h⟩ := h
      refine zq_virtualI (n := 2) dX12_find_38 mr_12_213 zn_136 rfl rfl rfl (zrcv_R zo_136 (by decide) g12) (Nat.le_of_ble_eq_true rfl) ?_
      refine h.mono (fun r m10 h => ?_)
      obtain ⟨v11, rfl, h⟩ := h
      refine ⟨_, rfl, ?_⟩
      refine (zq_istore (l := [zR a0, zI a1, zI a2, zI a3, zI v11]) dX12_find_41 (Nat.le_of_ble_eq_true rfl) rfl).mpr ?_
      refine (zq_iload dX12_find_43 rfl).mpr ?_
      refine (zq_iconst (v := (-1)) dX12_find_45 (by decide)).mpr ?_
      refine (zq_icmp_eq (t := 53) dX12_find_46 rfl).mpr ⟨fun c => ?_, fun c => ?_⟩
      · replace h := h.1 c
        refine (zq_iload dX12_find_53 rfl).mpr ?_
        refine (zq_goto (t := 68) dX12_find_55 rfl).mpr ?_
        exact (zq_iret dX12_find_68 rfl).mpr ⟨trivial, h⟩
      · replace h := h.2 c
        refine (zq_iload_n dX12_find_49 rfl).mpr ?_
        refine (zq_if_ne (t := 58) dX12_find_50 rfl).mpr ⟨fun c => ?_, fun c => ?_⟩
        · replace h := h.1 c
          refine (zq_aload_n dX12_find_58 rfl).mpr ?_
          obtain ⟨g13, h⟩ := h
          refine (zq_getR2 (f := 784) (v := (mR m10 784 a0)) dX12_find_59 fl_12_38 (by decide) rfl rfl (by first | rfl | simp only [zm_Is, zm_Rs, zm_As, zm_Os, zm_In0, zm_Rn0])).mpr ⟨g13, ?_⟩
          refine (zq_iload dX12_find_62 rfl).mpr ?_
          refine (zq_iload_n dX12_find_64 rfl).mpr ?_
          obtain ⟨g16, h⟩ := h
          refine zq_virtualI (n := 2) dX12_find_65 mr_12_216 zn_134 rfl rfl rfl (zrcv_R zo_134 (by decide) g16) (Nat.le_of_ble_eq_true rfl) ?_
          refine h.mono (fun r m14 h => ?_)
          obtain ⟨v15, rfl, h⟩ := h
          refine ⟨_, rfl, ?_⟩
          exact (zq_iret dX12_find_68 rfl).mpr ⟨trivial, h⟩
        · replace h := h.2 c
          refine (zq_iload dX12_find_53 rfl).mpr ?_
          refine (zq_goto (t := 68) dX12_find_55 rfl).mpr ?_
          exact (zq_iret dX12_find_68 rfl).mpr ⟨trivial, h⟩
    · replace h := h.2 c
      refine (zq_aload_n dX12_find_26 rfl).mpr ?_
      refine (zq_iconst (v := 1) dX12_find_27 (by decide)).mpr ?_
      obtain ⟨g19, h⟩ := h
      refine zq_virtualI (n := 1) dX12_find_28 mr_12_51 zn_162 rfl rfl rfl (zrcv_R zo_162 (by decide) g19) (Nat.le_of_ble_eq_true rfl) ?_
      refine h.mono (fun r m17 h => ?_)
      obtain ⟨v18, rfl, h⟩ := h
      refine ⟨_, rfl, ?_⟩
      exact (zq_iret dX12_find_31 rfl).mpr ⟨trivial, h⟩
theorem bX12_addFrame_0 {a0 : Nat} {a1 : Int} (h : (mC m a0 = 13) ∧ zC xs xl d 163 [zI a1, zI 0, zI 4] (sI m 768 a0 0) (fun r m2 => ∃ v3 : Int, r = .inl (some (zI v3)) ∧ ((v3 ≠ 0 → (mC m2 a0 = 13) ∧ (mC m2 (mR m2 784 a0) = 12) ∧ (mC m2 (mR m2 711 (mR m2 784 a0)) = 20) ∧ (0 ≤ a1 ∧ a1 < mN m2 (mR m2 711 (mR m2 784 a0))) ∧ (((mA m2 (mR m2 711 (mR m2 784 a0)) (Int.toNat a1)) ≠ 4 → Q (.inl (some (zI (wr ((mA m2 (mR m2 711 (mR m2 784 a0)) (Int.toNat a1)) + 1))))) (sA m2 (mR m2 711 (mR m2 784 a0)) (Int.toNat a1) (wr ((mA m2 (mR m2 711 (mR m2 784 a0)) (Int.toNat a1)) + 1)))) ∧ (¬ ((mA m2 (mR m2 711 (mR m2 784 a0)) (Int.toNat a1)) ≠ 4) → zC xs xl d 162 [zR a0, zI 2] m2 (fun r m8 => ∃ v9 : Int, r = .inl (some (zI v9)) ∧ Q (.inl (some (zI v9))) m8)))) ∧ (¬ (v3 ≠ 0) → (mC m2 a0 = 13) ∧ zC xs xl d 162 [zR a0, zI 1] m2 (fun r m10 => ∃ v11 : Int, r = .inl (some (zI v11)) ∧ Q (.inl (some (zI v11))) m10))))) : zC xs xl (d + 1) 192 [zR a0, zI a1] m Q := by
  refine zk_192 ?_
  refine (zq_aload_n dX12_addFrame_0 rfl).mpr ?_
  refine (zq_iconst (v := 0) dX12_addFrame_1 (by decide)).mpr ?_
  obtain ⟨g1, h⟩ := h
  refine (zq_putI (f := 768) dX12_addFrame_2 fl_12_45 (by decide) rfl rfl rfl).mpr ⟨g1, ?_⟩
  refine (zq_iload_n dX12_addFrame_5 rfl).mpr ?_
  refine (zq_iconst (v := 0) dX12_addFrame_6 (by decide)).mpr ?_
  refine (zq_iconst (v := 4) dX12_addFrame_7 (by decide)).mpr ?_
  refine zq_staticI (n := 3) dX12_addFrame_8 mr_12_55 zn_163 rfl rfl (Nat.le_of_ble_eq_true rfl) (Nat.le_of_ble_eq_true rfl) ?_
  refine h.mono (fun r m2 h => ?_)
  obtain ⟨v3, rfl, h⟩ := h
  refine ⟨_, rfl, ?_⟩
  refine (zq_if_ne (t := 20) dX12_addFrame_11 rfl).mpr ⟨fun c => ?_, fun c => ?_⟩
  · replace h := h.1 c
    refine (zq_aload_n dX12_addFrame_20 rfl).mpr ?_
    obtain ⟨g4, h⟩ := h
    refine (zq_getR2 (f := 784) (v := (mR m2 784 a0)) dX12_addFrame_21 fl_12_38 (by decide) rfl rfl (by first | rfl | simp only [zm_Is, zm_Rs, zm_As, zm_Os, zm_In0, zm_Rn0])).mpr ⟨g4, ?_⟩
    obtain ⟨g5, h⟩ := h
    refine (zq_getR2 (f := 711) (v := (mR m2 711 (mR m2 784 a0))) dX12_addFrame_24 fl_12_219 (by decide) rfl rfl (by first | rfl | simp only [zm_Is, zm_Rs, zm_As, zm_Os, zm_In0, zm_Rn0])).mpr ⟨g5, ?_⟩
    refine (zq_iload_n dX12_addFrame_27 rfl).mpr ?_
    obtain ⟨g6, h⟩ := h
    obtain ⟨g7, h⟩ := h
    refine (zq_iald2 (v := (mA m2 (mR m2 711 (mR m2 784 a0)) (Int.toNat a1))) dX12_addFrame_28 (by first | rfl | simp only [zm_Is, zm_Rs, zm_As, zm_Os, zm_In0, zm_Rn0])).mpr ⟨⟨g6, g7⟩, ?_⟩
    refine (zq_iconst (v := 4) dX12_addFrame_29 (by decide)).mpr ?_
    refine (zq_icmp_ne (t := 39) dX12_addFrame_30 rfl).mpr ⟨fun c => ?_, fun c => ?_⟩
    · replace h := h.1 c
      refine (zq_aload_n dX12_addFrame_39 rfl).mpr ?_
      refine (zq_getR2 (f := 784) (v := (mR m2 784 a0)) dX12_addFrame_40 fl_12_38 (by decide) rfl rfl (by first | rfl | simp only [zm_Is, zm_Rs, zm_As, zm_Os, zm_In0, zm_Rn0])).mpr ⟨g4, ?_⟩
      refine (zq_getR2 (f := 711) (v := (mR m2 711 (mR m2 784 a0))) dX12_addFrame_43 fl_12_219 (by decide) rfl rfl (by first | rfl | simp only [zm_Is, zm_Rs, zm_As, zm_Os, zm_In0, zm_Rn0])).mpr ⟨g5, ?_⟩
      refine (zq_iload_n dX12_addFrame_46 rfl).mpr ?_
      refine (zq_dup2IR dX12_addFrame_47).mpr ?_
      refine (zq_iald2 (v := (mA m2 (mR m2 711 (mR m2 784 a0)) (Int.toNat a1))) dX12_addFrame_48 (by first | rfl | simp only [zm_Is, zm_Rs, zm_As, zm_Os, zm_In0, zm_Rn0])).mpr ⟨⟨g6, g7⟩, ?_⟩
      refine (zq_iconst (v := 1) dX12_addFrame_49 (by decide)).mpr ?_
      refine (zq_iadd dX12_addFrame_50).mpr ?_
      refine (zq_iast dX12_addFrame_51).mpr ⟨⟨g6, g7⟩, ?_⟩
      refine (zq_aload_n dX12_addFrame_52 rfl).mpr ?_
      refine (zq_getR2 (f := 784) (v := (mR m2 784 a0)) dX12_addFrame_53 fl_12_38 (by decide) rfl rfl (by first | rfl | simp only [zm_Is, zm_Rs, zm_As, zm_Os, zm_In0, zm_Rn0])).mpr ⟨g4, ?_⟩
      refine (zq_getR2 (f := 711) (v := (mR m2 711 (mR m2 784 a0))) dX12_addFrame_56 fl_12_219 (by decide) rfl rfl (by first | rfl | simp only [zm_Is, zm_Rs, zm_As, zm_Os, zm_In0, zm_Rn0])).mpr ⟨g5, ?_⟩
      refine (zq_iload_n dX12_addFrame_59 rfl).mpr ?_
      refine (zq_iald2 (v := (wr ((mA m2 (mR m2 711 (mR m2 784 a0)) (Int.toNat a1)) + 1))) dX12_addFrame_60 (by first | rfl | simp only [zm_Is, zm_Rs, zm_As, zm_Os, zm_In0, zm_Rn0])).mpr ⟨⟨g6, g7⟩, ?_⟩
      exact (zq_iret dX12_addFrame_61 rfl).mpr ⟨trivial, h⟩
    · replace h := h.2 c
      refine (zq_aload_n dX12_addFrame_33 rfl).mpr ?_
      refine (zq_iconst (v := 2) dX12_addFrame_34 (by decide)).mpr ?_
      refine zq_virtualI (n := 1) dX12_addFrame_35 mr_12_51 zn_162 rfl rfl rfl (zrcv_R zo_162 (by decide) g4) (Nat.le_of_ble_eq_true rfl) ?_
      refine h.mono (fun r m8 h => ?_)
      obtain ⟨v9, rfl, h⟩ := h
      refine ⟨_, rfl, ?_⟩
      exact (zq_iret dX12_addFrame_38 rfl).mpr ⟨trivial, h⟩
  · replace h := h.2 c
    refine (zq_aload_n dX12_addFrame_14 rfl).mpr ?_
    refine (zq_iconst (v := 1) dX12_addFrame_15 (by decide)).mpr ?_
    obtain ⟨g12, h⟩ := h
    refine zq_virtualI (n := 1) dX12_addFrame_16 mr_12_51 zn_162 rfl rfl rfl (zrcv_R zo_162 (by decide) g12) (Nat.le_of_ble_eq_true rfl) ?_
    refine h.mono (fun r m10 h => ?_)
    obtain ⟨v11, rfl, h⟩ := h
    refine ⟨_, rfl, ?_⟩
    exact (zq_iret dX12_addFrame_19 rfl).mpr ⟨trivial, h⟩
theorem bX12_frameTold_0 {a0 : Nat} {a1 : Int} {a2 : Int} (h : ((a2 ≠ 0 → ((a2 ≠ 1 → (mC m a0 = 13) ∧ (mC m (mR m 784 a0) = 12) ∧ zC xs xl d 141 [zR (mR m 784 a0), zI a1] m (fun r m2 => ∃ v3 : Int, r = .inl (some (zI v3)) ∧ Q (.inl (some (zI v3))) m2)) ∧ (¬ (a2 ≠ 1) → (mC m a0 = 13) ∧ (mC m (mR m 784 a0) = 12) ∧ zC xs xl d 140 [zR (mR m 784 a0), zI a1] m (fun r m6 => ∃ v7 : Int, r = .inl (some (zI v7)) ∧ Q (.inl (some (zI v7))) m6)))) ∧ (¬ (a2 ≠ 0) → (mC m a0 = 13) ∧ (mC m (mR m 784 a0) = 12) ∧ (mC m (mR m 711 (mR m 784 a0)) = 20) ∧ (0 ≤ a1 ∧ a1 < mN m (mR m 711 (mR m 784 a0))) ∧ Q (.inl (some (zI (mA m (mR m 711 (mR m 784 a0)) (Int.toNat a1))))) m))) : zC xs xl (d + 1) 193 [zR a0, zI a1, zI a2] m Q := by
  refine zk_193 ?_
  refine (zq_iload_n dX12_frameTold_0 rfl).mpr ?_
  refine (zq_if_ne (t := 16) dX12_frameTold_1 rfl).mpr ⟨fun c => ?_, fun c => ?_⟩
  · replace h := h.1 c
    refine (zq_iload_n dX12_frameTold_16 rfl).mpr ?_
    refine (zq_iconst (v := 1) dX12_frameTold_17 (by decide)).mpr ?_
    refine (zq_icmp_ne (t := 32) dX12_frameTold_18 rfl).mpr ⟨fun c => ?_, fun c => ?_⟩
    · replace h := h.1 c
      refine (zq_aload_n dX12_frameTold_32 rfl).mpr ?_
      obtain ⟨g1, h⟩ := h
      refine (zq_getR2 (f := 784) (v := (mR m 784 a0)) dX12_frameTold_33 fl_12_38 (by decide) rfl rfl (by first | rfl | simp only [zm_Is, zm_Rs, zm_As, zm_Os, zm_In0, zm_Rn0])).mpr ⟨g1, ?_⟩
      refine (zq_iload_n dX12_frameTold_36 rfl).mpr ?_
      obtain ⟨g4, h⟩ := h
      refine zq_virtualI (n := 1) dX12_frameTold_37 mr_12_225 zn_141 rfl rfl rfl (zrcv_R zo_141 (by decide) g4) (Nat.le_of_ble_eq_true rfl) ?_
      refine h.mono (fun r m2 h => ?_)
      obtain ⟨v3, rfl, h⟩ := h
      refine ⟨_, rfl, ?_⟩
      exact (zq_iret dX12_frameTold_40 rfl).mpr ⟨trivial, h⟩
    · replace h := h.2 c
      refine (zq_aload_n dX12_frameTold_21 rfl).mpr ?_
      obtain ⟨g5, h⟩ := h
      refine (zq_getR2 (f := 784) (v := (mR m 784 a0)) dX12_frameTold_22 fl_12_38 (by decide) rfl rfl (by first | rfl | simp only [zm_Is, zm_Rs, zm_As, zm_Os, zm_In0, zm_Rn0])).mpr ⟨g5, ?_⟩
      refine (zq_iload_n dX12_frameTold_25 rfl).mpr ?_
      obtain ⟨g8, h⟩ := h
      refine zq_virtualI (n := 1) dX12_frameTold_26 mr_12_222 zn_140 rfl rfl rfl (zrcv_R zo_140 (by decide) g8) (Nat.le_of_ble_eq_true rfl) ?_
      refine h.mono (fun r m6 h => ?_)
      obtain ⟨v7, rfl, h⟩ := h
      refine ⟨_, rfl, ?_⟩
      refine (zq_goto (t := 40) dX12_frameTold_29 rfl).mpr ?_
      exact (zq_iret dX12_frameTold_40 rfl).mpr ⟨trivial, h⟩
  · replace h := h.2 c
    refine (zq_aload_n dX12_frameTold_4 rfl).mpr ?_
    obtain ⟨g9, h⟩ := h
    refine (zq_getR2 (f := 784) (v := (mR m 784 a0)) dX12_frameTold_5 fl_12_38 (by decide) rfl rfl (by first | rfl | simp only [zm_Is, zm_Rs, zm_As, zm_Os, zm_In0, zm_Rn0])).mpr ⟨g9, ?_⟩
    obtain ⟨g10, h⟩ := h
    refine (zq_getR2 (f := 711) (v := (mR m 711 (mR m 784 a0))) dX12_frameTold_8 fl_12_219 (by decide) rfl rfl (by first | rfl | simp only [zm_Is, zm_Rs, zm_As, zm_Os, zm_In0, zm_Rn0])).mpr ⟨g10, ?_⟩
    refine (zq_iload_n dX12_frameTold_11 rfl).mpr ?_
    obtain ⟨g11, h⟩ := h
    obtain ⟨g12, h⟩ := h
    refine (zq_iald2 (v := (mA m (mR m 711 (mR m 784 a0)) (Int.toNat a1))) dX12_frameTold_12 (by first | rfl | simp only [zm_Is, zm_Rs, zm_As, zm_Os, zm_In0, zm_Rn0])).mpr ⟨⟨g11, g12⟩, ?_⟩
    refine (zq_goto (t := 40) dX12_frameTold_13 rfl).mpr ?_
    exact (zq_iret dX12_frameTold_40 rfl).mpr ⟨trivial, h⟩
theorem bX12_frames_0 {a0 : Nat} {a1 : Int} {a2 : Int} (h : (mC m a0 = 13) ∧ zC xs xl d 163 [zI a1, zI 0, zI 4] (sI m 768 a0 0) (fun r m2 => ∃ v3 : Int, r = .inl (some (zI v3)) ∧ ((v3 = 0 → (mC m2 a0 = 13) ∧ zC xs xl d 162 [zR a0, zI 1] m2 (fun r m4 => ∃ v5 : Int, r = .inl (some (zI v5)) ∧ Q (.inl (some (zI v5))) m4)) ∧ (¬ (v3 = 0) → zC xs xl d 163 [zI a2, zI 0, zI 2] m2 (fun r m7 => ∃ v8 : Int, r = .inl (some (zI v8)) ∧ ((v8 = 0 → (mC m7 a0 = 13) ∧ zC xs xl d 162 [zR a0, zI 1] m7 (fun r m9 => ∃ v10 : Int, r = .inl (some (zI v10)) ∧ Q (.inl (some (zI v10))) m9)) ∧ (¬ (v8 = 0) → (mC m7 a0 = 13) ∧ zC xs xl d 193 [zR a0, zI a1, zI a2] m7 (fun r m12 => ∃ v13 : Int, r = .inl (some (zI v13)) ∧ Q (.inl (some (zI v13))) m12)))))))) : zC xs xl (d + 1) 194 [zR a0, zI a1, zI a2] m Q := by
  refine zk_194 ?_
  refine (zq_aload_n dX12_frames_0 rfl).mpr ?_
  refine (zq_iconst (v := 0) dX12_frames_1 (by decide)).mpr ?_
  obtain ⟨g1, h⟩ := h
  refine (zq_putI (f := 768) dX12_frames_2 fl_12_45 (by decide) rfl rfl rfl).mpr ⟨g1, ?_⟩
  refine (zq_iload_n dX12_frames_5 rfl).mpr ?_
  refine (zq_iconst (v := 0) dX12_frames_6 (by decide)).mpr ?_
  refine (zq_iconst (v := 4) dX12_frames_7 (by decide)).mpr ?_
  refine zq_staticI (n := 3) dX12_frames_8 mr_12_55 zn_163 rfl rfl (Nat.le_of_ble_eq_true rfl) (Nat.le_of_ble_eq_true rfl) ?_
  refine h.mono (fun r m2 h => ?_)
  obtain ⟨v3, rfl, h⟩ := h
  refine ⟨_, rfl, ?_⟩
  refine (zq_if_eq (t := 32) dX12_frames_11 rfl).mpr ⟨fun c => ?_, fun c => ?_⟩
  · replace h := h.1 c
    refine (zq_aload_n dX12_frames_32 rfl).mpr ?_
    refine (zq_iconst (v := 1) dX12_frames_33 (by decide)).mpr ?_
    obtain ⟨g6, h⟩ := h
    refine zq_virtualI (n := 1) dX12_frames_34 mr_12_51 zn_162 rfl rfl rfl (zrcv_R zo_162 (by decide) g6) (Nat.le_of_ble_eq_true rfl) ?_
    refine h.mono (fun r m4 h => ?_)
    obtain ⟨v5, rfl, h⟩ := h
    refine ⟨_, rfl, ?_⟩
    exact (zq_iret dX12_frames_37 rfl).mpr ⟨trivial, h⟩
  · replace h := h.2 c
    refine (zq_iload_n dX12_frames_14 rfl).mpr ?_
    refine (zq_iconst (v := 0) dX12_frames_15 (by decide)).mpr ?_
    refine (zq_iconst (v := 2) dX12_frames_16 (by decide)).mpr ?_
    refine zq_staticI (n := 3) dX12_frames_17 mr_12_55 zn_163 rfl rfl (Nat.le_of_ble_eq_true rfl) (Nat.le_of_ble_eq_true rfl) ?_
    refine h.mono (fun r m7 h => ?_)
    obtain ⟨v8, rfl, h⟩ := h
    refine ⟨_, rfl, ?_⟩
    refine (zq_if_eq (t := 32) dX12_frames_20 rfl).mpr ⟨fun c => ?_, fun c => ?_⟩
    · replace h := h.1 c
      refine (zq_aload_n dX12_frames_32 rfl).mpr ?_
      refine (zq_iconst (v := 1) dX12_frames_33 (by decide)).mpr ?_
      obtain ⟨g11, h⟩ := h
      refine zq_virtualI (n := 1) dX12_frames_34 mr_12_51 zn_162 rfl rfl rfl (zrcv_R zo_162 (by decide) g11) (Nat.le_of_ble_eq_true rfl) ?_
      refine h.mono (fun r m9 h => ?_)
      obtain ⟨v10, rfl, h⟩ := h
      refine ⟨_, rfl, ?_⟩
      exact (zq_iret dX12_frames_37 rfl).mpr ⟨trivial, h⟩
    · replace h := h.2 c
      refine (zq_aload_n dX12_frames_23 rfl).mpr ?_
      refine (zq_iload_n dX12_frames_24 rfl).mpr ?_
      refine (zq_iload_n dX12_frames_25 rfl).mpr ?_
      obtain ⟨g14, h⟩ := h
      refine zq_virtualI (n := 2) dX12_frames_26 mr_12_228 zn_193 rfl rfl rfl (zrcv_R zo_193 (by decide) g14) (Nat.le_of_ble_eq_true rfl) ?_
      refine h.mono (fun r m12 h => ?_)
      obtain ⟨v13, rfl, h⟩ := h
      refine ⟨_, rfl, ?_⟩
      refine (zq_goto (t := 37) dX12_frames_29 rfl).mpr ?_
      exact (zq_iret dX12_frames_37 rfl).mpr ⟨trivial, h⟩
theorem bX12_addSlip_0 {a0 : Nat} (h : (mC m a0 = 13) ∧ (mC m (mR m 784 a0) = 12) ∧ (((mI m 712 (mR m 784 a0)) ≠ 6 → Q (.inl (some (zI (wr ((wr ((mI m 712 (mR m 784 a0)) + 1)) - 1))))) (sI (sI m 768 a0 0) 712 (mR m 784 a0) (wr ((mI m 712 (mR m 784 a0)) + 1)))) ∧ (¬ ((mI m 712 (mR m 784 a0)) ≠ 6) → zC xs xl d 162 [zR a0, zI 1] (sI m 768 a0 0) (fun r m3 => ∃ v4 : Int, r = .inl (some (zI v4)) ∧ Q (.inl (some (zI v4))) m3)))) : zC xs xl (d + 1) 195 [zR a0] m Q := by
  refine zk_195 ?_
  refine (zq_aload_n dX12_addSlip_0 rfl).mpr ?_
  refine (zq_iconst (v := 0) dX12_addSlip_1 (by decide)).mpr ?_
  obtain ⟨g1, h⟩ := h
  refine (zq_putI (f := 768) dX12_addSlip_2 fl_12_45 (by decide) rfl rfl rfl).mpr ⟨g1, ?_⟩
  refine (zq_aload_n dX12_addSlip_5 rfl).mpr ?_
  refine (zq_getR2 (f := 784) (v := (mR m 784 a0)) dX12_addSlip_6 fl_12_38 (by decide) rfl rfl (by first | rfl | simp only [zm_Is, zm_Rs, zm_As, zm_Os, zm_In0, zm_Rn0])).mpr ⟨g1, ?_⟩
  obtain ⟨g2, h⟩ := h
  refine (zq_getI2 (f := 712) (v := (mI m 712 (mR m 784 a0))) dX12_addSlip_9 fl_12_231 (by decide) rfl rfl (by first | rfl | simp only [zm_Is, zm_Rs, zm_As, zm_Os, zm_In0, zm_Rn0])).mpr ⟨g2, ?_⟩
  refine (zq_bipush (v := 6) dX12_addSlip_12 (by decide)).mpr ?_
  refine (zq_icmp_ne (t := 23) dX12_addSlip_14 rfl).mpr ⟨fun c => ?_, fun c => ?_⟩
  · replace h := h.1 c
    refine (zq_aload_n dX12_addSlip_23 rfl).mpr ?_
    refine (zq_getR2 (f := 784) (v := (mR m 784 a0)) dX12_addSlip_24 fl_12_38 (by decide) rfl rfl (by first | rfl | simp only [zm_Is, zm_Rs, zm_As, zm_Os, zm_In0, zm_Rn0])).mpr ⟨g1, ?_⟩
    refine (zq_dupR dX12_addSlip_27).mpr ?_
    refine (zq_getI2 (f := 712) (v := (mI m 712 (mR m 784 a0))) dX12_addSlip_28 fl_12_231 (by decide) rfl rfl (by first | rfl | simp only [zm_Is, zm_Rs, zm_As, zm_Os, zm_In0, zm_Rn0])).mpr ⟨g2, ?_⟩
    refine (zq_iconst (v := 1) dX12_addSlip_31 (by decide)).mpr ?_
    refine (zq_iadd dX12_addSlip_32).mpr ?_
    refine (zq_putI (f := 712) dX12_addSlip_33 fl_12_231 (by decide) rfl rfl rfl).mpr ⟨g2, ?_⟩
    refine (zq_aload_n dX12_addSlip_36 rfl).mpr ?_
    refine (zq_getR2 (f := 784) (v := (mR m 784 a0)) dX12_addSlip_37 fl_12_38 (by decide) rfl rfl (by first | rfl | simp only [zm_Is, zm_Rs, zm_As, zm_Os, zm_In0, zm_Rn0])).mpr ⟨g1, ?_⟩
    refine (zq_getI2 (f := 712) (v := (wr ((mI m 712 (mR m 784 a0)) + 1))) dX12_addSlip_40 fl_12_231 (by decide) rfl rfl (by first | rfl | simp only [zm_Is, zm_Rs, zm_As, zm_Os, zm_In0, zm_Rn0])).mpr ⟨g2, ?_⟩
    refine (zq_iconst (v := 1) dX12_addSlip_43 (by decide)).mpr ?_
    refine (zq_isub dX12_addSlip_44).mpr ?_
    exact (zq_iret dX12_addSlip_45 rfl).mpr ⟨trivial, h⟩
  · replace h := h.2 c
    refine (zq_aload_n dX12_addSlip_17 rfl).mpr ?_
    refine (zq_iconst (v := 1) dX12_addSlip_18 (by decide)).mpr ?_
    refine zq_virtualI (n := 1) dX12_addSlip_19 mr_12_51 zn_162 rfl rfl rfl (zrcv_R zo_162 (by decide) g1) (Nat.le_of_ble_eq_true rfl) ?_
    refine h.mono (fun r m3 h => ?_)
    obtain ⟨v4, rfl, h⟩ := h
    refine ⟨_, rfl, ?_⟩
    exact (zq_iret dX12_addSlip_22 rfl).mpr ⟨trivial, h⟩
theorem bX12_isSlip_0 {a0 : Nat} {a1 : Int} (h : (mC m a0 = 13) ∧ (mC m (mR m 784 a0) = 12) ∧ zC xs xl d 163 [zI a1, zI 0, zI (wr ((mI m 712 (mR m 784 a0)) - 1))] m (fun r m3 => ∃ v4 : Int, r = .inl (some (zI v4)) ∧ (v4 = 0 ∨ v4 = 1) ∧ Q (.inl (some (zI v4))) m3)) : zC xs xl (d + 1) 196 [zR a0, zI a1] m Q := by
  refine zk_196 ?_
  refine (zq_iload_n dX12_isSlip_0 rfl).mpr ?_
  refine (zq_iconst (v := 0) dX12_isSlip_1 (by decide)).mpr ?_
  refine (zq_aload_n dX12_isSlip_2 rfl).mpr ?_
  obtain ⟨g1, h⟩ := h
  refine (zq_getR2 (f := 784) (v := (mR m 784 a0)) dX12_isSlip_3 fl_12_38 (by decide) rfl rfl (by first | rfl | simp only [zm_Is, zm_Rs, zm_As, zm_Os, zm_In0, zm_Rn0])).mpr ⟨g1, ?_⟩
  obtain ⟨g2, h⟩ := h
  refine (zq_getI2 (f := 712) (v := (mI m 712 (mR m 784 a0))) dX12_isSlip_6 fl_12_231 (by decide) rfl rfl (by first | rfl | simp only [zm_Is, zm_Rs, zm_As, zm_Os, zm_In0, zm_Rn0])).mpr ⟨g2, ?_⟩
  refine (zq_iconst (v := 1) dX12_isSlip_9 (by decide)).mpr ?_
  refine (zq_isub dX12_isSlip_10).mpr ?_
  refine zq_staticI (n := 3) dX12_isSlip_11 mr_12_55 zn_163 rfl rfl (Nat.le_of_ble_eq_true rfl) (Nat.le_of_ble_eq_true rfl) ?_
  refine h.mono (fun r m3 h => ?_)
  obtain ⟨v4, rfl, h⟩ := h
  refine ⟨_, rfl, ?_⟩
  obtain ⟨g5, h⟩ := h
  exact (zq_iret dX12_isSlip_14 rfl).mpr ⟨g5, h⟩
theorem bX12_start_0 {a0 : Nat} {a1 : Int} {a2 : Int} {a3 : Int} (h : (mC m a0 = 13) ∧ zC xs xl d 196 [zR a0, zI a1] (sI m 768 a0 0) (fun r m2 => ∃ v3 : Int, r = .inl (some (zI v3)) ∧ ((v3 ≠ 0 → zC xs xl d 163 [zI a2, zI 0, zI 5] m2 (fun r m4 => ∃ v5 : Int, r = .inl (some (zI v5)) ∧ ((v5 = 0 → (mC m4 a0 = 13) ∧ zC xs xl d 162 [zR a0, zI 2] m4 (fun r m6 => ∃ v7 : Int, r = .inl (some (zI v7)) ∧ Q (.inl (some (zI v7))) m6)) ∧ (¬ (v5 = 0) → zC xs xl d 163 [zI a3, zI 0, zI 60] m4 (fun r m9 => ∃ v10 : Int, r = .inl (some (zI v10)) ∧ ((v10 ≠ 0 → (mC m9 a0 = 13) ∧ (mC m9 (mR m9 777 a0) = 20) ∧ (0 ≤ a2 ∧ a2 < mN m9 (mR m9 777 a0)) ∧ (((mA m9 (mR m9 777 a0) (Int.toNat a2)) = 0 → zC xs xl d 162 [zR a0, zI 3] m9 (fun r m14 => ∃ v15 : Int, r = .inl (some (zI v15)) ∧ Q (.inl (some (zI v15))) m14)) ∧ (¬ ((mA m9 (mR m9 777 a0) (Int.toNat a2)) = 0) → (mC m9 (mR m9 784 a0) = 12) ∧ (mC m9 (mR m9 714 (mR m9 784 a0)) = 21 ∨ mC m9 (mR m9 714 (mR m9 784 a0)) = 22) ∧ (0 ≤ a1 ∧ a1 < mN m9 (mR m9 714 (mR m9 784 a0))) ∧ (((mA m9 (mR m9 714 (mR m9 784 a0)) (Int.toNat a1)) = 0 → (mC m9 (mR m9 714 (mR m9 784 a0)) = 21) ∧ (0 ≤ a1 ∧ a1 < mN m9 (mR m9 713 (mR m9 784 a0))) ∧ (mC m9 (mR m9 713 (mR m9 784 a0)) = 20) ∧ (0 ≤ a1 ∧ a1 < mN m9 (mR m9 715 (mR m9 784 a0))) ∧ (mC m9 (mR m9 715 (mR m9 784 a0)) = 20) ∧ (0 ≤ a1 ∧ a1 < mN m9 (mR m9 716 (mR m9 784 a0))) ∧ (mC m9 (mR m9 716 (mR m9 784 a0)) = 20) ∧ (0 ≤ (240 : Int) ∧ 0 ≤ (wr (240 * a1)) ∧ 0 ≤ (wr (240 * a2)) ∧ (wr (240 * a2)) + (240 : Int) ≤ mN m9 (mR m9 778 a0) ∧ (wr (240 * a1)) + (240 : Int) ≤ mN m9 (mR m9 717 (mR m9 784 a0)) ∧ mC m9 (mR m9 778 a0) = mC m9 (mR m9 717 (mR m9 784 a0)) ∧ (mC m9 (mR m9 778 a0) = 20 ∨ (mC m9 (mR m9 778 a0) = 21 ∧ ∀ j : Nat, (wr (240 * a2)) ≤ j → j < (wr (240 * a2)) + (240 : Int) → mA (sA (sA (sA (sA m9 (mR m9 714 (mR m9 784 a0)) (Int.toNat a1) 1) (mR m9 713 (mR m9 784 a0)) (Int.toNat a1) a2) (mR m9 715 (mR m9 784 a0)) (Int.toNat a1) a3) (mR m9 716 (mR m9 784 a0)) (Int.toNat a1) (mA (sA (sA (sA m9 (mR m9 714 (mR m9 784 a0)) (Int.toNat a1) 1) (mR m9 713 (mR m9 784 a0)) (Int.toNat a1) a2) (mR m9 715 (mR m9 784 a0)) (Int.toNat a1) a3) (mR m9 777 a0) (Int.toNat a2))) (mR m9 778 a0) j = 0 ∨ mA (sA (sA (sA (sA m9 (mR m9 714 (mR m9 784 a0)) (Int.toNat a1) 1) (mR m9 713 (mR m9 784 a0)) (Int.toNat a1) a2) (mR m9 715 (mR m9 784 a0)) (Int.toNat a1) a3) (mR m9 716 (mR m9 784 a0)) (Int.toNat a1) (mA (sA (sA (sA m9 (mR m9 714 (mR m9 784 a0)) (Int.toNat a1) 1) (mR m9 713 (mR m9 784 a0)) (Int.toNat a1) a2) (mR m9 715 (mR m9 784 a0)) (Int.toNat a1) a3) (mR m9 777 a0) (Int.toNat a2))) (mR m9 778 a0) j = 1)) ∧ (mR m9 778 a0) ≠ (mR m9 717 (mR m9 784 a0))) ∧ (0 ≤ a1 ∧ a1 < mN m9 (mR m9 718 (mR m9 784 a0))) ∧ (mC m9 (mR m9 718 (mR m9 784 a0)) = 20) ∧ (0 ≤ a1 ∧ a1 < mN m9 (mR m9 720 (mR m9 784 a0))) ∧ (mC m9 (mR m9 720 (mR m9 784 a0)) = 20) ∧ (0 ≤ a1 ∧ a1 < mN m9 (mR m9 721 (mR m9 784 a0))) ∧ (mC m9 (mR m9 721 (mR m9 784 a0)) = 20) ∧ (0 ≤ a1 ∧ a1 < mN m9 (mR m9 722 (mR m9 784 a0))) ∧ (mC m9 (mR m9 722 (mR m9 784 a0)) = 20) ∧ (0 ≤ a1 ∧ a1 < mN m9 (mR m9 723 (mR m9 784 a0))) ∧ (mC m9 (mR m9 723 (mR m9 784 a0)) = 20) ∧ (0 ≤ a1 ∧ a1 < mN m9 (mR m9 724 (mR m9 784 a0))) ∧ (mC m9 (mR m9 724 (mR m9 784 a0)) = 20) ∧ zC xs xl d 159 [zR (mR m9 784 a0), zI 3] (sA (sA (sA (sA (sA (sA (cpA (sA (sA (sA (sA m9 (mR m9 714 (mR m9 784 a0)) (Int.toNat a1) 1) (mR m9 713 (mR m9 784 a0)) (Int.toNat a1) a2) (mR m9 715 (mR m9 784 a0)) (Int.toNat a1) a3) (mR m9 716 (mR m9 784 a0)) (Int.toNat a1) (mA (sA (sA (sA m9 (mR m9 714 (mR m9 784 a0)) (Int.toNat a1) 1) (mR m9 713 (mR m9 784 a0)) (Int.toNat a1) a2) (mR m9 715 (mR m9 784 a0)) (Int.toNat a1) a3) (mR m9 777 a0) (Int.toNat a2))) (mR m9 778 a0) (Int.toNat (wr (240 * a2))) (mR m9 717 (mR m9 784 a0)) (Int.toNat (wr (240 * a1))) 240) (mR m9 718 (mR m9 784 a0)) (Int.toNat a1) 0) (mR m9 720 (mR m9 784 a0)) (Int.toNat a1) 0) (mR m9 721 (mR m9 784 a0)) (Int.toNat a1) 0) (mR m9 722 (mR m9 784 a0)) (Int.toNat a1) 0) (mR m9 723 (mR m9 784 a0)) (Int.toNat a1) 0) (mR m9 724 (mR m9 784 a0)) (Int.toNat a1) (mI m9 704 (mR m9 784 a0))) (fun r m39 => ∃ v40 : Int, r = .inl (some (zI v40)) ∧ Q (.inl (some (zI v40))) m39)) ∧ (¬ ((mA m9 (mR m9 714 (mR m9 784 a0)) (Int.toNat a1)) = 0) → zC xs xl d 162 [zR a0, zI 3] m9 (fun r m41 => ∃ v42 : Int, r = .inl (some (zI v42)) ∧ Q (.inl (some (zI v42))) m41)))))) ∧ (¬ (v10 ≠ 0) → (mC m9 a0 = 13) ∧ zC xs xl d 162 [zR a0, zI 2] m9 (fun r m43 => ∃ v44 : Int, r = .inl (some (zI v44)) ∧ Q (.inl (some (zI v44))) m43)))))))) ∧ (¬ (v3 ≠ 0) → (mC m2 a0 = 13) ∧ zC xs xl d 162 [zR a0, zI 1] m2 (fun r m46 => ∃ v47 : Int, r = .inl (some (zI v47)) ∧ Q (.inl (some (zI v47))) m46))))) : zC xs xl (d + 1) 197 [zR a0, zI a1, zI a2, zI a3] m Q := by
  refine zk_197 ?_
  refine (zq_aload_n dX12_start_0 rfl).mpr ?_
  refine (zq_iconst (v := 0) dX12_start_1 (by decide)).mpr ?_
  obtain ⟨g1, h⟩ := h
  refine (zq_putI (f := 768) dX12_start_2 fl_12_45 (by decide) rfl rfl rfl).mpr ⟨g1, ?_⟩
  refine (zq_aload_n dX12_start_5 rfl).mpr ?_
  refine (zq_iload_n dX12_start_6 rfl).mpr ?_
  refine zq_virtualI (n := 1) dX12_start_7 mr_12_234 zn_196 rfl rfl rfl (zrcv_R zo_196 (by decide) g1) (Nat.le_of_ble_eq_true rfl) ?_
  refine h.mono (fun r m2 h => ?_)
  obtain ⟨v3, rfl, h⟩ := h
  refine ⟨_, rfl, ?_⟩
  refine (zq_if_ne (t := 19) dX12_start_10 rfl).mpr ⟨fun c => ?_, fun c => ?_⟩
  · replace h := h.1 c
    refine (zq_iload_n dX12_start_19 rfl).mpr ?_
    refine (zq_iconst (v := 0) dX12_start_20 (by decide)).mpr ?_
    refine (zq_iconst (v := 5) dX12_start_21 (by decide)).mpr ?_
    refine zq_staticI (n := 3) dX12_start_22 mr_12_55 zn_163 rfl rfl (Nat.le_of_ble_eq_true rfl) (Nat.le_of_ble_eq_true rfl) ?_
    refine h.mono (fun r m4 h => ?_)
    obtain ⟨v5, rfl, h⟩ := h
    refine ⟨_, rfl, ?_⟩
    refine (zq_if_eq (t := 38) dX12_start_25 rfl).mpr ⟨fun c => ?_, fun c => ?_⟩
    · replace h := h.1 c
      refine (zq_aload_n dX12_start_38 rfl).mpr ?_
      refine (zq_iconst (v := 2) dX12_start_39 (by decide)).mpr ?_
      obtain ⟨g8, h⟩ := h
      refine zq_virtualI (n := 1) dX12_start_40 mr_12_51 zn_162 rfl rfl rfl (zrcv_R zo_162 (by decide) g8) (Nat.le_of_ble_eq_true rfl) ?_
      refine h.mono (fun r m6 h => ?_)
      obtain ⟨v7, rfl, h⟩ := h
      refine ⟨_, rfl, ?_⟩
      exact (zq_iret dX12_start_43 rfl).mpr ⟨trivial, h⟩
    · replace h := h.2 c
      refine (zq_iload_n dX12_start_28 rfl).mpr ?_
      refine (zq_iconst (v := 0) dX12_start_29 (by decide)).mpr ?_
      refine (zq_bipush (v := 60) dX12_start_30 (by decide)).mpr ?_
      refine zq_staticI (n := 3) dX12_start_32 mr_12_55 zn_163 rfl rfl (Nat.le_of_ble_eq_true rfl) (Nat.le_of_ble_eq_true rfl) ?_
      refine h.mono (fun r m9 h => ?_)
      obtain ⟨v10, rfl, h⟩ := h
      refine ⟨_, rfl, ?_⟩
      refine (zq_if_ne (t := 44) dX12_start_35 rfl).mpr ⟨fun c => ?_, fun c => ?_⟩
      · replace h := h.1 c
        refine (zq_aload_n dX12_start_44 rfl).mpr ?_
        obtain ⟨g11, h⟩ := h
        refine (zq_getR2 (f := 777) (v := (mR m9 777 a0)) dX12_start_45 fl_12_26 (by decide) rfl rfl (by first | rfl | simp only [zm_Is, zm_Rs, zm_As, zm_Os, zm_In0, zm_Rn0])).mpr ⟨g11, ?_⟩
        refine (zq_iload_n dX12_start_48 rfl).mpr ?_
        obtain ⟨g12, h⟩ := h
        obtain ⟨g13, h⟩ := h
        refine (zq_iald2 (v := (mA m9 (mR m9 777 a0) (Int.toNat a2))) dX12_start_49 (by first | rfl | simp only [zm_Is, zm_Rs, zm_As, zm_Os, zm_In0, zm_Rn0])).mpr ⟨⟨g12, g13⟩, ?_⟩
        refine (zq_if_eq (t := 65) dX12_start_50 rfl).mpr ⟨fun c => ?_, fun c => ?_⟩
        · replace h := h.1 c
          refine (zq_aload_n dX12_start_65 rfl).mpr ?_
          refine (zq_iconst (v := 3) dX12_start_66 (by decide)).mpr ?_
          refine zq_virtualI (n := 1) dX12_start_67 mr_12_51 zn_162 rfl rfl rfl (zrcv_R zo_162 (by decide) g11) (Nat.le_of_ble_eq_true rfl) ?_
          refine h.mono (fun r m14 h => ?_)
          obtain ⟨v15, rfl, h⟩ := h
          refine ⟨_, rfl, ?_⟩
          exact (zq_iret dX12_start_70 rfl).mpr ⟨trivial, h⟩
        · replace h := h.2 c
          refine (zq_aload_n dX12_start_53 rfl).mpr ?_
          refine (zq_getR2 (f := 784) (v := (mR m9 784 a0)) dX12_start_54 fl_12_38 (by decide) rfl rfl (by first | rfl | simp only [zm_Is, zm_Rs, zm_As, zm_Os, zm_In0, zm_Rn0])).mpr ⟨g11, ?_⟩
          obtain ⟨g16, h⟩ := h
          refine (zq_getR2 (f := 714) (v := (mR m9 714 (mR m9 784 a0))) dX12_start_57 fl_12_237 (by decide) rfl rfl (by first | rfl | simp only [zm_Is, zm_Rs, zm_As, zm_Os, zm_In0, zm_Rn0])).mpr ⟨g16, ?_⟩
          refine (zq_iload_n dX12_start_60 rfl).mpr ?_
          obtain ⟨g17, h⟩ := h
          obtain ⟨g18, h⟩ := h
          refine (zq_bald2 (v := (mA m9 (mR m9 714 (mR m9 784 a0)) (Int.toNat a1))) dX12_start_61 (by first | rfl | simp only [zm_Is, zm_Rs, zm_As, zm_Os, zm_In0, zm_Rn0])).mpr ⟨⟨g17, g18⟩, ?_⟩
          refine (zq_if_eq (t := 71) dX12_start_62 rfl).mpr ⟨fun c => ?_, fun c => ?_⟩
          · replace h := h.1 c
            refine (zq_aload_n dX12_start_71 rfl).mpr ?_
            refine (zq_getR2 (f := 784) (v := (mR m9 784 a0)) dX12_start_72 fl_12_38 (by decide) rfl rfl (by first | rfl | simp only [zm_Is, zm_Rs, zm_As, zm_Os, zm_In0, zm_Rn0])).mpr ⟨g11, ?_⟩
            refine (zq_getR2 (f := 714) (v := (mR m9 714 (mR m9 784 a0))) dX12_start_75 fl_12_237 (by decide) rfl rfl (by first | rfl | simp only [zm_Is, zm_Rs, zm_As, zm_Os, zm_In0, zm_Rn0])).mpr ⟨g16, ?_⟩
            refine (zq_iload_n dX12_start_78 rfl).mpr ?_
            refine (zq_iconst (v := 1) dX12_start_79 (by decide)).mpr ?_
            obtain ⟨g19, h⟩ := h
            refine (zq_bast dX12_start_80).mpr ⟨⟨Or.inl ⟨g19, Or.inr rfl⟩, g18⟩, ?_⟩
            refine (zq_aload_n dX12_start_81 rfl).mpr ?_
            refine (zq_getR2 (f := 784) (v := (mR m9 784 a0)) dX12_start_82 fl_12_38 (by decide) rfl rfl (by first | rfl | simp only [zm_Is, zm_Rs, zm_As, zm_Os, zm_In0, zm_Rn0])).mpr ⟨g11, ?_⟩
            refine (zq_getR2 (f := 713) (v := (mR m9 713 (mR m9 784 a0))) dX12_start_85 fl_12_241 (by decide) rfl rfl (by first | rfl | simp only [zm_Is, zm_Rs, zm_As, zm_Os, zm_In0, zm_Rn0])).mpr ⟨g16, ?_⟩
            refine (zq_iload_n dX12_start_88 rfl).mpr ?_
            refine (zq_iload_n dX12_start_89 rfl).mpr ?_
            obtain ⟨g20, h⟩ := h
            obtain ⟨g21, h⟩ := h
            refine (zq_iast dX12_start_90).mpr ⟨⟨g21, g20⟩, ?_⟩
            refine (zq_aload_n dX12_start_91 rfl).mpr ?_
            refine (zq_getR2 (f := 784) (v := (mR m9 784 a0)) dX12_start_92 fl_12_38 (by decide) rfl rfl (by first | rfl | simp only [zm_Is, zm_Rs, zm_As, zm_Os, zm_In0, zm_Rn0])).mpr ⟨g11, ?_⟩
            refine (zq_getR2 (f := 715) (v := (mR m9 715 (mR m9 784 a0))) dX12_start_95 fl_12_244 (by decide) rfl rfl (by first | rfl | simp only [zm_Is, zm_Rs, zm_As, zm_Os, zm_In0, zm_Rn0])).mpr ⟨g16, ?_⟩
            refine (zq_iload_n dX12_start_98 rfl).mpr ?_
            refine (zq_iload_n dX12_start_99 rfl).mpr ?_
            obtain ⟨g22, h⟩ := h
            obtain ⟨g23, h⟩ := h
            refine (zq_iast dX12_start_100).mpr ⟨⟨g23, g22⟩, ?_⟩
            refine (zq_aload_n dX12_start_101 rfl).mpr ?_
            refine (zq_getR2 (f := 784) (v := (mR m9 784 a0)) dX12_start_102 fl_12_38 (by decide) rfl rfl (by first | rfl | simp only [zm_Is, zm_Rs, zm_As, zm_Os, zm_In0, zm_Rn0])).mpr ⟨g11, ?_⟩
            refine (zq_getR2 (f := 716) (v := (mR m9 716 (mR m9 784 a0))) dX12_start_105 fl_12_247 (by decide) rfl rfl (by first | rfl | simp only [zm_Is, zm_Rs, zm_As, zm_Os, zm_In0, zm_Rn0])).mpr ⟨g16, ?_⟩
            refine (zq_iload_n dX12_start_108 rfl).mpr ?_
            refine (zq_aload_n dX12_start_109 rfl).mpr ?_
            refine (zq_getR2 (f := 777) (v := (mR m9 777 a0)) dX12_start_110 fl_12_26 (by decide) rfl rfl (by first | rfl | simp only [zm_Is, zm_Rs, zm_As, zm_Os, zm_In0, zm_Rn0])).mpr ⟨g11, ?_⟩
            refine (zq_iload_n dX12_start_113 rfl).mpr ?_
            refine (zq_iald2 (v := (mA (sA (sA (sA m9 (mR m9 714 (mR m9 784 a0)) (Int.toNat a1) 1) (mR m9 713 (mR m9 784 a0)) (Int.toNat a1) a2) (mR m9 715 (mR m9 784 a0)) (Int.toNat a1) a3) (mR m9 777 a0) (Int.toNat a2))) dX12_start_114 (by first | rfl | simp only [zm_Is, zm_Rs, zm_As, zm_Os, zm_In0, zm_Rn0])).mpr ⟨⟨g12, g13⟩, ?_⟩
            obtain ⟨g24, h⟩ := h
            obtain ⟨g25, h⟩ := h
            refine (zq_iast dX12_start_115).mpr ⟨⟨g25, g24⟩, ?_⟩
            refine (zq_aload_n dX12_start_116 rfl).mpr ?_
            refine (zq_getR2 (f := 778) (v := (mR m9 778 a0)) dX12_start_117 fl_12_29 (by decide) rfl rfl (by first | rfl | simp only [zm_Is, zm_Rs, zm_As, zm_Os, zm_In0, zm_Rn0])).mpr ⟨g11, ?_⟩
            refine (zq_sipush (v := 240) dX12_start_120 (by decide)).mpr ?_
            refine (zq_iload_n dX12_start_123 rfl).mpr ?_
            refine (zq_imul dX12_start_124).mpr ?_
            refine (zq_aload_n dX12_start_125 rfl).mpr ?_
            refine (zq_getR2 (f := 784) (v := (mR m9 784 a0)) dX12_start_126 fl_12_38 (by decide) rfl rfl (by first | rfl | simp only [zm_Is, zm_Rs, zm_As, zm_Os, zm_In0, zm_Rn0])).mpr ⟨g11, ?_⟩
            refine (zq_getR2 (f := 717) (v := (mR m9 717 (mR m9 784 a0))) dX12_start_129 fl_12_250 (by decide) rfl rfl (by first | rfl | simp only [zm_Is, zm_Rs, zm_As, zm_Os, zm_In0, zm_Rn0])).mpr ⟨g16, ?_⟩
            refine (zq_sipush (v := 240) dX12_start_132 (by decide)).mpr ?_
            refine (zq_iload_n dX12_start_135 rfl).mpr ?_
            refine (zq_imul dX12_start_136).mpr ?_
            refine (zq_sipush (v := 240) dX12_start_137 (by decide)).mpr ?_
            obtain ⟨g26, h⟩ := h
            refine (zq_copy dX12_start_140 mr_12_168).mpr ⟨⟨g26.1, g26.2.1, g26.2.2.1, g26.2.2.2.1, g26.2.2.2.2.1, g26.2.2.2.2.2.1, g26.2.2.2.2.2.2.1, g26.2.2.2.2.2.2.2, (Nat.le_of_ble_eq_true rfl)⟩, ?_⟩
            refine (zq_aload_n dX12_start_143 rfl).mpr ?_
            refine (zq_getR2 (f := 784) (v := (mR m9 784 a0)) dX12_start_144 fl_12_38 (by decide) rfl rfl (by first | rfl | simp only [zm_Is, zm_Rs, zm_As, zm_Os, zm_In0, zm_Rn0])).mpr ⟨g11, ?_⟩
            refine (zq_getR2 (f := 718) (v := (mR m9 718 (mR m9 784 a0))) dX12_start_147 fl_12_253 (by decide) rfl rfl (by first | rfl | simp only [zm_Is, zm_Rs, zm_As, zm_Os, zm_In0, zm_Rn0])).mpr ⟨g16, ?_⟩
            refine (zq_iload_n dX12_start_150 rfl).mpr ?_
            refine (zq_iconst (v := 0) dX12_start_151 (by decide)).mpr ?_
            obtain ⟨g27, h⟩ := h
            obtain ⟨g28, h⟩ := h
            refine (zq_iast dX12_start_152).mpr ⟨⟨g28, g27⟩, ?_⟩
            refine (zq_aload_n dX12_start_153 rfl).mpr ?_
            refine (zq_getR2 (f := 784) (v := (mR m9 784 a0)) dX12_start_154 fl_12_38 (by decide) rfl rfl (by first | rfl | simp only [zm_Is, zm_Rs, zm_As, zm_Os, zm_In0, zm_Rn0])).mpr ⟨g11, ?_⟩
            refine (zq_getR2 (f := 720) (v := (mR m9 720 (mR m9 784 a0))) dX12_start_157 fl_12_256 (by decide) rfl rfl (by first | rfl | simp only [zm_Is, zm_Rs, zm_As, zm_Os, zm_In0, zm_Rn0])).mpr ⟨g16, ?_⟩
            refine (zq_iload_n dX12_start_160 rfl).mpr ?_
            refine (zq_iconst (v := 0) dX12_start_161 (by decide)).mpr ?_
            obtain ⟨g29, h⟩ := h
            obtain ⟨g30, h⟩ := h
            refine (zq_iast dX12_start_162).mpr ⟨⟨g30, g29⟩, ?_⟩
            refine (zq_aload_n dX12_start_163 rfl).mpr ?_
            refine (zq_getR2 (f := 784) (v := (mR m9 784 a0)) dX12_start_164 fl_12_38 (by decide) rfl rfl (by first | rfl | simp only [zm_Is, zm_Rs, zm_As, zm_Os, zm_In0, zm_Rn0])).mpr ⟨g11, ?_⟩
            refine (zq_getR2 (f := 721) (v := (mR m9 721 (mR m9 784 a0))) dX12_start_167 fl_12_259 (by decide) rfl rfl (by first | rfl | simp only [zm_Is, zm_Rs, zm_As, zm_Os, zm_In0, zm_Rn0])).mpr ⟨g16, ?_⟩
            refine (zq_iload_n dX12_start_170 rfl).mpr ?_
            refine (zq_iconst (v := 0) dX12_start_171 (by decide)).mpr ?_
            obtain ⟨g31, h⟩ := h
            obtain ⟨g32, h⟩ := h
            refine (zq_iast dX12_start_172).mpr ⟨⟨g32, g31⟩, ?_⟩
            refine (zq_aload_n dX12_start_173 rfl).mpr ?_
            refine (zq_getR2 (f := 784) (v := (mR m9 784 a0)) dX12_start_174 fl_12_38 (by decide) rfl rfl (by first | rfl | simp only [zm_Is, zm_Rs, zm_As, zm_Os, zm_In0, zm_Rn0])).mpr ⟨g11, ?_⟩
            refine (zq_getR2 (f := 722) (v := (mR m9 722 (mR m9 784 a0))) dX12_start_177 fl_12_262 (by decide) rfl rfl (by first | rfl | simp only [zm_Is, zm_Rs, zm_As, zm_Os, zm_In0, zm_Rn0])).mpr ⟨g16, ?_⟩
            refine (zq_iload_n dX12_start_180 rfl).mpr ?_
            refine (zq_iconst (v := 0) dX12_start_181 (by decide)).mpr ?_
            obtain ⟨g33, h⟩ := h
            obtain ⟨g34, h⟩ := h
            refine (zq_iast dX12_start_182).mpr ⟨⟨g34, g33⟩, ?_⟩
            refine (zq_aload_n dX12_start_183 rfl).mpr ?_
            refine (zq_getR2 (f := 784) (v := (mR m9 784 a0)) dX12_start_184 fl_12_38 (by decide) rfl rfl (by first | rfl | simp only [zm_Is, zm_Rs, zm_As, zm_Os, zm_In0, zm_Rn0])).mpr ⟨g11, ?_⟩
            refine (zq_getR2 (f := 723) (v := (mR m9 723 (mR m9 784 a0))) dX12_start_187 fl_12_265 (by decide) rfl rfl (by first | rfl | simp only [zm_Is, zm_Rs, zm_As, zm_Os, zm_In0, zm_Rn0])).mpr ⟨g16, ?_⟩
            refine (zq_iload_n dX12_start_190 rfl).mpr ?_
            refine (zq_iconst (v := 0) dX12_start_191 (by decide)).mpr ?_
            obtain ⟨g35, h⟩ := h
            obtain ⟨g36, h⟩ := h
            refine (zq_iast dX12_start_192).mpr ⟨⟨g36, g35⟩, ?_⟩
            refine (zq_aload_n dX12_start_193 rfl).mpr ?_
            refine (zq_getR2 (f := 784) (v := (mR m9 784 a0)) dX12_start_194 fl_12_38 (by decide) rfl rfl (by first | rfl | simp only [zm_Is, zm_Rs, zm_As, zm_Os, zm_In0, zm_Rn0])).mpr ⟨g11, ?_⟩
            refine (zq_getR2 (f := 724) (v := (mR m9 724 (mR m9 784 a0))) dX12_start_197 fl_12_268 (by decide) rfl rfl (by first | rfl | simp only [zm_Is, zm_Rs, zm_As, zm_Os, zm_In0, zm_Rn0])).mpr ⟨g16, ?_⟩
            refine (zq_iload_n dX12_start_200 rfl).mpr ?_
            refine (zq_aload_n dX12_start_201 rfl).mpr ?_
            refine (zq_getR2 (f := 784) (v := (mR m9 784 a0)) dX12_start_202 fl_12_38 (by decide) rfl rfl (by first | rfl | simp only [zm_Is, zm_Rs, zm_As, zm_Os, zm_In0, zm_Rn0])).mpr ⟨g11, ?_⟩
            refine (zq_getI2 (f := 704) (v := (mI m9 704 (mR m9 784 a0))) dX12_start_205 fl_12_271 (by decide) rfl rfl (by first | rfl | simp only [zm_Is, zm_Rs, zm_As, zm_Os, zm_In0, zm_Rn0])).mpr ⟨g16, ?_⟩
            obtain ⟨g37, h⟩ := h
            obtain ⟨g38, h⟩ := h
            refine (zq_iast dX12_start_208).mpr ⟨⟨g38, g37⟩, ?_⟩
            refine (zq_aload_n dX12_start_209 rfl).mpr ?_
            refine (zq_getR2 (f := 784) (v := (mR m9 784 a0)) dX12_start_210 fl_12_38 (by decide) rfl rfl (by first | rfl | simp only [zm_Is, zm_Rs, zm_As, zm_Os, zm_In0, zm_Rn0])).mpr ⟨g11, ?_⟩
            refine (zq_iconst (v := 3) dX12_start_213 (by decide)).mpr ?_
            refine zq_virtualI (n := 1) dX12_start_214 mr_12_274 zn_159 rfl rfl rfl (zrcv_R zo_159 (by decide) g16) (Nat.le_of_ble_eq_true rfl) ?_
            refine h.mono (fun r m39 h => ?_)
            obtain ⟨v40, rfl, h⟩ := h
            refine ⟨_, rfl, ?_⟩
            exact (zq_iret dX12_start_217 rfl).mpr ⟨trivial, h⟩
          · replace h := h.2 c
            refine (zq_aload_n dX12_start_65 rfl).mpr ?_
            refine (zq_iconst (v := 3) dX12_start_66 (by decide)).mpr ?_
            refine zq_virtualI (n := 1) dX12_start_67 mr_12_51 zn_162 rfl rfl rfl (zrcv_R zo_162 (by decide) g11) (Nat.le_of_ble_eq_true rfl) ?_
            refine h.mono (fun r m41 h => ?_)
            obtain ⟨v42, rfl, h⟩ := h
            refine ⟨_, rfl, ?_⟩
            exact (zq_iret dX12_start_70 rfl).mpr ⟨trivial, h⟩
      · replace h := h.2 c
        refine (zq_aload_n dX12_start_38 rfl).mpr ?_
        refine (zq_iconst (v := 2) dX12_start_39 (by decide)).mpr ?_
        obtain ⟨g45, h⟩ := h
        refine zq_virtualI (n := 1) dX12_start_40 mr_12_51 zn_162 rfl rfl rfl (zrcv_R zo_162 (by decide) g45) (Nat.le_of_ble_eq_true rfl) ?_
        refine h.mono (fun r m43 h => ?_)
        obtain ⟨v44, rfl, h⟩ := h
        refine ⟨_, rfl, ?_⟩
        exact (zq_iret dX12_start_43 rfl).mpr ⟨trivial, h⟩
  · replace h := h.2 c
    refine (zq_aload_n dX12_start_13 rfl).mpr ?_
    refine (zq_iconst (v := 1) dX12_start_14 (by decide)).mpr ?_
    obtain ⟨g48, h⟩ := h
    refine zq_virtualI (n := 1) dX12_start_15 mr_12_51 zn_162 rfl rfl rfl (zrcv_R zo_162 (by decide) g48) (Nat.le_of_ble_eq_true rfl) ?_
    refine h.mono (fun r m46 h => ?_)
    obtain ⟨v47, rfl, h⟩ := h
    refine ⟨_, rfl, ?_⟩
    exact (zq_iret dX12_start_18 rfl).mpr ⟨trivial, h⟩
theorem bX12_lend_0 {a0 : Nat} {a1 : Int} {a2 : Int} {a3 : Int} (h : (mC m a0 = 13) ∧ zC xs xl d 196 [zR a0, zI a1] (sI m 768 a0 0) (fun r m2 => ∃ v3 : Int, r = .inl (some (zI v3)) ∧ ((v3 = 0 → (mC m2 a0 = 13) ∧ zC xs xl d 162 [zR a0, zI 1] m2 (fun r m4 => ∃ v5 : Int, r = .inl (some (zI v5)) ∧ Q (.inl (some (zI v5))) m4)) ∧ (¬ (v3 = 0) → (mC m2 a0 = 13) ∧ zC xs xl d 196 [zR a0, zI a2] m2 (fun r m7 => ∃ v8 : Int, r = .inl (some (zI v8)) ∧ ((v8 ≠ 0 → ((a1 = a2 → (mC m7 a0 = 13) ∧ zC xs xl d 162 [zR a0, zI 2] m7 (fun r m10 => ∃ v11 : Int, r = .inl (some (zI v11)) ∧ Q (.inl (some (zI v11))) m10)) ∧ (¬ (a1 = a2) → zC xs xl d 163 [zI a3, zI 0, zI 4] m7 (fun r m13 => ∃ v14 : Int, r = .inl (some (zI v14)) ∧ ((v14 ≠ 0 → (mC m13 a0 = 13) ∧ (mC m13 (mR m13 784 a0) = 12) ∧ (mC m13 (mR m13 725 (mR m13 784 a0)) = 20) ∧ (0 ≤ a1 ∧ a1 < mN m13 (mR m13 725 (mR m13 784 a0))) ∧ (((bAnd (bShr (mA m13 (mR m13 725 (mR m13 784 a0)) (Int.toNat a1)) a3) 1) = 0 → zC xs xl d 162 [zR a0, zI 3] m13 (fun r m19 => ∃ v20 : Int, r = .inl (some (zI v20)) ∧ Q (.inl (some (zI v20))) m19)) ∧ (¬ ((bAnd (bShr (mA m13 (mR m13 725 (mR m13 784 a0)) (Int.toNat a1)) a3) 1) = 0) → (mC m13 (mR m13 728 (mR m13 784 a0)) = 21 ∨ mC m13 (mR m13 728 (mR m13 784 a0)) = 22) ∧ (0 ≤ a1 ∧ a1 < mN m13 (mR m13 728 (mR m13 784 a0))) ∧ (((mA m13 (mR m13 728 (mR m13 784 a0)) (Int.toNat a1)) ≠ 0 → zC xs xl d 162 [zR a0, zI 3] m13 (fun r m23 => ∃ v24 : Int, r = .inl (some (zI v24)) ∧ Q (.inl (some (zI v24))) m23)) ∧ (¬ ((mA m13 (mR m13 728 (mR m13 784 a0)) (Int.toNat a1)) ≠ 0) → (mC m13 (mR m13 726 (mR m13 784 a0)) = 20) ∧ (0 ≤ a2 ∧ a2 < mN m13 (mR m13 726 (mR m13 784 a0))) ∧ (((mA m13 (mR m13 726 (mR m13 784 a0)) (Int.toNat a2)) = a3 → zC xs xl d 143 [zR (mR m13 784 a0), zI a2] m13 (fun r m27 => r = .inl none ∧ (mC m27 a0 = 13) ∧ (mC m27 (mR m27 784 a0) = 12) ∧ (mC m27 (mR m27 725 (mR m27 784 a0)) = 20) ∧ (0 ≤ a1 ∧ a1 < mN m27 (mR m27 725 (mR m27 784 a0))) ∧ zC xs xl d 142 [zR (mR m27 784 a0), zI a1, zI a3, zI 1] (sA m27 (mR m27 725 (mR m27 784 a0)) (Int.toNat a1) (bAnd (mA m27 (mR m27 725 (mR m27 784 a0)) (Int.toNat a1)) (bXor (bShl 1 a3) (-1)))) (fun r m33 => r = .inl none ∧ (mC m33 a0 = 13) ∧ (mC m33 (mR m33 784 a0) = 12) ∧ zC xs xl d 141 [zR (mR m33 784 a0), zI (-1)] m33 (fun r m36 => ∃ v37 : Int, r = .inl (some (zI v37)) ∧ Q (.inl (some (zI v37))) m36)))) ∧ (¬ ((mA m13 (mR m13 726 (mR m13 784 a0)) (Int.toNat a2)) = a3) → zC xs xl d 162 [zR a0, zI 3] m13 (fun r m39 => ∃ v40 : Int, r = .inl (some (zI v40)) ∧ Q (.inl (some (zI v40))) m39)))))))) ∧ (¬ (v14 ≠ 0) → (mC m13 a0 = 13) ∧ zC xs xl d 162 [zR a0, zI 2] m13 (fun r m41 => ∃ v42 : Int, r = .inl (some (zI v42)) ∧ Q (.inl (some (zI v42))) m41))))))) ∧ (¬ (v8 ≠ 0) → (mC m7 a0 = 13) ∧ zC xs xl d 162 [zR a0, zI 1] m7 (fun r m44 => ∃ v45 : Int, r = .inl (some (zI v45)) ∧ Q (.inl (some (zI v45))) m44)))))))) : zC xs xl (d + 1) 198 [zR a0, zI a1, zI a2, zI a3] m Q := by
  refine zk_198 ?_
  refine (zq_aload_n dX12_lend_0 rfl).mpr ?_
  refine (zq_iconst (v := 0) dX12_lend_1 (by decide)).mpr ?_
  obtain ⟨g1, h⟩ := h
  refine (zq_putI (f := 768) dX12_lend_2 fl_12_45 (by decide) rfl rfl rfl).mpr ⟨g1, ?_⟩
  refine (zq_aload_n dX12_lend_5 rfl).mpr ?_
  refine (zq_iload_n dX12_lend_6 rfl).mpr ?_
  refine zq_virtualI (n := 1) dX12_lend_7 mr_12_234 zn_196 rfl rfl rfl (zrcv_R zo_196 (by decide) g1) (Nat.le_of_ble_eq_true rfl) ?_
  refine h.mono (fun r m2 h => ?_)
  obtain ⟨v3, rfl, h⟩ := h
  refine ⟨_, rfl, ?_⟩
  refine (zq_if_eq (t := 21) dX12_lend_10 rfl).mpr ⟨fun c => ?_, fun c => ?_⟩
  · replace h := h.1 c
    refine (zq_aload_n dX12_lend_21 rfl).mpr ?_
    refine (zq_iconst (v := 1) dX12_lend_22 (by decide)).mpr ?_
    obtain ⟨g6, h⟩ := h
    refine zq_virtualI (n := 1) dX12_lend_23 mr_12_51 zn_162 rfl rfl rfl (zrcv_R zo_162 (by decide) g6) (Nat.le_of_ble_eq_true rfl) ?_
    refine h.mono (fun r m4 h => ?_)
    obtain ⟨v5, rfl, h⟩ := h
    refine ⟨_, rfl, ?_⟩
    exact (zq_iret dX12_lend_26 rfl).mpr ⟨trivial, h⟩
  · replace h := h.2 c
    refine (zq_aload_n dX12_lend_13 rfl).mpr ?_
    refine (zq_iload_n dX12_lend_14 rfl).mpr ?_
    obtain ⟨g9, h⟩ := h
    refine zq_virtualI (n := 1) dX12_lend_15 mr_12_234 zn_196 rfl rfl rfl (zrcv_R zo_196 (by decide) g9) (Nat.le_of_ble_eq_true rfl) ?_
    refine h.mono (fun r m7 h => ?_)
    obtain ⟨v8, rfl, h⟩ := h
    refine ⟨_, rfl, ?_⟩
    refine (zq_if_ne (t := 27) dX12_lend_18 rfl).mpr ⟨fun c => ?_, fun c => ?_⟩
    · replace h := h.1 c
      refine (zq_iload_n dX12_lend_27 rfl).mpr ?_
      refine (zq_iload_n dX12_lend_28 rfl).mpr ?_
      refine (zq_icmp_eq (t := 41) dX12_lend_29 rfl).mpr ⟨fun c => ?_, fun c => ?_⟩
      · replace h := h.1 c
        refine (zq_aload_n dX12_lend_41 rfl).mpr ?_
        refine (zq_iconst (v := 2) dX12_lend_42 (by decide)).mpr ?_
        obtain ⟨g12, h⟩ := h
        refine zq_virtualI (n := 1) dX12_lend_43 mr_12_51 zn_162 rfl rfl rfl (zrcv_R zo_162 (by decide) g12) (Nat.le_of_ble_eq_true rfl) ?_
        refine h.mono (fun r m10 h => ?_)
        obtain ⟨v11, rfl, h⟩ := h
        refine ⟨_, rfl, ?_⟩
        exact (zq_iret dX12_lend_46 rfl).mpr ⟨trivial, h⟩
      · replace h := h.2 c
        refine (zq_iload_n dX12_lend_32 rfl).mpr ?_
        refine (zq_iconst (v := 0) dX12_lend_33 (by decide)).mpr ?_
        refine (zq_iconst (v := 4) dX12_lend_34 (by decide)).mpr ?_
        refine zq_staticI (n := 3) dX12_lend_35 mr_12_55 zn_163 rfl rfl (Nat.le_of_ble_eq_true rfl) (Nat.le_of_ble_eq_true rfl) ?_
        refine h.mono (fun r m13 h => ?_)
        obtain ⟨v14, rfl, h⟩ := h
        refine ⟨_, rfl, ?_⟩
        refine (zq_if_ne (t := 47) dX12_lend_38 rfl).mpr ⟨fun c => ?_, fun c => ?_⟩
        · replace h := h.1 c
          refine (zq_aload_n dX12_lend_47 rfl).mpr ?_
          obtain ⟨g15, h⟩ := h
          refine (zq_getR2 (f := 784) (v := (mR m13 784 a0)) dX12_lend_48 fl_12_38 (by decide) rfl rfl (by first | rfl | simp only [zm_Is, zm_Rs, zm_As, zm_Os, zm_In0, zm_Rn0])).mpr ⟨g15, ?_⟩
          obtain ⟨g16, h⟩ := h
          refine (zq_getR2 (f := 725) (v := (mR m13 725 (mR m13 784 a0))) dX12_lend_51 fl_12_277 (by decide) rfl rfl (by first | rfl | simp only [zm_Is, zm_Rs, zm_As, zm_Os, zm_In0, zm_Rn0])).mpr ⟨g16, ?_⟩
          refine (zq_iload_n dX12_lend_54 rfl).mpr ?_
          obtain ⟨g17, h⟩ := h
          obtain ⟨g18, h⟩ := h
          refine (zq_iald2 (v := (mA m13 (mR m13 725 (mR m13 784 a0)) (Int.toNat a1))) dX12_lend_55 (by first | rfl | simp only [zm_Is, zm_Rs, zm_As, zm_Os, zm_In0, zm_Rn0])).mpr ⟨⟨g17, g18⟩, ?_⟩
          refine (zq_iload_n dX12_lend_56 rfl).mpr ?_
          refine (zq_ishr dX12_lend_57).mpr ?_
          refine (zq_iconst (v := 1) dX12_lend_58 (by decide)).mpr ?_
          refine (zq_iand dX12_lend_59).mpr ?_
          refine (zq_if_eq (t := 88) dX12_lend_60 rfl).mpr ⟨fun c => ?_, fun c => ?_⟩
          · replace h := h.1 c
            refine (zq_aload_n dX12_lend_88 rfl).mpr ?_
            refine (zq_iconst (v := 3) dX12_lend_89 (by decide)).mpr ?_
            refine zq_virtualI (n := 1) dX12_lend_90 mr_12_51 zn_162 rfl rfl rfl (zrcv_R zo_162 (by decide) g15) (Nat.le_of_ble_eq_true rfl) ?_
            refine h.mono (fun r m19 h => ?_)
            obtain ⟨v20, rfl, h⟩ := h
            refine ⟨_, rfl, ?_⟩
            exact (zq_iret dX12_lend_93 rfl).mpr ⟨trivial, h⟩
          · replace h := h.2 c
            refine (zq_aload_n dX12_lend_63 rfl).mpr ?_
            refine (zq_getR2 (f := 784) (v := (mR m13 784 a0)) dX12_lend_64 fl_12_38 (by decide) rfl rfl (by first | rfl | simp only [zm_Is, zm_Rs, zm_As, zm_Os, zm_In0, zm_Rn0])).mpr ⟨g15, ?_⟩
            refine (zq_getR2 (f := 728) (v := (mR m13 728 (mR m13 784 a0))) dX12_lend_67 fl_12_280 (by decide) rfl rfl (by first | rfl | simp only [zm_Is, zm_Rs, zm_As, zm_Os, zm_In0, zm_Rn0])).mpr ⟨g16, ?_⟩
            refine (zq_iload_n dX12_lend_70 rfl).mpr ?_
            obtain ⟨g21, h⟩ := h
            obtain ⟨g22, h⟩ := h
            refine (zq_bald2 (v := (mA m13 (mR m13 728 (mR m13 784 a0)) (Int.toNat a1))) dX12_lend_71 (by first | rfl | simp only [zm_Is, zm_Rs, zm_As, zm_Os, zm_In0, zm_Rn0])).mpr ⟨⟨g21, g22⟩, ?_⟩
            refine (zq_if_ne (t := 88) dX12_lend_72 rfl).mpr ⟨fun c => ?_, fun c => ?_⟩
            · replace h := h.1 c
              refine (zq_aload_n dX12_lend_88 rfl).mpr ?_
              refine (zq_iconst (v := 3) dX12_lend_89 (by decide)).mpr ?_
              refine zq_virtualI (n := 1) dX12_lend_90 mr_12_51 zn_162 rfl rfl rfl (zrcv_R zo_162 (by decide) g15) (Nat.le_of_ble_eq_true rfl) ?_
              refine h.mono (fun r m23 h => ?_)
              obtain ⟨v24, rfl, h⟩ := h
              refine ⟨_, rfl, ?_⟩
              exact (zq_iret dX12_lend_93 rfl).mpr ⟨trivial, h⟩
            · replace h := h.2 c
              refine (zq_aload_n dX12_lend_75 rfl).mpr ?_
              refine (zq_getR2 (f := 784) (v := (mR m13 784 a0)) dX12_lend_76 fl_12_38 (by decide) rfl rfl (by first | rfl | simp only [zm_Is, zm_Rs, zm_As, zm_Os, zm_In0, zm_Rn0])).mpr ⟨g15, ?_⟩
              refine (zq_getR2 (f := 726) (v := (mR m13 726 (mR m13 784 a0))) dX12_lend_79 fl_12_283 (by decide) rfl rfl (by first | rfl | simp only [zm_Is, zm_Rs, zm_As, zm_Os, zm_In0, zm_Rn0])).mpr ⟨g16, ?_⟩
              refine (zq_iload_n dX12_lend_82 rfl).mpr ?_
              obtain ⟨g25, h⟩ := h
              obtain ⟨g26, h⟩ := h
              refine (zq_iald2 (v := (mA m13 (mR m13 726 (mR m13 784 a0)) (Int.toNat a2))) dX12_lend_83 (by first | rfl | simp only [zm_Is, zm_Rs, zm_As, zm_Os, zm_In0, zm_Rn0])).mpr ⟨⟨g25, g26⟩, ?_⟩
              refine (zq_iload_n dX12_lend_84 rfl).mpr ?_
              refine (zq_icmp_eq (t := 94) dX12_lend_85 rfl).mpr ⟨fun c => ?_, fun c => ?_⟩
              · replace h := h.1 c
                refine (zq_aload_n dX12_lend_94 rfl).mpr ?_
                refine (zq_getR2 (f := 784) (v := (mR m13 784 a0)) dX12_lend_95 fl_12_38 (by decide) rfl rfl (by first | rfl | simp only [zm_Is, zm_Rs, zm_As, zm_Os, zm_In0, zm_Rn0])).mpr ⟨g15, ?_⟩
                refine (zq_iload_n dX12_lend_98 rfl).mpr ?_
                refine zq_virtualV (n := 1) dX12_lend_99 mr_12_286 zn_143 rfl rfl rfl (zrcv_R zo_143 (by decide) g16) (Nat.le_of_ble_eq_true rfl) ?_
                refine h.mono (fun r m27 h => ?_)
                obtain ⟨rfl, h⟩ := h
                refine ⟨rfl, ?_⟩
                refine (zq_aload_n dX12_lend_102 rfl).mpr ?_
                obtain ⟨g29, h⟩ := h
                refine (zq_getR2 (f := 784) (v := (mR m27 784 a0)) dX12_lend_103 fl_12_38 (by decide) rfl rfl (by first | rfl | simp only [zm_Is, zm_Rs, zm_As, zm_Os, zm_In0, zm_Rn0])).mpr ⟨g29, ?_⟩
                obtain ⟨g30, h⟩ := h
                refine (zq_getR2 (f := 725) (v := (mR m27 725 (mR m27 784 a0))) dX12_lend_106 fl_12_277 (by decide) rfl rfl (by first | rfl | simp only [zm_Is, zm_Rs, zm_As, zm_Os, zm_In0, zm_Rn0])).mpr ⟨g30, ?_⟩
                refine (zq_iload_n dX12_lend_109 rfl).mpr ?_
                refine (zq_dup2IR dX12_lend_110).mpr ?_
                obtain ⟨g31, h⟩ := h
                obtain ⟨g32, h⟩ := h
                refine (zq_iald2 (v := (mA m27 (mR m27 725 (mR m27 784 a0)) (Int.toNat a1))) dX12_lend_111 (by first | rfl | simp only [zm_Is, zm_Rs, zm_As, zm_Os, zm_In0, zm_Rn0])).mpr ⟨⟨g31, g32⟩, ?_⟩
                refine (zq_iconst (v := 1) dX12_lend_112 (by decide)).mpr ?_
                refine (zq_iload_n dX12_lend_113 rfl).mpr ?_
                refine (zq_ishl dX12_lend_114).mpr ?_
                refine (zq_iconst (v := (-1)) dX12_lend_115 (by decide)).mpr ?_
                refine (zq_ixor dX12_lend_116).mpr ?_
                refine (zq_iand dX12_lend_117).mpr ?_
                refine (zq_iast dX12_lend_118).mpr ⟨⟨g31, g32⟩, ?_⟩
                refine (zq_aload_n dX12_lend_119 rfl).mpr ?_
                refine (zq_getR2 (f := 784) (v := (mR m27 784 a0)) dX12_lend_120 fl_12_38 (by decide) rfl rfl (by first | rfl | simp only [zm_Is, zm_Rs, zm_As, zm_Os, zm_In0, zm_Rn0])).mpr ⟨g29, ?_⟩
                refine (zq_iload_n dX12_lend_123 rfl).mpr ?_
                refine (zq_iload_n dX12_lend_124 rfl).mpr ?_
                refine (zq_iconst (v := 1) dX12_lend_125 (by decide)).mpr ?_
                refine zq_virtualV (n := 3) dX12_lend_126 mr_12_290 zn_142 rfl rfl rfl (zrcv_R zo_142 (by decide) g30) (Nat.le_of_ble_eq_true rfl) ?_
                refine h.mono (fun r m33 h => ?_)
                obtain ⟨rfl, h⟩ := h
                refine ⟨rfl, ?_⟩
                refine (zq_aload_n dX12_lend_129 rfl).mpr ?_
                obtain ⟨g35, h⟩ := h
                refine (zq_getR2 (f := 784) (v := (mR m33 784 a0)) dX12_lend_130 fl_12_38 (by decide) rfl rfl (by first | rfl | simp only [zm_Is, zm_Rs, zm_As, zm_Os, zm_In0, zm_Rn0])).mpr ⟨g35, ?_⟩
                refine (zq_iconst (v := (-1)) dX12_lend_133 (by decide)).mpr ?_
                obtain ⟨g38, h⟩ := h
                refine zq_virtualI (n := 1) dX12_lend_134 mr_12_225 zn_141 rfl rfl rfl (zrcv_R zo_141 (by decide) g38) (Nat.le_of_ble_eq_true rfl) ?_
                refine h.mono (fun r m36 h => ?_)
                obtain ⟨v37, rfl, h⟩ := h
                refine ⟨_, rfl, ?_⟩
                exact (zq_iret dX12_lend_137 rfl).mpr ⟨trivial, h⟩
              · replace h := h.2 c
                refine (zq_aload_n dX12_lend_88 rfl).mpr ?_
                refine (zq_iconst (v := 3) dX12_lend_89 (by decide)).mpr ?_
                refine zq_virtualI (n := 1) dX12_lend_90 mr_12_51 zn_162 rfl rfl rfl (zrcv_R zo_162 (by decide) g15) (Nat.le_of_ble_eq_true rfl) ?_
                refine h.mono (fun r m39 h => ?_)
                obtain ⟨v40, rfl, h⟩ := h
                refine ⟨_, rfl, ?_⟩
                exact (zq_iret dX12_lend_93 rfl).mpr ⟨trivial, h⟩
        · replace h := h.2 c
          refine (zq_aload_n dX12_lend_41 rfl).mpr ?_
          refine (zq_iconst (v := 2) dX12_lend_42 (by decide)).mpr ?_
          obtain ⟨g43, h⟩ := h
          refine zq_virtualI (n := 1) dX12_lend_43 mr_12_51 zn_162 rfl rfl rfl (zrcv_R zo_162 (by decide) g43) (Nat.le_of_ble_eq_true rfl) ?_
          refine h.mono (fun r m41 h => ?_)
          obtain ⟨v42, rfl, h⟩ := h
          refine ⟨_, rfl, ?_⟩
          exact (zq_iret dX12_lend_46 rfl).mpr ⟨trivial, h⟩
    · replace h := h.2 c
      refine (zq_aload_n dX12_lend_21 rfl).mpr ?_
      refine (zq_iconst (v := 1) dX12_lend_22 (by decide)).mpr ?_
      obtain ⟨g46, h⟩ := h
      refine zq_virtualI (n := 1) dX12_lend_23 mr_12_51 zn_162 rfl rfl rfl (zrcv_R zo_162 (by decide) g46) (Nat.le_of_ble_eq_true rfl) ?_
      refine h.mono (fun r m44 h => ?_)
      obtain ⟨v45, rfl, h⟩ := h
      refine ⟨_, rfl, ?_⟩
      exact (zq_iret dX12_lend_26 rfl).mpr ⟨trivial, h⟩
theorem bX12_slip_0 {a0 : Nat} {a1 : Int} {a2 : Int} (h : (mC m a0 = 13) ∧ zC xs xl d 196 [zR a0, zI a1] (sI m 768 a0 0) (fun r m2 => ∃ v3 : Int, r = .inl (some (zI v3)) ∧ ((v3 = 0 → (mC m2 a0 = 13) ∧ zC xs xl d 162 [zR a0, zI 1] m2 (fun r m4 => ∃ v5 : Int, r = .inl (some (zI v5)) ∧ Q (.inl (some (zI v5))) m4)) ∧ (¬ (v3 = 0) → zC xs xl d 163 [zI a2, zI 0, zI 14] m2 (fun r m7 => ∃ v8 : Int, r = .inl (some (zI v8)) ∧ ((v8 = 0 → (mC m7 a0 = 13) ∧ zC xs xl d 162 [zR a0, zI 1] m7 (fun r m9 => ∃ v10 : Int, r = .inl (some (zI v10)) ∧ Q (.inl (some (zI v10))) m9)) ∧ (¬ (v8 = 0) → (mC m7 a0 = 13) ∧ (mC m7 (mR m7 784 a0) = 12) ∧ zC xs xl d 158 [zR (mR m7 784 a0), zI a1, zI a2] m7 (fun r m13 => ∃ v14 : Int, r = .inl (some (zI v14)) ∧ Q (.inl (some (zI v14))) m13)))))))) : zC xs xl (d + 1) 199 [zR a0, zI a1, zI a2] m Q := by
  refine zk_199 ?_
  refine (zq_aload_n dX12_slip_0 rfl).mpr ?_
  refine (zq_iconst (v := 0) dX12_slip_1 (by decide)).mpr ?_
  obtain ⟨g1, h⟩ := h
  refine (zq_putI (f := 768) dX12_slip_2 fl_12_45 (by decide) rfl rfl rfl).mpr ⟨g1, ?_⟩
  refine (zq_aload_n dX12_slip_5 rfl).mpr ?_
  refine (zq_iload_n dX12_slip_6 rfl).mpr ?_
  refine zq_virtualI (n := 1) dX12_slip_7 mr_12_234 zn_196 rfl rfl rfl (zrcv_R zo_196 (by decide) g1) (Nat.le_of_ble_eq_true rfl) ?_
  refine h.mono (fun r m2 h => ?_)
  obtain ⟨v3, rfl, h⟩ := h
  refine ⟨_, rfl, ?_⟩
  refine (zq_if_eq (t := 35) dX12_slip_10 rfl).mpr ⟨fun c => ?_, fun c => ?_⟩
  · replace h := h.1 c
    refine (zq_aload_n dX12_slip_35 rfl).mpr ?_
    refine (zq_iconst (v := 1) dX12_slip_36 (by decide)).mpr ?_
    obtain ⟨g6, h⟩ := h
    refine zq_virtualI (n := 1) dX12_slip_37 mr_12_51 zn_162 rfl rfl rfl (zrcv_R zo_162 (by decide) g6) (Nat.le_of_ble_eq_true rfl) ?_
    refine h.mono (fun r m4 h => ?_)
    obtain ⟨v5, rfl, h⟩ := h
    refine ⟨_, rfl, ?_⟩
    exact (zq_iret dX12_slip_40 rfl).mpr ⟨trivial, h⟩
  · replace h := h.2 c
    refine (zq_iload_n dX12_slip_13 rfl).mpr ?_
    refine (zq_iconst (v := 0) dX12_slip_14 (by decide)).mpr ?_
    refine (zq_bipush (v := 14) dX12_slip_15 (by decide)).mpr ?_
    refine zq_staticI (n := 3) dX12_slip_17 mr_12_55 zn_163 rfl rfl (Nat.le_of_ble_eq_true rfl) (Nat.le_of_ble_eq_true rfl) ?_
    refine h.mono (fun r m7 h => ?_)
    obtain ⟨v8, rfl, h⟩ := h
    refine ⟨_, rfl, ?_⟩
    refine (zq_if_eq (t := 35) dX12_slip_20 rfl).mpr ⟨fun c => ?_, fun c => ?_⟩
    · replace h := h.1 c
      refine (zq_aload_n dX12_slip_35 rfl).mpr ?_
      refine (zq_iconst (v := 1) dX12_slip_36 (by decide)).mpr ?_
      obtain ⟨g11, h⟩ := h
      refine zq_virtualI (n := 1) dX12_slip_37 mr_12_51 zn_162 rfl rfl rfl (zrcv_R zo_162 (by decide) g11) (Nat.le_of_ble_eq_true rfl) ?_
      refine h.mono (fun r m9 h => ?_)
      obtain ⟨v10, rfl, h⟩ := h
      refine ⟨_, rfl, ?_⟩
      exact (zq_iret dX12_slip_40 rfl).mpr ⟨trivial, h⟩
    · replace h := h.2 c
      refine (zq_aload_n dX12_slip_23 rfl).mpr ?_
      obtain ⟨g12, h⟩ := h
      refine (zq_getR2 (f := 784) (v := (mR m7 784 a0)) dX12_slip_24 fl_12_38 (by decide) rfl rfl (by first | rfl | simp only [zm_Is, zm_Rs, zm_As, zm_Os, zm_In0, zm_Rn0])).mpr ⟨g12, ?_⟩
      refine (zq_iload_n dX12_slip_27 rfl).mpr ?_
      refine (zq_iload_n dX12_slip_28 rfl).mpr ?_
      obtain ⟨g15, h⟩ := h
      refine zq_virtualI (n := 2) dX12_slip_29 mr_12_294 zn_158 rfl rfl rfl (zrcv_R zo_158 (by decide) g15) (Nat.le_of_ble_eq_true rfl) ?_
      refine h.mono (fun r m13 h => ?_)
      obtain ⟨v14, rfl, h⟩ := h
      refine ⟨_, rfl, ?_⟩
      refine (zq_goto (t := 40) dX12_slip_32 rfl).mpr ?_
      exact (zq_iret dX12_slip_40 rfl).mpr ⟨trivial, h⟩
theorem bX12_bend_0 {a0 : Nat} {a1 : Int} {a2 : Int} {a3 : Int} (h : (mC m a0 = 13) ∧ zC xs xl d 196 [zR a0, zI a1] (sI m 768 a0 0) (fun r m2 => ∃ v3 : Int, r = .inl (some (zI v3)) ∧ ((v3 = 0 → (mC m2 a0 = 13) ∧ zC xs xl d 162 [zR a0, zI 1] m2 (fun r m4 => ∃ v5 : Int, r = .inl (some (zI v5)) ∧ Q (.inl (some (zI v5))) m4)) ∧ (¬ (v3 = 0) → zC xs xl d 163 [zI a2, zI 0, zI 2] m2 (fun r m7 => ∃ v8 : Int, r = .inl (some (zI v8)) ∧ ((v8 ≠ 0 → ((a3 = 0 → (mC m7 a0 = 13) ∧ (mC m7 (mR m7 784 a0) = 12) ∧ (mC m7 (mR m7 734 (mR m7 784 a0)) = 20) ∧ (0 ≤ (wr ((wr (3 * a1)) + a2)) ∧ (wr ((wr (3 * a1)) + a2)) < mN m7 (mR m7 734 (mR m7 784 a0))) ∧ Q (.inl (some (zI (mA m7 (mR m7 734 (mR m7 784 a0)) (Int.toNat (wr ((wr (3 * a1)) + a2))))))) m7) ∧ (¬ (a3 = 0) → (mC m7 a0 = 13) ∧ (mC m7 (mR m7 784 a0) = 12) ∧ (mC m7 (mR m7 735 (mR m7 784 a0)) = 20) ∧ (0 ≤ (wr ((wr (3 * a1)) + a2)) ∧ (wr ((wr (3 * a1)) + a2)) < mN m7 (mR m7 735 (mR m7 784 a0))) ∧ Q (.inl (some (zI (mA m7 (mR m7 735 (mR m7 784 a0)) (Int.toNat (wr ((wr (3 * a1)) + a2))))))) m7))) ∧ (¬ (v8 ≠ 0) → (mC m7 a0 = 13) ∧ zC xs xl d 162 [zR a0, zI 1] m7 (fun r m17 => ∃ v18 : Int, r = .inl (some (zI v18)) ∧ Q (.inl (some (zI v18))) m17)))))))) : zC xs xl (d + 1) 200 [zR a0, zI a1, zI a2, zI a3] m Q := by
  refine zk_200 ?_
  refine (zq_aload_n dX12_bend_0 rfl).mpr ?_
  refine (zq_iconst (v := 0) dX12_bend_1 (by decide)).mpr ?_
  obtain ⟨g1, h⟩ := h
  refine (zq_putI (f := 768) dX12_bend_2 fl_12_45 (by decide) rfl rfl rfl).mpr ⟨g1, ?_⟩
  refine (zq_aload_n dX12_bend_5 rfl).mpr ?_
  refine (zq_iload_n dX12_bend_6 rfl).mpr ?_
  refine zq_virtualI (n := 1) dX12_bend_7 mr_12_234 zn_196 rfl rfl rfl (zrcv_R zo_196 (by decide) g1) (Nat.le_of_ble_eq_true rfl) ?_
  refine h.mono (fun r m2 h => ?_)
  obtain ⟨v3, rfl, h⟩ := h
  refine ⟨_, rfl, ?_⟩
  refine (zq_if_eq (t := 22) dX12_bend_10 rfl).mpr ⟨fun c => ?_, fun c => ?_⟩
  · replace h := h.1 c
    refine (zq_aload_n dX12_bend_22 rfl).mpr ?_
    refine (zq_iconst (v := 1) dX12_bend_23 (by decide)).mpr ?_
    obtain ⟨g6, h⟩ := h
    refine zq_virtualI (n := 1) dX12_bend_24 mr_12_51 zn_162 rfl rfl rfl (zrcv_R zo_162 (by decide) g6) (Nat.le_of_ble_eq_true rfl) ?_
    refine h.mono (fun r m4 h => ?_)
    obtain ⟨v5, rfl, h⟩ := h
    refine ⟨_, rfl, ?_⟩
    exact (zq_iret dX12_bend_27 rfl).mpr ⟨trivial, h⟩
  · replace h := h.2 c
    refine (zq_iload_n dX12_bend_13 rfl).mpr ?_
    refine (zq_iconst (v := 0) dX12_bend_14 (by decide)).mpr ?_
    refine (zq_iconst (v := 2) dX12_bend_15 (by decide)).mpr ?_
    refine zq_staticI (n := 3) dX12_bend_16 mr_12_55 zn_163 rfl rfl (Nat.le_of_ble_eq_true rfl) (Nat.le_of_ble_eq_true rfl) ?_
    refine h.mono (fun r m7 h => ?_)
    obtain ⟨v8, rfl, h⟩ := h
    refine ⟨_, rfl, ?_⟩
    refine (zq_if_ne (t := 28) dX12_bend_19 rfl).mpr ⟨fun c => ?_, fun c => ?_⟩
    · replace h := h.1 c
      refine (zq_iload_n dX12_bend_28 rfl).mpr ?_
      refine (zq_if_eq (t := 48) dX12_bend_29 rfl).mpr ⟨fun c => ?_, fun c => ?_⟩
      · replace h := h.1 c
        refine (zq_aload_n dX12_bend_48 rfl).mpr ?_
        obtain ⟨g9, h⟩ := h
        refine (zq_getR2 (f := 784) (v := (mR m7 784 a0)) dX12_bend_49 fl_12_38 (by decide) rfl rfl (by first | rfl | simp only [zm_Is, zm_Rs, zm_As, zm_Os, zm_In0, zm_Rn0])).mpr ⟨g9, ?_⟩
        obtain ⟨g10, h⟩ := h
        refine (zq_getR2 (f := 734) (v := (mR m7 734 (mR m7 784 a0))) dX12_bend_52 fl_12_300 (by decide) rfl rfl (by first | rfl | simp only [zm_Is, zm_Rs, zm_As, zm_Os, zm_In0, zm_Rn0])).mpr ⟨g10, ?_⟩
        refine (zq_iconst (v := 3) dX12_bend_55 (by decide)).mpr ?_
        refine (zq_iload_n dX12_bend_56 rfl).mpr ?_
        refine (zq_imul dX12_bend_57).mpr ?_
        refine (zq_iload_n dX12_bend_58 rfl).mpr ?_
        refine (zq_iadd dX12_bend_59).mpr ?_
        obtain ⟨g11, h⟩ := h
        obtain ⟨g12, h⟩ := h
        refine (zq_iald2 (v := (mA m7 (mR m7 734 (mR m7 784 a0)) (Int.toNat (wr ((wr (3 * a1)) + a2))))) dX12_bend_60 (by first | rfl | simp only [zm_Is, zm_Rs, zm_As, zm_Os, zm_In0, zm_Rn0])).mpr ⟨⟨g11, g12⟩, ?_⟩
        exact (zq_iret dX12_bend_61 rfl).mpr ⟨trivial, h⟩
      · replace h := h.2 c
        refine (zq_aload_n dX12_bend_32 rfl).mpr ?_
        obtain ⟨g13, h⟩ := h
        refine (zq_getR2 (f := 784) (v := (mR m7 784 a0)) dX12_bend_33 fl_12_38 (by decide) rfl rfl (by first | rfl | simp only [zm_Is, zm_Rs, zm_As, zm_Os, zm_In0, zm_Rn0])).mpr ⟨g13, ?_⟩
        obtain ⟨g14, h⟩ := h
        refine (zq_getR2 (f := 735) (v := (mR m7 735 (mR m7 784 a0))) dX12_bend_36 fl_12_297 (by decide) rfl rfl (by first | rfl | simp only [zm_Is, zm_Rs, zm_As, zm_Os, zm_In0, zm_Rn0])).mpr ⟨g14, ?_⟩
        refine (zq_iconst (v := 3) dX12_bend_39 (by decide)).mpr ?_
        refine (zq_iload_n dX12_bend_40 rfl).mpr ?_
        refine (zq_imul dX12_bend_41).mpr ?_
        refine (zq_iload_n dX12_bend_42 rfl).mpr ?_
        refine (zq_iadd dX12_bend_43).mpr ?_
        obtain ⟨g15, h⟩ := h
        obtain ⟨g16, h⟩ := h
        refine (zq_iald2 (v := (mA m7 (mR m7 735 (mR m7 784 a0)) (Int.toNat (wr ((wr (3 * a1)) + a2))))) dX12_bend_44 (by first | rfl | simp only [zm_Is, zm_Rs, zm_As, zm_Os, zm_In0, zm_Rn0])).mpr ⟨⟨g15, g16⟩, ?_⟩
        refine (zq_goto (t := 61) dX12_bend_45 rfl).mpr ?_
        exact (zq_iret dX12_bend_61 rfl).mpr ⟨trivial, h⟩
    · replace h := h.2 c
      refine (zq_aload_n dX12_bend_22 rfl).mpr ?_
      refine (zq_iconst (v := 1) dX12_bend_23 (by decide)).mpr ?_
      obtain ⟨g19, h⟩ := h
      refine zq_virtualI (n := 1) dX12_bend_24 mr_12_51 zn_162 rfl rfl rfl (zrcv_R zo_162 (by decide) g19) (Nat.le_of_ble_eq_true rfl) ?_
      refine h.mono (fun r m17 h => ?_)
      obtain ⟨v18, rfl, h⟩ := h
      refine ⟨_, rfl, ?_⟩
      exact (zq_iret dX12_bend_27 rfl).mpr ⟨trivial, h⟩
theorem bX12_stuck_0 {a0 : Nat} (h : (mC m a0 = 13) ∧ (mC m (mR m 784 a0) = 12) ∧ zC xs xl d 145 [zR (mR m 784 a0)] (sI m 768 a0 0) (fun r m2 => ∃ v3 : Int, r = .inl (some (zI v3)) ∧ Q (.inl (some (zI v3))) m2)) : zC xs xl (d + 1) 201 [zR a0] m Q := by
  refine zk_201 ?_
  refine (zq_aload_n dX12_stuck_0 rfl).mpr ?_
  refine (zq_iconst (v := 0) dX12_stuck_1 (by decide)).mpr ?_
  obtain ⟨g1, h⟩ := h
  refine (zq_putI (f := 768) dX12_stuck_2 fl_12_45 (by decide) rfl rfl rfl).mpr ⟨g1, ?_⟩
  refine (zq_aload_n dX12_stuck_5 rfl).mpr ?_
  refine (zq_getR2 (f := 784) (v := (mR m 784 a0)) dX12_stuck_6 fl_12_38 (by decide) rfl rfl (by first | rfl | simp only [zm_Is, zm_Rs, zm_As, zm_Os, zm_In0, zm_Rn0])).mpr ⟨g1, ?_⟩
  obtain ⟨g4, h⟩ := h
  refine zq_virtualI (n := 0) dX12_stuck_9 mr_12_303 zn_145 rfl rfl rfl (zrcv_R zo_145 (by decide) g4) (Nat.le_of_ble_eq_true rfl) ?_
  refine h.mono (fun r m2 h => ?_)
  obtain ⟨v3, rfl, h⟩ := h
  refine ⟨_, rfl, ?_⟩
  exact (zq_iret dX12_stuck_12 rfl).mpr ⟨trivial, h⟩
end ZB8
