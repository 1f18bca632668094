section ZB6
variable {xs : Nat → Int} {xl d : Nat} {m : zM} {Q : zRes → zM → Prop}
theorem bX11_bend_0 {a0 : Nat} {a1 : Int} {a2 : Int} (h : zW xs xl d cX11_bend 11 (some .boolean) false [] 5 [zR a0, zI a1, zI a2, zI 1, zI 0, zU, zU] [] m Q) : zC xs xl (d + 1) 153 [zR a0, zI a1, zI a2] m Q := by
  refine zk_153 ?_
  refine (zq_iconst (v := 1) dX11_bend_0 (by decide)).mpr ?_
  refine (zq_istore_n (l := [zR a0, zI a1, zI a2, zI 1, zU, zU, zU]) dX11_bend_1 (Nat.le_of_ble_eq_true rfl) rfl).mpr ?_
  refine (zq_iconst (v := 0) dX11_bend_2 (by decide)).mpr ?_
  refine (zq_istore (l := [zR a0, zI a1, zI a2, zI 1, zI 0, zU, zU]) dX11_bend_3 (Nat.le_of_ble_eq_true rfl) rfl).mpr ?_
  exact h
theorem bX11_bend_5 {a0 : Nat} {a1 : Int} {a2 : Int} {a3 : Int} {a4 : Int} {a5 : zV} {a6 : zV} (h : ((3 ≤ a4 → (mC m a0 = 12) ∧ (mC m (mR m 732 a0) = 20) ∧ (0 ≤ a1 ∧ a1 < mN m (mR m 732 a0)) ∧ (mC m (mR m 731 a0) = 20) ∧ (0 ≤ a1 ∧ a1 < mN m (mR m 731 a0)) ∧ (mC m (mR m 730 a0) = 20) ∧ (0 ≤ a1 ∧ a1 < mN m (mR m 730 a0)) ∧ (zXk 4 = 1 ∧ 0 ≤ (mA m (mR m 730 a0) (Int.toNat a1)) ∧ (mA m (mR m 730 a0) (Int.toNat a1)) < zXN xl 4) ∧ ((wr (100 * (zXI xs 4 ((mA m (mR m 730 a0) (Int.toNat a1))).toNat))) ≠ 0) ∧ (((wr (Int.tdiv (wr ((mA m (mR m 732 a0) (Int.toNat a1)) * (wr ((mA m (mR m 731 a0) (Int.toNat a1)) + 20)))) (wr (100 * (zXI xs 4 ((mA m (mR m 730 a0) (Int.toNat a1))).toNat))))) ≠ 0 → zW xs xl d cX11_bend 11 (some .boolean) false [] 148 [zR a0, zI a1, zI a2, zI 1, zI (wr (Int.tdiv (wr ((mA m (mR m 732 a0) (Int.toNat a1)) * (wr ((mA m (mR m 731 a0) (Int.toNat a1)) + 20)))) (wr (100 * (zXI xs 4 ((mA m (mR m 730 a0) (Int.toNat a1))).toNat))))), zI (wr (3 * a1)), a6] [] m Q) ∧ (¬ ((wr (Int.tdiv (wr ((mA m (mR m 732 a0) (Int.toNat a1)) * (wr ((mA m (mR m 731 a0) (Int.toNat a1)) + 20)))) (wr (100 * (zXI xs 4 ((mA m (mR m 730 a0) (Int.toNat a1))).toNat))))) ≠ 0) → ((a3 ≠ 0 → zW xs xl d cX11_bend 11 (some .boolean) false [] 148 [zR a0, zI a1, zI a2, zI 1, zI (wr (Int.tdiv (wr ((mA m (mR m 732 a0) (Int.toNat a1)) * (wr ((mA m (mR m 731 a0) (Int.toNat a1)) + 20)))) (wr (100 * (zXI xs 4 ((mA m (mR m 730 a0) (Int.toNat a1))).toNat))))), zI (wr (3 * a1)), a6] [] m Q) ∧ (¬ (a3 ≠ 0) → (mC m (mR m 733 a0) = 20) ∧ (0 ≤ a1 ∧ a1 < mN m (mR m 733 a0)) ∧ (((wr ((mA m (mR m 733 a0) (Int.toNat a1)) + 1)) ≠ 3 → zW xs xl d cX11_bend 11 (some .boolean) false [] 148 [zR a0, zI a1, zI a2, zI 1, zI (wr (Int.tdiv (wr ((mA m (mR m 732 a0) (Int.toNat a1)) * (wr ((mA m (mR m 731 a0) (Int.toNat a1)) + 20)))) (wr (100 * (zXI xs 4 ((mA m (mR m 730 a0) (Int.toNat a1))).toNat))))), zI (wr (3 * a1)), a6] [] (sA m (mR m 733 a0) (Int.toNat a1) (wr ((mA m (mR m 733 a0) (Int.toNat a1)) + 1))) Q) ∧ (¬ ((wr ((mA m (mR m 733 a0) (Int.toNat a1)) + 1)) ≠ 3) → zC xs xl d 156 [zR a0, zI a1] (sA m (mR m 733 a0) (Int.toNat a1) (wr ((mA m (mR m 733 a0) (Int.toNat a1)) + 1))) (fun r m12 => ∃ v13 : Int, r = .inl (some (zI v13)) ∧ (v13 = 0 ∨ v13 = 1) ∧ Q (.inl (some (zI v13))) m12)))))))) ∧ (¬ (3 ≤ a4) → (mC m a0 = 12) ∧ (mC m (mR m 717 a0) = 20) ∧ (0 ≤ (wr ((wr (a2 + 1)) + a4)) ∧ (wr ((wr (a2 + 1)) + a4)) < mN m (mR m 717 a0)) ∧ (0 ≤ (wr ((wr (3 * a1)) + a4)) ∧ (wr ((wr (3 * a1)) + a4)) < mN m (mR m 735 a0)) ∧ (mC m (mR m 735 a0) = 20) ∧ ((a3 = 0 → zW xs xl d cX11_bend 11 (some .boolean) false [] 5 [zR a0, zI a1, zI a2, zI 0, zI (wr (a4 + 1)), a5, a6] [] (sA m (mR m 735 a0) (Int.toNat (wr ((wr (3 * a1)) + a4))) (mA m (mR m 717 a0) (Int.toNat (wr ((wr (a2 + 1)) + a4))))) Q) ∧ (¬ (a3 = 0) → (mC m (mR m 734 a0) = 20) ∧ (0 ≤ (wr ((wr (3 * a1)) + a4)) ∧ (wr ((wr (3 * a1)) + a4)) < mN m (mR m 734 a0)) ∧ (((mA (sA m (mR m 735 a0) (Int.toNat (wr ((wr (3 * a1)) + a4))) (mA m (mR m 717 a0) (Int.toNat (wr ((wr (a2 + 1)) + a4))))) (mR m 734 a0) (Int.toNat (wr ((wr (3 * a1)) + a4)))) ≠ (mA m (mR m 717 a0) (Int.toNat (wr ((wr (a2 + 1)) + a4)))) → zW xs xl d cX11_bend 11 (some .boolean) false [] 5 [zR a0, zI a1, zI a2, zI 0, zI (wr (a4 + 1)), a5, a6] [] (sA m (mR m 735 a0) (Int.toNat (wr ((wr (3 * a1)) + a4))) (mA m (mR m 717 a0) (Int.toNat (wr ((wr (a2 + 1)) + a4))))) Q) ∧ (¬ ((mA (sA m (mR m 735 a0) (Int.toNat (wr ((wr (3 * a1)) + a4))) (mA m (mR m 717 a0) (Int.toNat (wr ((wr (a2 + 1)) + a4))))) (mR m 734 a0) (Int.toNat (wr ((wr (3 * a1)) + a4)))) ≠ (mA m (mR m 717 a0) (Int.toNat (wr ((wr (a2 + 1)) + a4))))) → zW xs xl d cX11_bend 11 (some .boolean) false [] 5 [zR a0, zI a1, zI a2, zI 1, zI (wr (a4 + 1)), a5, a6] [] (sA m (mR m 735 a0) (Int.toNat (wr ((wr (3 * a1)) + a4))) (mA m (mR m 717 a0) (Int.toNat (wr ((wr (a2 + 1)) + a4))))) Q))))))) : zW xs xl d cX11_bend 11 (some .boolean) false [] 5 [zR a0, zI a1, zI a2, zI a3, zI a4, a5, a6] [] m Q := by
  refine (zq_iload dX11_bend_5 rfl).mpr ?_
  refine (zq_iconst (v := 3) dX11_bend_7 (by decide)).mpr ?_
  refine (zq_icmp_ge (t := 74) dX11_bend_8 rfl).mpr ⟨fun c => ?_, fun c => ?_⟩
  · replace h := h.1 c
    refine (zq_aload_n dX11_bend_74 rfl).mpr ?_
    obtain ⟨g1, h⟩ := h
    refine (zq_getR2 (f := 732) (v := (mR m 732 a0)) dX11_bend_75 fl_11_88 (by decide) rfl rfl (by first | rfl | simp only [zm_Is, zm_Rs, zm_As, zm_Os, zm_In0, zm_Rn0])).mpr ⟨g1, ?_⟩
    refine (zq_iload_n dX11_bend_78 rfl).mpr ?_
    obtain ⟨g2, h⟩ := h
    obtain ⟨g3, h⟩ := h
    refine (zq_iald2 (v := (mA m (mR m 732 a0) (Int.toNat a1))) dX11_bend_79 (by first | rfl | simp only [zm_Is, zm_Rs, zm_As, zm_Os, zm_In0, zm_Rn0])).mpr ⟨⟨g2, g3⟩, ?_⟩
    refine (zq_aload_n dX11_bend_80 rfl).mpr ?_
    refine (zq_getR2 (f := 731) (v := (mR m 731 a0)) dX11_bend_81 fl_11_85 (by decide) rfl rfl (by first | rfl | simp only [zm_Is, zm_Rs, zm_As, zm_Os, zm_In0, zm_Rn0])).mpr ⟨g1, ?_⟩
    refine (zq_iload_n dX11_bend_84 rfl).mpr ?_
    obtain ⟨g4, h⟩ := h
    obtain ⟨g5, h⟩ := h
    refine (zq_iald2 (v := (mA m (mR m 731 a0) (Int.toNat a1))) dX11_bend_85 (by first | rfl | simp only [zm_Is, zm_Rs, zm_As, zm_Os, zm_In0, zm_Rn0])).mpr ⟨⟨g4, g5⟩, ?_⟩
    refine (zq_bipush (v := 20) dX11_bend_86 (by decide)).mpr ?_
    refine (zq_iadd dX11_bend_88).mpr ?_
    refine (zq_imul dX11_bend_89).mpr ?_
    refine (zq_bipush (v := 100) dX11_bend_90 (by decide)).mpr ?_
    refine (zq_gets dX11_bend_92 sl_11_218).mpr ?_
    refine (zq_aload_n dX11_bend_95 rfl).mpr ?_
    refine (zq_getR2 (f := 730) (v := (mR m 730 a0)) dX11_bend_96 fl_11_82 (by decide) rfl rfl (by first | rfl | simp only [zm_Is, zm_Rs, zm_As, zm_Os, zm_In0, zm_Rn0])).mpr ⟨g1, ?_⟩
    refine (zq_iload_n dX11_bend_99 rfl).mpr ?_
    obtain ⟨g6, h⟩ := h
    obtain ⟨g7, h⟩ := h
    refine (zq_iald2 (v := (mA m (mR m 730 a0) (Int.toNat a1))) dX11_bend_100 (by first | rfl | simp only [zm_Is, zm_Rs, zm_As, zm_Os, zm_In0, zm_Rn0])).mpr ⟨⟨g6, g7⟩, ?_⟩
    obtain ⟨g8, h⟩ := h
    refine (zq_ialdE dX11_bend_101).mpr ⟨g8, ?_⟩
    refine (zq_imul dX11_bend_102).mpr ?_
    obtain ⟨g9, h⟩ := h
    refine (zq_idiv dX11_bend_103).mpr ⟨g9, ?_⟩
    refine (zq_istore (l := [zR a0, zI a1, zI a2, zI a3, zI (wr (Int.tdiv (wr ((mA m (mR m 732 a0) (Int.toNat a1)) * (wr ((mA m (mR m 731 a0) (Int.toNat a1)) + 20)))) (wr (100 * (zXI xs 4 ((mA m (mR m 730 a0) (Int.toNat a1))).toNat))))), a5, a6]) dX11_bend_104 (Nat.le_of_ble_eq_true rfl) rfl).mpr ?_
    refine (zq_iload dX11_bend_106 rfl).mpr ?_
    refine (zq_if_ne (t := 141) dX11_bend_108 rfl).mpr ⟨fun c => ?_, fun c => ?_⟩
    · replace h := h.1 c
      refine (zq_iconst (v := 1) dX11_bend_141 (by decide)).mpr ?_
      refine (zq_istore_n (l := [zR a0, zI a1, zI a2, zI 1, zI (wr (Int.tdiv (wr ((mA m (mR m 732 a0) (Int.toNat a1)) * (wr ((mA m (mR m 731 a0) (Int.toNat a1)) + 20)))) (wr (100 * (zXI xs 4 ((mA m (mR m 730 a0) (Int.toNat a1))).toNat))))), a5, a6]) dX11_bend_142 (Nat.le_of_ble_eq_true rfl) rfl).mpr ?_
      refine (zq_iconst (v := 3) dX11_bend_143 (by decide)).mpr ?_
      refine (zq_iload_n dX11_bend_144 rfl).mpr ?_
      refine (zq_imul dX11_bend_145).mpr ?_
      refine (zq_istore (l := [zR a0, zI a1, zI a2, zI 1, zI (wr (Int.tdiv (wr ((mA m (mR m 732 a0) (Int.toNat a1)) * (wr ((mA m (mR m 731 a0) (Int.toNat a1)) + 20)))) (wr (100 * (zXI xs 4 ((mA m (mR m 730 a0) (Int.toNat a1))).toNat))))), zI (wr (3 * a1)), a6]) dX11_bend_146 (Nat.le_of_ble_eq_true rfl) rfl).mpr ?_
      exact h
    · replace h := h.2 c
      refine (zq_iload_n dX11_bend_111 rfl).mpr ?_
      refine (zq_if_ne (t := 141) dX11_bend_112 rfl).mpr ⟨fun c => ?_, fun c => ?_⟩
      · replace h := h.1 c
        refine (zq_iconst (v := 1) dX11_bend_141 (by decide)).mpr ?_
        refine (zq_istore_n (l := [zR a0, zI a1, zI a2, zI 1, zI (wr (Int.tdiv (wr ((mA m (mR m 732 a0) (Int.toNat a1)) * (wr ((mA m (mR m 731 a0) (Int.toNat a1)) + 20)))) (wr (100 * (zXI xs 4 ((mA m (mR m 730 a0) (Int.toNat a1))).toNat))))), a5, a6]) dX11_bend_142 (Nat.le_of_ble_eq_true rfl) rfl).mpr ?_
        refine (zq_iconst (v := 3) dX11_bend_143 (by decide)).mpr ?_
        refine (zq_iload_n dX11_bend_144 rfl).mpr ?_
        refine (zq_imul dX11_bend_145).mpr ?_
        refine (zq_istore (l := [zR a0, zI a1, zI a2, zI 1, zI (wr (Int.tdiv (wr ((mA m (mR m 732 a0) (Int.toNat a1)) * (wr ((mA m (mR m 731 a0) (Int.toNat a1)) + 20)))) (wr (100 * (zXI xs 4 ((mA m (mR m 730 a0) (Int.toNat a1))).toNat))))), zI (wr (3 * a1)), a6]) dX11_bend_146 (Nat.le_of_ble_eq_true rfl) rfl).mpr ?_
        exact h
      · replace h := h.2 c
        refine (zq_aload_n dX11_bend_115 rfl).mpr ?_
        refine (zq_getR2 (f := 733) (v := (mR m 733 a0)) dX11_bend_116 fl_11_91 (by decide) rfl rfl (by first | rfl | simp only [zm_Is, zm_Rs, zm_As, zm_Os, zm_In0, zm_Rn0])).mpr ⟨g1, ?_⟩
        refine (zq_iload_n dX11_bend_119 rfl).mpr ?_
        refine (zq_dup2IR dX11_bend_120).mpr ?_
        obtain ⟨g10, h⟩ := h
        obtain ⟨g11, h⟩ := h
        refine (zq_iald2 (v := (mA m (mR m 733 a0) (Int.toNat a1))) dX11_bend_121 (by first | rfl | simp only [zm_Is, zm_Rs, zm_As, zm_Os, zm_In0, zm_Rn0])).mpr ⟨⟨g10, g11⟩, ?_⟩
        refine (zq_iconst (v := 1) dX11_bend_122 (by decide)).mpr ?_
        refine (zq_iadd dX11_bend_123).mpr ?_
        refine (zq_iast dX11_bend_124).mpr ⟨⟨g10, g11⟩, ?_⟩
        refine (zq_aload_n dX11_bend_125 rfl).mpr ?_
        refine (zq_getR2 (f := 733) (v := (mR m 733 a0)) dX11_bend_126 fl_11_91 (by decide) rfl rfl (by first | rfl | simp only [zm_Is, zm_Rs, zm_As, zm_Os, zm_In0, zm_Rn0])).mpr ⟨g1, ?_⟩
        refine (zq_iload_n dX11_bend_129 rfl).mpr ?_
        refine (zq_iald2 (v := (wr ((mA m (mR m 733 a0) (Int.toNat a1)) + 1))) dX11_bend_130 (by first | rfl | simp only [zm_Is, zm_Rs, zm_As, zm_Os, zm_In0, zm_Rn0])).mpr ⟨⟨g10, g11⟩, ?_⟩
        refine (zq_iconst (v := 3) dX11_bend_131 (by decide)).mpr ?_
        refine (zq_icmp_ne (t := 141) dX11_bend_132 rfl).mpr ⟨fun c => ?_, fun c => ?_⟩
        · replace h := h.1 c
          refine (zq_iconst (v := 1) dX11_bend_141 (by decide)).mpr ?_
          refine (zq_istore_n (l := [zR a0, zI a1, zI a2, zI 1, zI (wr (Int.tdiv (wr ((mA m (mR m 732 a0) (Int.toNat a1)) * (wr ((mA m (mR m 731 a0) (Int.toNat a1)) + 20)))) (wr (100 * (zXI xs 4 ((mA m (mR m 730 a0) (Int.toNat a1))).toNat))))), a5, a6]) dX11_bend_142 (Nat.le_of_ble_eq_true rfl) rfl).mpr ?_
          refine (zq_iconst (v := 3) dX11_bend_143 (by decide)).mpr ?_
          refine (zq_iload_n dX11_bend_144 rfl).mpr ?_
          refine (zq_imul dX11_bend_145).mpr ?_
          refine (zq_istore (l := [zR a0, zI a1, zI a2, zI 1, zI (wr (Int.tdiv (wr ((mA m (mR m 732 a0) (Int.toNat a1)) * (wr ((mA m (mR m 731 a0) (Int.toNat a1)) + 20)))) (wr (100 * (zXI xs 4 ((mA m (mR m 730 a0) (Int.toNat a1))).toNat))))), zI (wr (3 * a1)), a6]) dX11_bend_146 (Nat.le_of_ble_eq_true rfl) rfl).mpr ?_
          exact h
        · replace h := h.2 c
          refine (zq_aload_n dX11_bend_135 rfl).mpr ?_
          refine (zq_iload_n dX11_bend_136 rfl).mpr ?_
          refine zq_virtualI (n := 1) dX11_bend_137 mr_11_215 zn_156 rfl rfl rfl (zrcv_R zo_156 (by decide) g1) (Nat.le_of_ble_eq_true rfl) ?_
          refine h.mono (fun r m12 h => ?_)
          obtain ⟨v13, rfl, h⟩ := h
          refine ⟨_, rfl, ?_⟩
          obtain ⟨g14, h⟩ := h
          exact (zq_iret dX11_bend_140 rfl).mpr ⟨g14, h⟩
  · replace h := h.2 c
    refine (zq_aload_n dX11_bend_11 rfl).mpr ?_
    obtain ⟨g15, h⟩ := h
    refine (zq_getR2 (f := 735) (v := (mR m 735 a0)) dX11_bend_12 fl_11_97 (by decide) rfl rfl (by first | rfl | simp only [zm_Is, zm_Rs, zm_As, zm_Os, zm_In0, zm_Rn0])).mpr ⟨g15, ?_⟩
    refine (zq_iconst (v := 3) dX11_bend_15 (by decide)).mpr ?_
    refine (zq_iload_n dX11_bend_16 rfl).mpr ?_
    refine (zq_imul dX11_bend_17).mpr ?_
    refine (zq_iload dX11_bend_18 rfl).mpr ?_
    refine (zq_iadd dX11_bend_20).mpr ?_
    refine (zq_aload_n dX11_bend_21 rfl).mpr ?_
    refine (zq_getR2 (f := 717) (v := (mR m 717 a0)) dX11_bend_22 fl_11_43 (by decide) rfl rfl (by first | rfl | simp only [zm_Is, zm_Rs, zm_As, zm_Os, zm_In0, zm_Rn0])).mpr ⟨g15, ?_⟩
    refine (zq_iload_n dX11_bend_25 rfl).mpr ?_
    refine (zq_iconst (v := 1) dX11_bend_26 (by decide)).mpr ?_
    refine (zq_iadd dX11_bend_27).mpr ?_
    refine (zq_iload dX11_bend_28 rfl).mpr ?_
    refine (zq_iadd dX11_bend_30).mpr ?_
    obtain ⟨g16, h⟩ := h
    obtain ⟨g17, h⟩ := h
    refine (zq_iald2 (v := (mA m (mR m 717 a0) (Int.toNat (wr ((wr (a2 + 1)) + a4))))) dX11_bend_31 (by first | rfl | simp only [zm_Is, zm_Rs, zm_As, zm_Os, zm_In0, zm_Rn0])).mpr ⟨⟨g16, g17⟩, ?_⟩
    obtain ⟨g18, h⟩ := h
    obtain ⟨g19, h⟩ := h
    refine (zq_iast dX11_bend_32).mpr ⟨⟨g19, g18⟩, ?_⟩
    refine (zq_iload_n dX11_bend_33 rfl).mpr ?_
    refine (zq_if_eq (t := 66) dX11_bend_34 rfl).mpr ⟨fun c => ?_, fun c => ?_⟩
    · replace h := h.1 c
      refine (zq_iconst (v := 0) dX11_bend_66 (by decide)).mpr ?_
      refine (zq_istore_n (l := [zR a0, zI a1, zI a2, zI 0, zI a4, a5, a6]) dX11_bend_67 (Nat.le_of_ble_eq_true rfl) rfl).mpr ?_
      refine (zq_iinc (l := [zR a0, zI a1, zI a2, zI 0, zI (wr (a4 + 1)), a5, a6]) dX11_bend_68 rfl rfl).mpr ?_
      refine (zq_goto (t := 5) dX11_bend_71 rfl).mpr ?_
      exact h
    · replace h := h.2 c
      refine (zq_aload_n dX11_bend_37 rfl).mpr ?_
      refine (zq_getR2 (f := 734) (v := (mR m 734 a0)) dX11_bend_38 fl_11_94 (by decide) rfl rfl (by first | rfl | simp only [zm_Is, zm_Rs, zm_As, zm_Os, zm_In0, zm_Rn0])).mpr ⟨g15, ?_⟩
      refine (zq_iconst (v := 3) dX11_bend_41 (by decide)).mpr ?_
      refine (zq_iload_n dX11_bend_42 rfl).mpr ?_
      refine (zq_imul dX11_bend_43).mpr ?_
      refine (zq_iload dX11_bend_44 rfl).mpr ?_
      refine (zq_iadd dX11_bend_46).mpr ?_
      obtain ⟨g20, h⟩ := h
      obtain ⟨g21, h⟩ := h
      refine (zq_iald2 (v := (mA (sA m (mR m 735 a0) (Int.toNat (wr ((wr (3 * a1)) + a4))) (mA m (mR m 717 a0) (Int.toNat (wr ((wr (a2 + 1)) + a4))))) (mR m 734 a0) (Int.toNat (wr ((wr (3 * a1)) + a4))))) dX11_bend_47 (by first | rfl | simp only [zm_Is, zm_Rs, zm_As, zm_Os, zm_In0, zm_Rn0])).mpr ⟨⟨g20, g21⟩, ?_⟩
      refine (zq_aload_n dX11_bend_48 rfl).mpr ?_
      refine (zq_getR2 (f := 735) (v := (mR m 735 a0)) dX11_bend_49 fl_11_97 (by decide) rfl rfl (by first | rfl | simp only [zm_Is, zm_Rs, zm_As, zm_Os, zm_In0, zm_Rn0])).mpr ⟨g15, ?_⟩
      refine (zq_iconst (v := 3) dX11_bend_52 (by decide)).mpr ?_
      refine (zq_iload_n dX11_bend_53 rfl).mpr ?_
      refine (zq_imul dX11_bend_54).mpr ?_
      refine (zq_iload dX11_bend_55 rfl).mpr ?_
      refine (zq_iadd dX11_bend_57).mpr ?_
      refine (zq_iald2 (v := (mA m (mR m 717 a0) (Int.toNat (wr ((wr (a2 + 1)) + a4))))) dX11_bend_58 (by first | rfl | simp only [zm_Is, zm_Rs, zm_As, zm_Os, zm_In0, zm_Rn0])).mpr ⟨⟨g19, g18⟩, ?_⟩
      refine (zq_icmp_ne (t := 66) dX11_bend_59 rfl).mpr ⟨fun c => ?_, fun c => ?_⟩
      · replace h := h.1 c
        refine (zq_iconst (v := 0) dX11_bend_66 (by decide)).mpr ?_
        refine (zq_istore_n (l := [zR a0, zI a1, zI a2, zI 0, zI a4, a5, a6]) dX11_bend_67 (Nat.le_of_ble_eq_true rfl) rfl).mpr ?_
        refine (zq_iinc (l := [zR a0, zI a1, zI a2, zI 0, zI (wr (a4 + 1)), a5, a6]) dX11_bend_68 rfl rfl).mpr ?_
        refine (zq_goto (t := 5) dX11_bend_71 rfl).mpr ?_
        exact h
      · replace h := h.2 c
        refine (zq_iconst (v := 1) dX11_bend_62 (by decide)).mpr ?_
        refine (zq_goto (t := 67) dX11_bend_63 rfl).mpr ?_
        refine (zq_istore_n (l := [zR a0, zI a1, zI a2, zI 1, zI a4, a5, a6]) dX11_bend_67 (Nat.le_of_ble_eq_true rfl) rfl).mpr ?_
        refine (zq_iinc (l := [zR a0, zI a1, zI a2, zI 1, zI (wr (a4 + 1)), a5, a6]) dX11_bend_68 rfl rfl).mpr ?_
        refine (zq_goto (t := 5) dX11_bend_71 rfl).mpr ?_
        exact h
theorem bX11_bend_148 {a0 : Nat} {a1 : Int} {a2 : Int} {a3 : Int} {a4 : Int} {a5 : Int} {a6 : zV} (h : (((wr ((wr (3 * a1)) + 3)) ≤ a5 → (mC m a0 = 12) ∧ zC xs xl d 150 [zR a0, zI a1, zI (-10)] m (fun r m1 => r = .inl none ∧ (mC m1 a0 = 12) ∧ zC xs xl d 151 [zR a0, zI a1, zI (-1)] m1 (fun r m4 => r = .inl none ∧ (a3 = 0 ∨ a3 = 1) ∧ Q (.inl (some (zI a3))) m4))) ∧ (¬ ((wr ((wr (3 * a1)) + 3)) ≤ a5) → (mC m a0 = 12) ∧ (mC m (mR m 735 a0) = 20) ∧ (0 ≤ a5 ∧ a5 < mN m (mR m 735 a0)) ∧ (mC m (mR m 734 a0) = 20) ∧ (0 ≤ a5 ∧ a5 < mN m (mR m 734 a0)) ∧ zC xs xl d 220 [zI (wr ((mA m (mR m 735 a0) (Int.toNat a5)) - (mA m (mR m 734 a0) (Int.toNat a5))))] m (fun r m13 => ∃ v14 : Int, r = .inl (some (zI v14)) ∧ (0 ≤ a5 ∧ a5 < mN m13 (mR m 734 a0)) ∧ (mC m13 (mR m 734 a0) = 20) ∧ ((a3 = 0 → zW xs xl d cX11_bend 11 (some .boolean) false [] 148 [zR a0, zI a1, zI a2, zI 0, zI a4, zI (wr (a5 + 1)), zI (wr ((mA m (mR m 735 a0) (Int.toNat a5)) - (mA m (mR m 734 a0) (Int.toNat a5))))] [] (sA m13 (mR m 734 a0) (Int.toNat a5) (wr ((mA m (mR m 734 a0) (Int.toNat a5)) + (wr (v14 * (if (if 0 ≤ (wr ((mA m (mR m 735 a0) (Int.toNat a5)) - (mA m (mR m 734 a0) (Int.toNat a5)))) then (wr ((mA m (mR m 735 a0) (Int.toNat a5)) - (mA m (mR m 734 a0) (Int.toNat a5)))) else wr (0 - (wr ((mA m (mR m 735 a0) (Int.toNat a5)) - (mA m (mR m 734 a0) (Int.toNat a5)))))) < a4 then (if 0 ≤ (wr ((mA m (mR m 735 a0) (Int.toNat a5)) - (mA m (mR m 734 a0) (Int.toNat a5)))) then (wr ((mA m (mR m 735 a0) (Int.toNat a5)) - (mA m (mR m 734 a0) (Int.toNat a5)))) else wr (0 - (wr ((mA m (mR m 735 a0) (Int.toNat a5)) - (mA m (mR m 734 a0) (Int.toNat a5)))))) else a4)))))) Q) ∧ (¬ (a3 = 0) → (mC m13 a0 = 12) ∧ (mC m13 (mR m13 734 a0) = 20) ∧ (0 ≤ a5 ∧ a5 < mN m13 (mR m13 734 a0)) ∧ (mC m13 (mR m13 735 a0) = 20) ∧ (0 ≤ a5 ∧ a5 < mN m13 (mR m13 735 a0)) ∧ (((mA (sA m13 (mR m 734 a0) (Int.toNat a5) (wr ((mA m (mR m 734 a0) (Int.toNat a5)) + (wr (v14 * (if (if 0 ≤ (wr ((mA m (mR m 735 a0) (Int.toNat a5)) - (mA m (mR m 734 a0) (Int.toNat a5)))) then (wr ((mA m (mR m 735 a0) (Int.toNat a5)) - (mA m (mR m 734 a0) (Int.toNat a5)))) else wr (0 - (wr ((mA m (mR m 735 a0) (Int.toNat a5)) - (mA m (mR m 734 a0) (Int.toNat a5)))))) < a4 then (if 0 ≤ (wr ((mA m (mR m 735 a0) (Int.toNat a5)) - (mA m (mR m 734 a0) (Int.toNat a5)))) then (wr ((mA m (mR m 735 a0) (Int.toNat a5)) - (mA m (mR m 734 a0) (Int.toNat a5)))) else wr (0 - (wr ((mA m (mR m 735 a0) (Int.toNat a5)) - (mA m (mR m 734 a0) (Int.toNat a5)))))) else a4)))))) (mR m13 734 a0) (Int.toNat a5)) ≠ (mA (sA m13 (mR m 734 a0) (Int.toNat a5) (wr ((mA m (mR m 734 a0) (Int.toNat a5)) + (wr (v14 * (if (if 0 ≤ (wr ((mA m (mR m 735 a0) (Int.toNat a5)) - (mA m (mR m 734 a0) (Int.toNat a5)))) then (wr ((mA m (mR m 735 a0) (Int.toNat a5)) - (mA m (mR m 734 a0) (Int.toNat a5)))) else wr (0 - (wr ((mA m (mR m 735 a0) (Int.toNat a5)) - (mA m (mR m 734 a0) (Int.toNat a5)))))) < a4 then (if 0 ≤ (wr ((mA m (mR m 735 a0) (Int.toNat a5)) - (mA m (mR m 734 a0) (Int.toNat a5)))) then (wr ((mA m (mR m 735 a0) (Int.toNat a5)) - (mA m (mR m 734 a0) (Int.toNat a5)))) else wr (0 - (wr ((mA m (mR m 735 a0) (Int.toNat a5)) - (mA m (mR m 734 a0) (Int.toNat a5)))))) else a4)))))) (mR m13 735 a0) (Int.toNat a5)) → zW xs xl d cX11_bend 11 (some .boolean) false [] 148 [zR a0, zI a1, zI a2, zI 0, zI a4, zI (wr (a5 + 1)), zI (wr ((mA m (mR m 735 a0) (Int.toNat a5)) - (mA m (mR m 734 a0) (Int.toNat a5))))] [] (sA m13 (mR m 734 a0) (Int.toNat a5) (wr ((mA m (mR m 734 a0) (Int.toNat a5)) + (wr (v14 * (if (if 0 ≤ (wr ((mA m (mR m 735 a0) (Int.toNat a5)) - (mA m (mR m 734 a0) (Int.toNat a5)))) then (wr ((mA m (mR m 735 a0) (Int.toNat a5)) - (mA m (mR m 734 a0) (Int.toNat a5)))) else wr (0 - (wr ((mA m (mR m 735 a0) (Int.toNat a5)) - (mA m (mR m 734 a0) (Int.toNat a5)))))) < a4 then (if 0 ≤ (wr ((mA m (mR m 735 a0) (Int.toNat a5)) - (mA m (mR m 734 a0) (Int.toNat a5)))) then (wr ((mA m (mR m 735 a0) (Int.toNat a5)) - (mA m (mR m 734 a0) (Int.toNat a5)))) else wr (0 - (wr ((mA m (mR m 735 a0) (Int.toNat a5)) - (mA m (mR m 734 a0) (Int.toNat a5)))))) else a4)))))) Q) ∧ (¬ ((mA (sA m13 (mR m 734 a0) (Int.toNat a5) (wr ((mA m (mR m 734 a0) (Int.toNat a5)) + (wr (v14 * (if (if 0 ≤ (wr ((mA m (mR m 735 a0) (Int.toNat a5)) - (mA m (mR m 734 a0) (Int.toNat a5)))) then (wr ((mA m (mR m 735 a0) (Int.toNat a5)) - (mA m (mR m 734 a0) (Int.toNat a5)))) else wr (0 - (wr ((mA m (mR m 735 a0) (Int.toNat a5)) - (mA m (mR m 734 a0) (Int.toNat a5)))))) < a4 then (if 0 ≤ (wr ((mA m (mR m 735 a0) (Int.toNat a5)) - (mA m (mR m 734 a0) (Int.toNat a5)))) then (wr ((mA m (mR m 735 a0) (Int.toNat a5)) - (mA m (mR m 734 a0) (Int.toNat a5)))) else wr (0 - (wr ((mA m (mR m 735 a0) (Int.toNat a5)) - (mA m (mR m 734 a0) (Int.toNat a5)))))) else a4)))))) (mR m13 734 a0) (Int.toNat a5)) ≠ (mA (sA m13 (mR m 734 a0) (Int.toNat a5) (wr ((mA m (mR m 734 a0) (Int.toNat a5)) + (wr (v14 * (if (if 0 ≤ (wr ((mA m (mR m 735 a0) (Int.toNat a5)) - (mA m (mR m 734 a0) (Int.toNat a5)))) then (wr ((mA m (mR m 735 a0) (Int.toNat a5)) - (mA m (mR m 734 a0) (Int.toNat a5)))) else wr (0 - (wr ((mA m (mR m 735 a0) (Int.toNat a5)) - (mA m (mR m 734 a0) (Int.toNat a5)))))) < a4 then (if 0 ≤ (wr ((mA m (mR m 735 a0) (Int.toNat a5)) - (mA m (mR m 734 a0) (Int.toNat a5)))) then (wr ((mA m (mR m 735 a0) (Int.toNat a5)) - (mA m (mR m 734 a0) (Int.toNat a5)))) else wr (0 - (wr ((mA m (mR m 735 a0) (Int.toNat a5)) - (mA m (mR m 734 a0) (Int.toNat a5)))))) else a4)))))) (mR m13 735 a0) (Int.toNat a5))) → zW xs xl d cX11_bend 11 (some .boolean) false [] 148 [zR a0, zI a1, zI a2, zI 1, zI a4, zI (wr (a5 + 1)), zI (wr ((mA m (mR m 735 a0) (Int.toNat a5)) - (mA m (mR m 734 a0) (Int.toNat a5))))] [] (sA m13 (mR m 734 a0) (Int.toNat a5) (wr ((mA m (mR m 734 a0) (Int.toNat a5)) + (wr (v14 * (if (if 0 ≤ (wr ((mA m (mR m 735 a0) (Int.toNat a5)) - (mA m (mR m 734 a0) (Int.toNat a5)))) then (wr ((mA m (mR m 735 a0) (Int.toNat a5)) - (mA m (mR m 734 a0) (Int.toNat a5)))) else wr (0 - (wr ((mA m (mR m 735 a0) (Int.toNat a5)) - (mA m (mR m 734 a0) (Int.toNat a5)))))) < a4 then (if 0 ≤ (wr ((mA m (mR m 735 a0) (Int.toNat a5)) - (mA m (mR m 734 a0) (Int.toNat a5)))) then (wr ((mA m (mR m 735 a0) (Int.toNat a5)) - (mA m (mR m 734 a0) (Int.toNat a5)))) else wr (0 - (wr ((mA m (mR m 735 a0) (Int.toNat a5)) - (mA m (mR m 734 a0) (Int.toNat a5)))))) else a4)))))) Q)))))))) : zW xs xl d cX11_bend 11 (some .boolean) false [] 148 [zR a0, zI a1, zI a2, zI a3, zI a4, zI a5, a6] [] m Q := by
  refine (zq_iload dX11_bend_148 rfl).mpr ?_
  refine (zq_iconst (v := 3) dX11_bend_150 (by decide)).mpr ?_
  refine (zq_iload_n dX11_bend_151 rfl).mpr ?_
  refine (zq_imul dX11_bend_152).mpr ?_
  refine (zq_iconst (v := 3) dX11_bend_153 (by decide)).mpr ?_
  refine (zq_iadd dX11_bend_154).mpr ?_
  refine (zq_icmp_ge (t := 234) dX11_bend_155 rfl).mpr ⟨fun c => ?_, fun c => ?_⟩
  · replace h := h.1 c
    refine (zq_aload_n dX11_bend_234 rfl).mpr ?_
    refine (zq_iload_n dX11_bend_235 rfl).mpr ?_
    refine (zq_bipush (v := (-10)) dX11_bend_236 (by decide)).mpr ?_
    obtain ⟨g3, h⟩ := h
    refine zq_virtualV (n := 2) dX11_bend_238 mr_11_209 zn_150 rfl rfl rfl (zrcv_R zo_150 (by decide) g3) (Nat.le_of_ble_eq_true rfl) ?_
    refine h.mono (fun r m1 h => ?_)
    obtain ⟨rfl, h⟩ := h
    refine ⟨rfl, ?_⟩
    refine (zq_aload_n dX11_bend_241 rfl).mpr ?_
    refine (zq_iload_n dX11_bend_242 rfl).mpr ?_
    refine (zq_iconst (v := (-1)) dX11_bend_243 (by decide)).mpr ?_
    obtain ⟨g6, h⟩ := h
    refine zq_virtualV (n := 2) dX11_bend_244 mr_11_212 zn_151 rfl rfl rfl (zrcv_R zo_151 (by decide) g6) (Nat.le_of_ble_eq_true rfl) ?_
    refine h.mono (fun r m4 h => ?_)
    obtain ⟨rfl, h⟩ := h
    refine ⟨rfl, ?_⟩
    refine (zq_iload_n dX11_bend_247 rfl).mpr ?_
    obtain ⟨g7, h⟩ := h
    exact (zq_iret dX11_bend_248 rfl).mpr ⟨g7, h⟩
  · replace h := h.2 c
    refine (zq_aload_n dX11_bend_158 rfl).mpr ?_
    obtain ⟨g8, h⟩ := h
    refine (zq_getR2 (f := 735) (v := (mR m 735 a0)) dX11_bend_159 fl_11_97 (by decide) rfl rfl (by first | rfl | simp only [zm_Is, zm_Rs, zm_As, zm_Os, zm_In0, zm_Rn0])).mpr ⟨g8, ?_⟩
    refine (zq_iload dX11_bend_162 rfl).mpr ?_
    obtain ⟨g9, h⟩ := h
    obtain ⟨g10, h⟩ := h
    refine (zq_iald2 (v := (mA m (mR m 735 a0) (Int.toNat a5))) dX11_bend_164 (by first | rfl | simp only [zm_Is, zm_Rs, zm_As, zm_Os, zm_In0, zm_Rn0])).mpr ⟨⟨g9, g10⟩, ?_⟩
    refine (zq_aload_n dX11_bend_165 rfl).mpr ?_
    refine (zq_getR2 (f := 734) (v := (mR m 734 a0)) dX11_bend_166 fl_11_94 (by decide) rfl rfl (by first | rfl | simp only [zm_Is, zm_Rs, zm_As, zm_Os, zm_In0, zm_Rn0])).mpr ⟨g8, ?_⟩
    refine (zq_iload dX11_bend_169 rfl).mpr ?_
    obtain ⟨g11, h⟩ := h
    obtain ⟨g12, h⟩ := h
    refine (zq_iald2 (v := (mA m (mR m 734 a0) (Int.toNat a5))) dX11_bend_171 (by first | rfl | simp only [zm_Is, zm_Rs, zm_As, zm_Os, zm_In0, zm_Rn0])).mpr ⟨⟨g11, g12⟩, ?_⟩
    refine (zq_isub dX11_bend_172).mpr ?_
    refine (zq_istore (l := [zR a0, zI a1, zI a2, zI a3, zI a4, zI a5, zI (wr ((mA m (mR m 735 a0) (Int.toNat a5)) - (mA m (mR m 734 a0) (Int.toNat a5))))]) dX11_bend_173 (Nat.le_of_ble_eq_true rfl) rfl).mpr ?_
    refine (zq_aload_n dX11_bend_175 rfl).mpr ?_
    refine (zq_getR2 (f := 734) (v := (mR m 734 a0)) dX11_bend_176 fl_11_94 (by decide) rfl rfl (by first | rfl | simp only [zm_Is, zm_Rs, zm_As, zm_Os, zm_In0, zm_Rn0])).mpr ⟨g8, ?_⟩
    refine (zq_iload dX11_bend_179 rfl).mpr ?_
    refine (zq_dup2IR dX11_bend_181).mpr ?_
    refine (zq_iald2 (v := (mA m (mR m 734 a0) (Int.toNat a5))) dX11_bend_182 (by first | rfl | simp only [zm_Is, zm_Rs, zm_As, zm_Os, zm_In0, zm_Rn0])).mpr ⟨⟨g11, g12⟩, ?_⟩
    refine (zq_iload dX11_bend_183 rfl).mpr ?_
    refine zq_staticI (n := 1) dX11_bend_185 mr_11_173 zn_220 rfl rfl (Nat.le_of_ble_eq_true rfl) (Nat.le_of_ble_eq_true rfl) ?_
    refine h.mono (fun r m13 h => ?_)
    obtain ⟨v14, rfl, h⟩ := h
    refine ⟨_, rfl, ?_⟩
    refine (zq_iload dX11_bend_188 rfl).mpr ?_
    refine (zq_iload dX11_bend_190 rfl).mpr ?_
    refine (zq_abs dX11_bend_192 mr_11_221).mpr ⟨(Nat.le_of_ble_eq_true rfl), ?_⟩
    refine (zq_min dX11_bend_195 mr_11_206).mpr ⟨(Nat.le_of_ble_eq_true rfl), ?_⟩
    refine (zq_imul dX11_bend_198).mpr ?_
    refine (zq_iadd dX11_bend_199).mpr ?_
    obtain ⟨g15, h⟩ := h
    obtain ⟨g16, h⟩ := h
    refine (zq_iast dX11_bend_200).mpr ⟨⟨g16, g15⟩, ?_⟩
    refine (zq_iload_n dX11_bend_201 rfl).mpr ?_
    refine (zq_if_eq (t := 226) dX11_bend_202 rfl).mpr ⟨fun c => ?_, fun c => ?_⟩
    · replace h := h.1 c
      refine (zq_iconst (v := 0) dX11_bend_226 (by decide)).mpr ?_
      refine (zq_istore_n (l := [zR a0, zI a1, zI a2, zI 0, zI a4, zI a5, zI (wr ((mA m (mR m 735 a0) (Int.toNat a5)) - (mA m (mR m 734 a0) (Int.toNat a5))))]) dX11_bend_227 (Nat.le_of_ble_eq_true rfl) rfl).mpr ?_
      refine (zq_iinc (l := [zR a0, zI a1, zI a2, zI 0, zI a4, zI (wr (a5 + 1)), zI (wr ((mA m (mR m 735 a0) (Int.toNat a5)) - (mA m (mR m 734 a0) (Int.toNat a5))))]) dX11_bend_228 rfl rfl).mpr ?_
      refine (zq_goto (t := 148) dX11_bend_231 rfl).mpr ?_
      exact h
    · replace h := h.2 c
      refine (zq_aload_n dX11_bend_205 rfl).mpr ?_
      obtain ⟨g17, h⟩ := h
      refine (zq_getR2 (f := 734) (v := (mR m13 734 a0)) dX11_bend_206 fl_11_94 (by decide) rfl rfl (by first | rfl | simp only [zm_Is, zm_Rs, zm_As, zm_Os, zm_In0, zm_Rn0])).mpr ⟨g17, ?_⟩
      refine (zq_iload dX11_bend_209 rfl).mpr ?_
      obtain ⟨g18, h⟩ := h
      obtain ⟨g19, h⟩ := h
      refine (zq_iald2 (v := (mA (sA m13 (mR m 734 a0) (Int.toNat a5) (wr ((mA m (mR m 734 a0) (Int.toNat a5)) + (wr (v14 * (if (if 0 ≤ (wr ((mA m (mR m 735 a0) (Int.toNat a5)) - (mA m (mR m 734 a0) (Int.toNat a5)))) then (wr ((mA m (mR m 735 a0) (Int.toNat a5)) - (mA m (mR m 734 a0) (Int.toNat a5)))) else wr (0 - (wr ((mA m (mR m 735 a0) (Int.toNat a5)) - (mA m (mR m 734 a0) (Int.toNat a5)))))) < a4 then (if 0 ≤ (wr ((mA m (mR m 735 a0) (Int.toNat a5)) - (mA m (mR m 734 a0) (Int.toNat a5)))) then (wr ((mA m (mR m 735 a0) (Int.toNat a5)) - (mA m (mR m 734 a0) (Int.toNat a5)))) else wr (0 - (wr ((mA m (mR m 735 a0) (Int.toNat a5)) - (mA m (mR m 734 a0) (Int.toNat a5)))))) else a4)))))) (mR m13 734 a0) (Int.toNat a5))) dX11_bend_211 (by first | rfl | simp only [zm_Is, zm_Rs, zm_As, zm_Os, zm_In0, zm_Rn0])).mpr ⟨⟨g18, g19⟩, ?_⟩
      refine (zq_aload_n dX11_bend_212 rfl).mpr ?_
      refine (zq_getR2 (f := 735) (v := (mR m13 735 a0)) dX11_bend_213 fl_11_97 (by decide) rfl rfl (by first | rfl | simp only [zm_Is, zm_Rs, zm_As, zm_Os, zm_In0, zm_Rn0])).mpr ⟨g17, ?_⟩
      refine (zq_iload dX11_bend_216 rfl).mpr ?_
      obtain ⟨g20, h⟩ := h
      obtain ⟨g21, h⟩ := h
      refine (zq_iald2 (v := (mA (sA m13 (mR m 734 a0) (Int.toNat a5) (wr ((mA m (mR m 734 a0) (Int.toNat a5)) + (wr (v14 * (if (if 0 ≤ (wr ((mA m (mR m 735 a0) (Int.toNat a5)) - (mA m (mR m 734 a0) (Int.toNat a5)))) then (wr ((mA m (mR m 735 a0) (Int.toNat a5)) - (mA m (mR m 734 a0) (Int.toNat a5)))) else wr (0 - (wr ((mA m (mR m 735 a0) (Int.toNat a5)) - (mA m (mR m 734 a0) (Int.toNat a5)))))) < a4 then (if 0 ≤ (wr ((mA m (mR m 735 a0) (Int.toNat a5)) - (mA m (mR m 734 a0) (Int.toNat a5)))) then (wr ((mA m (mR m 735 a0) (Int.toNat a5)) - (mA m (mR m 734 a0) (Int.toNat a5)))) else wr (0 - (wr ((mA m (mR m 735 a0) (Int.toNat a5)) - (mA m (mR m 734 a0) (Int.toNat a5)))))) else a4)))))) (mR m13 735 a0) (Int.toNat a5))) dX11_bend_218 (by first | rfl | simp only [zm_Is, zm_Rs, zm_As, zm_Os, zm_In0, zm_Rn0])).mpr ⟨⟨g20, g21⟩, ?_⟩
      refine (zq_icmp_ne (t := 226) dX11_bend_219 rfl).mpr ⟨fun c => ?_, fun c => ?_⟩
      · replace h := h.1 c
        refine (zq_iconst (v := 0) dX11_bend_226 (by decide)).mpr ?_
        refine (zq_istore_n (l := [zR a0, zI a1, zI a2, zI 0, zI a4, zI a5, zI (wr ((mA m (mR m 735 a0) (Int.toNat a5)) - (mA m (mR m 734 a0) (Int.toNat a5))))]) dX11_bend_227 (Nat.le_of_ble_eq_true rfl) rfl).mpr ?_
        refine (zq_iinc (l := [zR a0, zI a1, zI a2, zI 0, zI a4, zI (wr (a5 + 1)), zI (wr ((mA m (mR m 735 a0) (Int.toNat a5)) - (mA m (mR m 734 a0) (Int.toNat a5))))]) dX11_bend_228 rfl rfl).mpr ?_
        refine (zq_goto (t := 148) dX11_bend_231 rfl).mpr ?_
        exact h
      · replace h := h.2 c
        refine (zq_iconst (v := 1) dX11_bend_222 (by decide)).mpr ?_
        refine (zq_goto (t := 227) dX11_bend_223 rfl).mpr ?_
        refine (zq_istore_n (l := [zR a0, zI a1, zI a2, zI 1, zI a4, zI a5, zI (wr ((mA m (mR m 735 a0) (Int.toNat a5)) - (mA m (mR m 734 a0) (Int.toNat a5))))]) dX11_bend_227 (Nat.le_of_ble_eq_true rfl) rfl).mpr ?_
        refine (zq_iinc (l := [zR a0, zI a1, zI a2, zI 1, zI a4, zI (wr (a5 + 1)), zI (wr ((mA m (mR m 735 a0) (Int.toNat a5)) - (mA m (mR m 734 a0) (Int.toNat a5))))]) dX11_bend_228 rfl rfl).mpr ?_
        refine (zq_goto (t := 148) dX11_bend_231 rfl).mpr ?_
        exact h
theorem bX11_fit_0 {a0 : Nat} {a1 : Int} (h : zW xs xl d cX11_fit 11 (some .boolean) false [] 6 [zR a0, zI a1, zI 0, zI (wr (3 * a1))] [] m Q) : zC xs xl (d + 1) 154 [zR a0, zI a1] m Q := by
  refine zk_154 ?_
  refine (zq_iconst (v := 0) dX11_fit_0 (by decide)).mpr ?_
  refine (zq_istore_n (l := [zR a0, zI a1, zI 0, zU]) dX11_fit_1 (Nat.le_of_ble_eq_true rfl) rfl).mpr ?_
  refine (zq_iconst (v := 3) dX11_fit_2 (by decide)).mpr ?_
  refine (zq_iload_n dX11_fit_3 rfl).mpr ?_
  refine (zq_imul dX11_fit_4).mpr ?_
  refine (zq_istore_n (l := [zR a0, zI a1, zI 0, zI (wr (3 * a1))]) dX11_fit_5 (Nat.le_of_ble_eq_true rfl) rfl).mpr ?_
  exact h
theorem bX11_fit_6 {a0 : Nat} {a1 : Int} {a2 : Int} {a3 : Int} (h : (((wr ((wr (3 * a1)) + 3)) ≤ a3 → (mC m a0 = 12) ∧ (mC m (mR m 715 a0) = 20) ∧ (0 ≤ a1 ∧ a1 < mN m (mR m 715 a0)) ∧ ((a2 ≤ (mA m (mR m 715 a0) (Int.toNat a1)) → (mC m (mR m 721 a0) = 20) ∧ (0 ≤ a1 ∧ a1 < mN m (mR m 721 a0)) ∧ (mC m (mR m 722 a0) = 20) ∧ (0 ≤ a1 ∧ a1 < mN m (mR m 722 a0)) ∧ zC xs xl d 155 [zR a0, zI a1] (sA (sA m (mR m 721 a0) (Int.toNat a1) (wr ((mA m (mR m 721 a0) (Int.toNat a1)) + 1))) (mR m 722 a0) (Int.toNat a1) (wr ((mA (sA m (mR m 721 a0) (Int.toNat a1) (wr ((mA m (mR m 721 a0) (Int.toNat a1)) + 1))) (mR m 722 a0) (Int.toNat a1)) + a2))) (fun r m8 => r = .inl none ∧ Q (.inl (some (zI 1))) m8)) ∧ (¬ (a2 ≤ (mA m (mR m 715 a0) (Int.toNat a1))) → zC xs xl d 156 [zR a0, zI a1] m (fun r m10 => ∃ v11 : Int, r = .inl (some (zI v11)) ∧ (v11 = 0 ∨ v11 = 1) ∧ Q (.inl (some (zI v11))) m10)))) ∧ (¬ ((wr ((wr (3 * a1)) + 3)) ≤ a3) → (mC m a0 = 12) ∧ (mC m (mR m 734 a0) = 20) ∧ (0 ≤ a3 ∧ a3 < mN m (mR m 734 a0)) ∧ (mC m (mR m 731 a0) = 20) ∧ (0 ≤ a1 ∧ a1 < mN m (mR m 731 a0)) ∧ (mC m (mR m 735 a0) = 20) ∧ (0 ≤ a3 ∧ a3 < mN m (mR m 735 a0)) ∧ zW xs xl d cX11_fit 11 (some .boolean) false [] 6 [zR a0, zI a1, zI (wr (a2 + (if 0 ≤ (wr ((mA (sA m (mR m 734 a0) (Int.toNat a3) (wr ((mA m (mR m 734 a0) (Int.toNat a3)) - (wr (Int.tdiv (wr ((mA m (mR m 734 a0) (Int.toNat a3)) * (mA m (mR m 731 a0) (Int.toNat a1)))) 200))))) (mR m 735 a0) (Int.toNat a3)) - (wr ((mA m (mR m 734 a0) (Int.toNat a3)) - (wr (Int.tdiv (wr ((mA m (mR m 734 a0) (Int.toNat a3)) * (mA m (mR m 731 a0) (Int.toNat a1)))) 200)))))) then (wr ((mA (sA m (mR m 734 a0) (Int.toNat a3) (wr ((mA m (mR m 734 a0) (Int.toNat a3)) - (wr (Int.tdiv (wr ((mA m (mR m 734 a0) (Int.toNat a3)) * (mA m (mR m 731 a0) (Int.toNat a1)))) 200))))) (mR m 735 a0) (Int.toNat a3)) - (wr ((mA m (mR m 734 a0) (Int.toNat a3)) - (wr (Int.tdiv (wr ((mA m (mR m 734 a0) (Int.toNat a3)) * (mA m (mR m 731 a0) (Int.toNat a1)))) 200)))))) else wr (0 - (wr ((mA (sA m (mR m 734 a0) (Int.toNat a3) (wr ((mA m (mR m 734 a0) (Int.toNat a3)) - (wr (Int.tdiv (wr ((mA m (mR m 734 a0) (Int.toNat a3)) * (mA m (mR m 731 a0) (Int.toNat a1)))) 200))))) (mR m 735 a0) (Int.toNat a3)) - (wr ((mA m (mR m 734 a0) (Int.toNat a3)) - (wr (Int.tdiv (wr ((mA m (mR m 734 a0) (Int.toNat a3)) * (mA m (mR m 731 a0) (Int.toNat a1)))) 200)))))))))), zI (wr (a3 + 1))] [] (sA m (mR m 734 a0) (Int.toNat a3) (wr ((mA m (mR m 734 a0) (Int.toNat a3)) - (wr (Int.tdiv (wr ((mA m (mR m 734 a0) (Int.toNat a3)) * (mA m (mR m 731 a0) (Int.toNat a1)))) 200))))) Q))) : zW xs xl d cX11_fit 11 (some .boolean) false [] 6 [zR a0, zI a1, zI a2, zI a3] [] m Q := by
  refine (zq_iload_n dX11_fit_6 rfl).mpr ?_
  refine (zq_iconst (v := 3) dX11_fit_7 (by decide)).mpr ?_
  refine (zq_iload_n dX11_fit_8 rfl).mpr ?_
  refine (zq_imul dX11_fit_9).mpr ?_
  refine (zq_iconst (v := 3) dX11_fit_10 (by decide)).mpr ?_
  refine (zq_iadd dX11_fit_11).mpr ?_
  refine (zq_icmp_ge (t := 66) dX11_fit_12 rfl).mpr ⟨fun c => ?_, fun c => ?_⟩
  · replace h := h.1 c
    refine (zq_iload_n dX11_fit_66 rfl).mpr ?_
    refine (zq_aload_n dX11_fit_67 rfl).mpr ?_
    obtain ⟨g1, h⟩ := h
    refine (zq_getR2 (f := 715) (v := (mR m 715 a0)) dX11_fit_68 fl_11_37 (by decide) rfl rfl (by first | rfl | simp only [zm_Is, zm_Rs, zm_As, zm_Os, zm_In0, zm_Rn0])).mpr ⟨g1, ?_⟩
    refine (zq_iload_n dX11_fit_71 rfl).mpr ?_
    obtain ⟨g2, h⟩ := h
    obtain ⟨g3, h⟩ := h
    refine (zq_iald2 (v := (mA m (mR m 715 a0) (Int.toNat a1))) dX11_fit_72 (by first | rfl | simp only [zm_Is, zm_Rs, zm_As, zm_Os, zm_In0, zm_Rn0])).mpr ⟨⟨g2, g3⟩, ?_⟩
    refine (zq_icmp_le (t := 82) dX11_fit_73 rfl).mpr ⟨fun c => ?_, fun c => ?_⟩
    · replace h := h.1 c
      refine (zq_aload_n dX11_fit_82 rfl).mpr ?_
      refine (zq_getR2 (f := 721) (v := (mR m 721 a0)) dX11_fit_83 fl_11_55 (by decide) rfl rfl (by first | rfl | simp only [zm_Is, zm_Rs, zm_As, zm_Os, zm_In0, zm_Rn0])).mpr ⟨g1, ?_⟩
      refine (zq_iload_n dX11_fit_86 rfl).mpr ?_
      refine (zq_dup2IR dX11_fit_87).mpr ?_
      obtain ⟨g4, h⟩ := h
      obtain ⟨g5, h⟩ := h
      refine (zq_iald2 (v := (mA m (mR m 721 a0) (Int.toNat a1))) dX11_fit_88 (by first | rfl | simp only [zm_Is, zm_Rs, zm_As, zm_Os, zm_In0, zm_Rn0])).mpr ⟨⟨g4, g5⟩, ?_⟩
      refine (zq_iconst (v := 1) dX11_fit_89 (by decide)).mpr ?_
      refine (zq_iadd dX11_fit_90).mpr ?_
      refine (zq_iast dX11_fit_91).mpr ⟨⟨g4, g5⟩, ?_⟩
      refine (zq_aload_n dX11_fit_92 rfl).mpr ?_
      refine (zq_getR2 (f := 722) (v := (mR m 722 a0)) dX11_fit_93 fl_11_58 (by decide) rfl rfl (by first | rfl | simp only [zm_Is, zm_Rs, zm_As, zm_Os, zm_In0, zm_Rn0])).mpr ⟨g1, ?_⟩
      refine (zq_iload_n dX11_fit_96 rfl).mpr ?_
      refine (zq_dup2IR dX11_fit_97).mpr ?_
      obtain ⟨g6, h⟩ := h
      obtain ⟨g7, h⟩ := h
      refine (zq_iald2 (v := (mA (sA m (mR m 721 a0) (Int.toNat a1) (wr ((mA m (mR m 721 a0) (Int.toNat a1)) + 1))) (mR m 722 a0) (Int.toNat a1))) dX11_fit_98 (by first | rfl | simp only [zm_Is, zm_Rs, zm_As, zm_Os, zm_In0, zm_Rn0])).mpr ⟨⟨g6, g7⟩, ?_⟩
      refine (zq_iload_n dX11_fit_99 rfl).mpr ?_
      refine (zq_iadd dX11_fit_100).mpr ?_
      refine (zq_iast dX11_fit_101).mpr ⟨⟨g6, g7⟩, ?_⟩
      refine (zq_aload_n dX11_fit_102 rfl).mpr ?_
      refine (zq_iload_n dX11_fit_103 rfl).mpr ?_
      refine zq_virtualV (n := 1) dX11_fit_104 mr_11_224 zn_155 rfl rfl rfl (zrcv_R zo_155 (by decide) g1) (Nat.le_of_ble_eq_true rfl) ?_
      refine h.mono (fun r m8 h => ?_)
      obtain ⟨rfl, h⟩ := h
      refine ⟨rfl, ?_⟩
      refine (zq_iconst (v := 1) dX11_fit_107 (by decide)).mpr ?_
      exact (zq_iret dX11_fit_108 rfl).mpr ⟨Or.inr rfl, h⟩
    · replace h := h.2 c
      refine (zq_aload_n dX11_fit_76 rfl).mpr ?_
      refine (zq_iload_n dX11_fit_77 rfl).mpr ?_
      refine zq_virtualI (n := 1) dX11_fit_78 mr_11_215 zn_156 rfl rfl rfl (zrcv_R zo_156 (by decide) g1) (Nat.le_of_ble_eq_true rfl) ?_
      refine h.mono (fun r m10 h => ?_)
      obtain ⟨v11, rfl, h⟩ := h
      refine ⟨_, rfl, ?_⟩
      obtain ⟨g12, h⟩ := h
      exact (zq_iret dX11_fit_81 rfl).mpr ⟨g12, h⟩
  · replace h := h.2 c
    refine (zq_aload_n dX11_fit_15 rfl).mpr ?_
    obtain ⟨g13, h⟩ := h
    refine (zq_getR2 (f := 734) (v := (mR m 734 a0)) dX11_fit_16 fl_11_94 (by decide) rfl rfl (by first | rfl | simp only [zm_Is, zm_Rs, zm_As, zm_Os, zm_In0, zm_Rn0])).mpr ⟨g13, ?_⟩
    refine (zq_iload_n dX11_fit_19 rfl).mpr ?_
    refine (zq_dup2IR dX11_fit_20).mpr ?_
    obtain ⟨g14, h⟩ := h
    obtain ⟨g15, h⟩ := h
    refine (zq_iald2 (v := (mA m (mR m 734 a0) (Int.toNat a3))) dX11_fit_21 (by first | rfl | simp only [zm_Is, zm_Rs, zm_As, zm_Os, zm_In0, zm_Rn0])).mpr ⟨⟨g14, g15⟩, ?_⟩
    refine (zq_aload_n dX11_fit_22 rfl).mpr ?_
    refine (zq_getR2 (f := 734) (v := (mR m 734 a0)) dX11_fit_23 fl_11_94 (by decide) rfl rfl (by first | rfl | simp only [zm_Is, zm_Rs, zm_As, zm_Os, zm_In0, zm_Rn0])).mpr ⟨g13, ?_⟩
    refine (zq_iload_n dX11_fit_26 rfl).mpr ?_
    refine (zq_iald2 (v := (mA m (mR m 734 a0) (Int.toNat a3))) dX11_fit_27 (by first | rfl | simp only [zm_Is, zm_Rs, zm_As, zm_Os, zm_In0, zm_Rn0])).mpr ⟨⟨g14, g15⟩, ?_⟩
    refine (zq_aload_n dX11_fit_28 rfl).mpr ?_
    refine (zq_getR2 (f := 731) (v := (mR m 731 a0)) dX11_fit_29 fl_11_85 (by decide) rfl rfl (by first | rfl | simp only [zm_Is, zm_Rs, zm_As, zm_Os, zm_In0, zm_Rn0])).mpr ⟨g13, ?_⟩
    refine (zq_iload_n dX11_fit_32 rfl).mpr ?_
    obtain ⟨g16, h⟩ := h
    obtain ⟨g17, h⟩ := h
    refine (zq_iald2 (v := (mA m (mR m 731 a0) (Int.toNat a1))) dX11_fit_33 (by first | rfl | simp only [zm_Is, zm_Rs, zm_As, zm_Os, zm_In0, zm_Rn0])).mpr ⟨⟨g16, g17⟩, ?_⟩
    refine (zq_imul dX11_fit_34).mpr ?_
    refine (zq_sipush (v := 200) dX11_fit_35 (by decide)).mpr ?_
    refine (zq_idiv dX11_fit_38).mpr ⟨by decide, ?_⟩
    refine (zq_isub dX11_fit_39).mpr ?_
    refine (zq_iast dX11_fit_40).mpr ⟨⟨g14, g15⟩, ?_⟩
    refine (zq_iload_n dX11_fit_41 rfl).mpr ?_
    refine (zq_aload_n dX11_fit_42 rfl).mpr ?_
    refine (zq_getR2 (f := 735) (v := (mR m 735 a0)) dX11_fit_43 fl_11_97 (by decide) rfl rfl (by first | rfl | simp only [zm_Is, zm_Rs, zm_As, zm_Os, zm_In0, zm_Rn0])).mpr ⟨g13, ?_⟩
    refine (zq_iload_n dX11_fit_46 rfl).mpr ?_
    obtain ⟨g18, h⟩ := h
    obtain ⟨g19, h⟩ := h
    refine (zq_iald2 (v := (mA (sA m (mR m 734 a0) (Int.toNat a3) (wr ((mA m (mR m 734 a0) (Int.toNat a3)) - (wr (Int.tdiv (wr ((mA m (mR m 734 a0) (Int.toNat a3)) * (mA m (mR m 731 a0) (Int.toNat a1)))) 200))))) (mR m 735 a0) (Int.toNat a3))) dX11_fit_47 (by first | rfl | simp only [zm_Is, zm_Rs, zm_As, zm_Os, zm_In0, zm_Rn0])).mpr ⟨⟨g18, g19⟩, ?_⟩
    refine (zq_aload_n dX11_fit_48 rfl).mpr ?_
    refine (zq_getR2 (f := 734) (v := (mR m 734 a0)) dX11_fit_49 fl_11_94 (by decide) rfl rfl (by first | rfl | simp only [zm_Is, zm_Rs, zm_As, zm_Os, zm_In0, zm_Rn0])).mpr ⟨g13, ?_⟩
    refine (zq_iload_n dX11_fit_52 rfl).mpr ?_
    refine (zq_iald2 (v := (wr ((mA m (mR m 734 a0) (Int.toNat a3)) - (wr (Int.tdiv (wr ((mA m (mR m 734 a0) (Int.toNat a3)) * (mA m (mR m 731 a0) (Int.toNat a1)))) 200))))) dX11_fit_53 (by first | rfl | simp only [zm_Is, zm_Rs, zm_As, zm_Os, zm_In0, zm_Rn0])).mpr ⟨⟨g14, g15⟩, ?_⟩
    refine (zq_isub dX11_fit_54).mpr ?_
    refine (zq_abs dX11_fit_55 mr_11_221).mpr ⟨(Nat.le_of_ble_eq_true rfl), ?_⟩
    refine (zq_iadd dX11_fit_58).mpr ?_
    refine (zq_istore_n (l := [zR a0, zI a1, zI (wr (a2 + (if 0 ≤ (wr ((mA (sA m (mR m 734 a0) (Int.toNat a3) (wr ((mA m (mR m 734 a0) (Int.toNat a3)) - (wr (Int.tdiv (wr ((mA m (mR m 734 a0) (Int.toNat a3)) * (mA m (mR m 731 a0) (Int.toNat a1)))) 200))))) (mR m 735 a0) (Int.toNat a3)) - (wr ((mA m (mR m 734 a0) (Int.toNat a3)) - (wr (Int.tdiv (wr ((mA m (mR m 734 a0) (Int.toNat a3)) * (mA m (mR m 731 a0) (Int.toNat a1)))) 200)))))) then (wr ((mA (sA m (mR m 734 a0) (Int.toNat a3) (wr ((mA m (mR m 734 a0) (Int.toNat a3)) - (wr (Int.tdiv (wr ((mA m (mR m 734 a0) (Int.toNat a3)) * (mA m (mR m 731 a0) (Int.toNat a1)))) 200))))) (mR m 735 a0) (Int.toNat a3)) - (wr ((mA m (mR m 734 a0) (Int.toNat a3)) - (wr (Int.tdiv (wr ((mA m (mR m 734 a0) (Int.toNat a3)) * (mA m (mR m 731 a0) (Int.toNat a1)))) 200)))))) else wr (0 - (wr ((mA (sA m (mR m 734 a0) (Int.toNat a3) (wr ((mA m (mR m 734 a0) (Int.toNat a3)) - (wr (Int.tdiv (wr ((mA m (mR m 734 a0) (Int.toNat a3)) * (mA m (mR m 731 a0) (Int.toNat a1)))) 200))))) (mR m 735 a0) (Int.toNat a3)) - (wr ((mA m (mR m 734 a0) (Int.toNat a3)) - (wr (Int.tdiv (wr ((mA m (mR m 734 a0) (Int.toNat a3)) * (mA m (mR m 731 a0) (Int.toNat a1)))) 200)))))))))), zI a3]) dX11_fit_59 (Nat.le_of_ble_eq_true rfl) rfl).mpr ?_
    refine (zq_iinc (l := [zR a0, zI a1, zI (wr (a2 + (if 0 ≤ (wr ((mA (sA m (mR m 734 a0) (Int.toNat a3) (wr ((mA m (mR m 734 a0) (Int.toNat a3)) - (wr (Int.tdiv (wr ((mA m (mR m 734 a0) (Int.toNat a3)) * (mA m (mR m 731 a0) (Int.toNat a1)))) 200))))) (mR m 735 a0) (Int.toNat a3)) - (wr ((mA m (mR m 734 a0) (Int.toNat a3)) - (wr (Int.tdiv (wr ((mA m (mR m 734 a0) (Int.toNat a3)) * (mA m (mR m 731 a0) (Int.toNat a1)))) 200)))))) then (wr ((mA (sA m (mR m 734 a0) (Int.toNat a3) (wr ((mA m (mR m 734 a0) (Int.toNat a3)) - (wr (Int.tdiv (wr ((mA m (mR m 734 a0) (Int.toNat a3)) * (mA m (mR m 731 a0) (Int.toNat a1)))) 200))))) (mR m 735 a0) (Int.toNat a3)) - (wr ((mA m (mR m 734 a0) (Int.toNat a3)) - (wr (Int.tdiv (wr ((mA m (mR m 734 a0) (Int.toNat a3)) * (mA m (mR m 731 a0) (Int.toNat a1)))) 200)))))) else wr (0 - (wr ((mA (sA m (mR m 734 a0) (Int.toNat a3) (wr ((mA m (mR m 734 a0) (Int.toNat a3)) - (wr (Int.tdiv (wr ((mA m (mR m 734 a0) (Int.toNat a3)) * (mA m (mR m 731 a0) (Int.toNat a1)))) 200))))) (mR m 735 a0) (Int.toNat a3)) - (wr ((mA m (mR m 734 a0) (Int.toNat a3)) - (wr (Int.tdiv (wr ((mA m (mR m 734 a0) (Int.toNat a3)) * (mA m (mR m 731 a0) (Int.toNat a1)))) 200)))))))))), zI (wr (a3 + 1))]) dX11_fit_60 rfl rfl).mpr ?_
    refine (zq_goto (t := 6) dX11_fit_63 rfl).mpr ?_
    exact h
theorem bX11_clearPiece_0 {a0 : Nat} {a1 : Int} (h : (mC m a0 = 12) ∧ (0 ≤ a1 ∧ a1 < mN m (mR m 729 a0)) ∧ (mC m (mR m 729 a0) = 21) ∧ (0 ≤ a1 ∧ a1 < mN m (mR m 731 a0)) ∧ (mC m (mR m 731 a0) = 20) ∧ (0 ≤ a1 ∧ a1 < mN m (mR m 732 a0)) ∧ (mC m (mR m 732 a0) = 20) ∧ (0 ≤ a1 ∧ a1 < mN m (mR m 733 a0)) ∧ (mC m (mR m 733 a0) = 20) ∧ zW xs xl d cX11_clearPiece 11 (none) false [] 30 [zR a0, zI a1, zI 0] [] (sA (sA (sA (sA m (mR m 729 a0) (Int.toNat a1) 0) (mR m 731 a0) (Int.toNat a1) 0) (mR m 732 a0) (Int.toNat a1) 0) (mR m 733 a0) (Int.toNat a1) 0) Q) : zC xs xl (d + 1) 155 [zR a0, zI a1] m Q := by
  refine zk_155 ?_
  refine (zq_aload_n dX11_clearPiece_0 rfl).mpr ?_
  obtain ⟨g1, h⟩ := h
  refine (zq_getR2 (f := 729) (v := (mR m 729 a0)) dX11_clearPiece_1 fl_11_79 (by decide) rfl rfl (by first | rfl | simp only [zm_Is, zm_Rs, zm_As, zm_Os, zm_In0, zm_Rn0])).mpr ⟨g1, ?_⟩
  refine (zq_iload_n dX11_clearPiece_4 rfl).mpr ?_
  refine (zq_iconst (v := 0) dX11_clearPiece_5 (by decide)).mpr ?_
  obtain ⟨g2, h⟩ := h
  obtain ⟨g3, h⟩ := h
  refine (zq_bast dX11_clearPiece_6).mpr ⟨⟨Or.inl ⟨g3, Or.inl rfl⟩, g2⟩, ?_⟩
  refine (zq_aload_n dX11_clearPiece_7 rfl).mpr ?_
  refine (zq_getR2 (f := 731) (v := (mR m 731 a0)) dX11_clearPiece_8 fl_11_85 (by decide) rfl rfl (by first | rfl | simp only [zm_Is, zm_Rs, zm_As, zm_Os, zm_In0, zm_Rn0])).mpr ⟨g1, ?_⟩
  refine (zq_iload_n dX11_clearPiece_11 rfl).mpr ?_
  refine (zq_iconst (v := 0) dX11_clearPiece_12 (by decide)).mpr ?_
  obtain ⟨g4, h⟩ := h
  obtain ⟨g5, h⟩ := h
  refine (zq_iast dX11_clearPiece_13).mpr ⟨⟨g5, g4⟩, ?_⟩
  refine (zq_aload_n dX11_clearPiece_14 rfl).mpr ?_
  refine (zq_getR2 (f := 732) (v := (mR m 732 a0)) dX11_clearPiece_15 fl_11_88 (by decide) rfl rfl (by first | rfl | simp only [zm_Is, zm_Rs, zm_As, zm_Os, zm_In0, zm_Rn0])).mpr ⟨g1, ?_⟩
  refine (zq_iload_n dX11_clearPiece_18 rfl).mpr ?_
  refine (zq_iconst (v := 0) dX11_clearPiece_19 (by decide)).mpr ?_
  obtain ⟨g6, h⟩ := h
  obtain ⟨g7, h⟩ := h
  refine (zq_iast dX11_clearPiece_20).mpr ⟨⟨g7, g6⟩, ?_⟩
  refine (zq_aload_n dX11_clearPiece_21 rfl).mpr ?_
  refine (zq_getR2 (f := 733) (v := (mR m 733 a0)) dX11_clearPiece_22 fl_11_91 (by decide) rfl rfl (by first | rfl | simp only [zm_Is, zm_Rs, zm_As, zm_Os, zm_In0, zm_Rn0])).mpr ⟨g1, ?_⟩
  refine (zq_iload_n dX11_clearPiece_25 rfl).mpr ?_
  refine (zq_iconst (v := 0) dX11_clearPiece_26 (by decide)).mpr ?_
  obtain ⟨g8, h⟩ := h
  obtain ⟨g9, h⟩ := h
  refine (zq_iast dX11_clearPiece_27).mpr ⟨⟨g9, g8⟩, ?_⟩
  refine (zq_iconst (v := 0) dX11_clearPiece_28 (by decide)).mpr ?_
  refine (zq_istore_n (l := [zR a0, zI a1, zI 0]) dX11_clearPiece_29 (Nat.le_of_ble_eq_true rfl) rfl).mpr ?_
  exact h
theorem bX11_clearPiece_30 {a0 : Nat} {a1 : Int} {a2 : Int} (h : ((3 ≤ a2 → Q (.inl none) m) ∧ (¬ (3 ≤ a2) → (mC m a0 = 12) ∧ (0 ≤ (wr ((wr (3 * a1)) + a2)) ∧ (wr ((wr (3 * a1)) + a2)) < mN m (mR m 734 a0)) ∧ (mC m (mR m 734 a0) = 20) ∧ (0 ≤ (wr ((wr (3 * a1)) + a2)) ∧ (wr ((wr (3 * a1)) + a2)) < mN m (mR m 735 a0)) ∧ (mC m (mR m 735 a0) = 20) ∧ zW xs xl d cX11_clearPiece 11 (none) false [] 30 [zR a0, zI a1, zI (wr (a2 + 1))] [] (sA (sA m (mR m 734 a0) (Int.toNat (wr ((wr (3 * a1)) + a2))) 0) (mR m 735 a0) (Int.toNat (wr ((wr (3 * a1)) + a2))) 0) Q))) : zW xs xl d cX11_clearPiece 11 (none) false [] 30 [zR a0, zI a1, zI a2] [] m Q := by
  refine (zq_iload_n dX11_clearPiece_30 rfl).mpr ?_
  refine (zq_iconst (v := 3) dX11_clearPiece_31 (by decide)).mpr ?_
  refine (zq_icmp_ge (t := 63) dX11_clearPiece_32 rfl).mpr ⟨fun c => ?_, fun c => ?_⟩
  · replace h := h.1 c
    exact (zq_ret dX11_clearPiece_63 rfl).mpr h
  · replace h := h.2 c
    refine (zq_aload_n dX11_clearPiece_35 rfl).mpr ?_
    obtain ⟨g1, h⟩ := h
    refine (zq_getR2 (f := 734) (v := (mR m 734 a0)) dX11_clearPiece_36 fl_11_94 (by decide) rfl rfl (by first | rfl | simp only [zm_Is, zm_Rs, zm_As, zm_Os, zm_In0, zm_Rn0])).mpr ⟨g1, ?_⟩
    refine (zq_iconst (v := 3) dX11_clearPiece_39 (by decide)).mpr ?_
    refine (zq_iload_n dX11_clearPiece_40 rfl).mpr ?_
    refine (zq_imul dX11_clearPiece_41).mpr ?_
    refine (zq_iload_n dX11_clearPiece_42 rfl).mpr ?_
    refine (zq_iadd dX11_clearPiece_43).mpr ?_
    refine (zq_iconst (v := 0) dX11_clearPiece_44 (by decide)).mpr ?_
    obtain ⟨g2, h⟩ := h
    obtain ⟨g3, h⟩ := h
    refine (zq_iast dX11_clearPiece_45).mpr ⟨⟨g3, g2⟩, ?_⟩
    refine (zq_aload_n dX11_clearPiece_46 rfl).mpr ?_
    refine (zq_getR2 (f := 735) (v := (mR m 735 a0)) dX11_clearPiece_47 fl_11_97 (by decide) rfl rfl (by first | rfl | simp only [zm_Is, zm_Rs, zm_As, zm_Os, zm_In0, zm_Rn0])).mpr ⟨g1, ?_⟩
    refine (zq_iconst (v := 3) dX11_clearPiece_50 (by decide)).mpr ?_
    refine (zq_iload_n dX11_clearPiece_51 rfl).mpr ?_
    refine (zq_imul dX11_clearPiece_52).mpr ?_
    refine (zq_iload_n dX11_clearPiece_53 rfl).mpr ?_
    refine (zq_iadd dX11_clearPiece_54).mpr ?_
    refine (zq_iconst (v := 0) dX11_clearPiece_55 (by decide)).mpr ?_
    obtain ⟨g4, h⟩ := h
    obtain ⟨g5, h⟩ := h
    refine (zq_iast dX11_clearPiece_56).mpr ⟨⟨g5, g4⟩, ?_⟩
    refine (zq_iinc (l := [zR a0, zI a1, zI (wr (a2 + 1))]) dX11_clearPiece_57 rfl rfl).mpr ?_
    refine (zq_goto (t := 30) dX11_clearPiece_60 rfl).mpr ?_
    exact h
theorem bX11_lose_0 {a0 : Nat} {a1 : Int} (h : (mC m a0 = 12) ∧ zC xs xl d 155 [zR a0, zI a1] m (fun r m1 => r = .inl none ∧ (mC m1 a0 = 12) ∧ (mC m1 (mR m1 723 a0) = 20) ∧ (0 ≤ a1 ∧ a1 < mN m1 (mR m1 723 a0)) ∧ (mC m1 (mR m1 719 a0) = 20) ∧ (0 ≤ a1 ∧ a1 < mN m1 (mR m1 719 a0)) ∧ (0 ≤ a1 ∧ a1 < mN m1 (mR m1 718 a0)) ∧ (mC m1 (mR m1 718 a0) = 20) ∧ (0 ≤ a1 ∧ a1 < mN m1 (mR m1 720 a0)) ∧ (mC m1 (mR m1 720 a0) = 20) ∧ Q (.inl (some (zI 0))) (sA (sA (sI (sA m1 (mR m1 723 a0) (Int.toNat a1) (wr ((mA m1 (mR m1 723 a0) (Int.toNat a1)) + 1))) 737 a0 (wr ((mI m1 737 a0) + 1))) (mR m1 718 a0) (Int.toNat a1) (mA (sA m1 (mR m1 723 a0) (Int.toNat a1) (wr ((mA m1 (mR m1 723 a0) (Int.toNat a1)) + 1))) (mR m1 719 a0) (Int.toNat a1))) (mR m1 720 a0) (Int.toNat a1) 0))) : zC xs xl (d + 1) 156 [zR a0, zI a1] m Q := by
  refine zk_156 ?_
  refine (zq_aload_n dX11_lose_0 rfl).mpr ?_
  refine (zq_iload_n dX11_lose_1 rfl).mpr ?_
  obtain ⟨g3, h⟩ := h
  refine zq_virtualV (n := 1) dX11_lose_2 mr_11_224 zn_155 rfl rfl rfl (zrcv_R zo_155 (by decide) g3) (Nat.le_of_ble_eq_true rfl) ?_
  refine h.mono (fun r m1 h => ?_)
  obtain ⟨rfl, h⟩ := h
  refine ⟨rfl, ?_⟩
  refine (zq_aload_n dX11_lose_5 rfl).mpr ?_
  obtain ⟨g4, h⟩ := h
  refine (zq_getR2 (f := 723) (v := (mR m1 723 a0)) dX11_lose_6 fl_11_61 (by decide) rfl rfl (by first | rfl | simp only [zm_Is, zm_Rs, zm_As, zm_Os, zm_In0, zm_Rn0])).mpr ⟨g4, ?_⟩
  refine (zq_iload_n dX11_lose_9 rfl).mpr ?_
  refine (zq_dup2IR dX11_lose_10).mpr ?_
  obtain ⟨g5, h⟩ := h
  obtain ⟨g6, h⟩ := h
  refine (zq_iald2 (v := (mA m1 (mR m1 723 a0) (Int.toNat a1))) dX11_lose_11 (by first | rfl | simp only [zm_Is, zm_Rs, zm_As, zm_Os, zm_In0, zm_Rn0])).mpr ⟨⟨g5, g6⟩, ?_⟩
  refine (zq_iconst (v := 1) dX11_lose_12 (by decide)).mpr ?_
  refine (zq_iadd dX11_lose_13).mpr ?_
  refine (zq_iast dX11_lose_14).mpr ⟨⟨g5, g6⟩, ?_⟩
  refine (zq_aload_n dX11_lose_15 rfl).mpr ?_
  refine (zq_dupR dX11_lose_16).mpr ?_
  refine (zq_getI2 (f := 737) (v := (mI m1 737 a0)) dX11_lose_17 fl_11_122 (by decide) rfl rfl (by first | rfl | simp only [zm_Is, zm_Rs, zm_As, zm_Os, zm_In0, zm_Rn0])).mpr ⟨g4, ?_⟩
  refine (zq_iconst (v := 1) dX11_lose_20 (by decide)).mpr ?_
  refine (zq_iadd dX11_lose_21).mpr ?_
  refine (zq_putI (f := 737) dX11_lose_22 fl_11_122 (by decide) rfl rfl rfl).mpr ⟨g4, ?_⟩
  refine (zq_aload_n dX11_lose_25 rfl).mpr ?_
  refine (zq_getR2 (f := 718) (v := (mR m1 718 a0)) dX11_lose_26 fl_11_46 (by decide) rfl rfl (by first | rfl | simp only [zm_Is, zm_Rs, zm_As, zm_Os, zm_In0, zm_Rn0])).mpr ⟨g4, ?_⟩
  refine (zq_iload_n dX11_lose_29 rfl).mpr ?_
  refine (zq_aload_n dX11_lose_30 rfl).mpr ?_
  refine (zq_getR2 (f := 719) (v := (mR m1 719 a0)) dX11_lose_31 fl_11_49 (by decide) rfl rfl (by first | rfl | simp only [zm_Is, zm_Rs, zm_As, zm_Os, zm_In0, zm_Rn0])).mpr ⟨g4, ?_⟩
  refine (zq_iload_n dX11_lose_34 rfl).mpr ?_
  obtain ⟨g7, h⟩ := h
  obtain ⟨g8, h⟩ := h
  refine (zq_iald2 (v := (mA (sA m1 (mR m1 723 a0) (Int.toNat a1) (wr ((mA m1 (mR m1 723 a0) (Int.toNat a1)) + 1))) (mR m1 719 a0) (Int.toNat a1))) dX11_lose_35 (by first | rfl | simp only [zm_Is, zm_Rs, zm_As, zm_Os, zm_In0, zm_Rn0])).mpr ⟨⟨g7, g8⟩, ?_⟩
  obtain ⟨g9, h⟩ := h
  obtain ⟨g10, h⟩ := h
  refine (zq_iast dX11_lose_36).mpr ⟨⟨g10, g9⟩, ?_⟩
  refine (zq_aload_n dX11_lose_37 rfl).mpr ?_
  refine (zq_getR2 (f := 720) (v := (mR m1 720 a0)) dX11_lose_38 fl_11_52 (by decide) rfl rfl (by first | rfl | simp only [zm_Is, zm_Rs, zm_As, zm_Os, zm_In0, zm_Rn0])).mpr ⟨g4, ?_⟩
  refine (zq_iload_n dX11_lose_41 rfl).mpr ?_
  refine (zq_iconst (v := 0) dX11_lose_42 (by decide)).mpr ?_
  obtain ⟨g11, h⟩ := h
  obtain ⟨g12, h⟩ := h
  refine (zq_iast dX11_lose_43).mpr ⟨⟨g12, g11⟩, ?_⟩
  refine (zq_iconst (v := 0) dX11_lose_44 (by decide)).mpr ?_
  exact (zq_iret dX11_lose_45 rfl).mpr ⟨Or.inl rfl, h⟩
theorem bX11_finish_0 {a0 : Nat} {a1 : Int} (h : (mC m a0 = 12) ∧ (0 ≤ a1 ∧ a1 < mN m (mR m 714 a0)) ∧ (mC m (mR m 714 a0) = 21) ∧ ((40 ≤ (mI m 736 a0) → Q (.inl none) (sI (sA m (mR m 714 a0) (Int.toNat a1) 0) 736 a0 (wr ((mI m 736 a0) + 1)))) ∧ (¬ (40 ≤ (mI m 736 a0)) → (∀ m4 : zM, m4 = nwA (sA m (mR m 714 a0) (Int.toNat a1) 0) 20 6 → ((0 : Int) < mN m4 (mz m)) ∧ (mC m4 (mz m) = 20) ∧ (mC m4 a0 = 12) ∧ (mC m4 (mR m4 713 a0) = 20) ∧ (0 ≤ a1 ∧ a1 < mN m4 (mR m4 713 a0)) ∧ ((1 : Int) < mN m4 (mz m)) ∧ (mC m4 (mR m4 721 a0) = 20) ∧ (0 ≤ a1 ∧ a1 < mN m4 (mR m4 721 a0)) ∧ ((2 : Int) < mN m4 (mz m)) ∧ (mC m4 (mR m4 722 a0) = 20) ∧ (0 ≤ a1 ∧ a1 < mN m4 (mR m4 722 a0)) ∧ ((3 : Int) < mN m4 (mz m)) ∧ (mC m4 (mR m4 724 a0) = 20) ∧ (0 ≤ a1 ∧ a1 < mN m4 (mR m4 724 a0)) ∧ ((4 : Int) < mN m4 (mz m)) ∧ ((5 : Int) < mN m4 (mz m)) ∧ (0 ≤ (6 : Int) ∧ 0 ≤ (wr (6 * (mI m4 736 a0))) ∧ 0 ≤ (0 : Int) ∧ (0 : Int) + (6 : Int) ≤ mN m4 (mz m) ∧ (wr (6 * (mI m4 736 a0))) + (6 : Int) ≤ mN m4 (mR m4 739 a0) ∧ mC m4 (mz m) = mC m4 (mR m4 739 a0) ∧ (mC m4 (mz m) = 20 ∨ (mC m4 (mz m) = 21 ∧ ∀ j : Nat, (0 : Int) ≤ j → j < (0 : Int) + (6 : Int) → mA (sA (sA (sA (sA (sA (sA m4 (mz m) 0 a1) (mz m) 1 (mA (sA m4 (mz m) 0 a1) (mR m4 713 a0) (Int.toNat a1))) (mz m) 2 (mA (sA (sA m4 (mz m) 0 a1) (mz m) 1 (mA (sA m4 (mz m) 0 a1) (mR m4 713 a0) (Int.toNat a1))) (mR m4 721 a0) (Int.toNat a1))) (mz m) 3 (mA (sA (sA (sA m4 (mz m) 0 a1) (mz m) 1 (mA (sA m4 (mz m) 0 a1) (mR m4 713 a0) (Int.toNat a1))) (mz m) 2 (mA (sA (sA m4 (mz m) 0 a1) (mz m) 1 (mA (sA m4 (mz m) 0 a1) (mR m4 713 a0) (Int.toNat a1))) (mR m4 721 a0) (Int.toNat a1))) (mR m4 722 a0) (Int.toNat a1))) (mz m) 4 (mA (sA (sA (sA (sA m4 (mz m) 0 a1) (mz m) 1 (mA (sA m4 (mz m) 0 a1) (mR m4 713 a0) (Int.toNat a1))) (mz m) 2 (mA (sA (sA m4 (mz m) 0 a1) (mz m) 1 (mA (sA m4 (mz m) 0 a1) (mR m4 713 a0) (Int.toNat a1))) (mR m4 721 a0) (Int.toNat a1))) (mz m) 3 (mA (sA (sA (sA m4 (mz m) 0 a1) (mz m) 1 (mA (sA m4 (mz m) 0 a1) (mR m4 713 a0) (Int.toNat a1))) (mz m) 2 (mA (sA (sA m4 (mz m) 0 a1) (mz m) 1 (mA (sA m4 (mz m) 0 a1) (mR m4 713 a0) (Int.toNat a1))) (mR m4 721 a0) (Int.toNat a1))) (mR m4 722 a0) (Int.toNat a1))) (mR m4 724 a0) (Int.toNat a1))) (mz m) 5 (mI m4 704 a0)) (mz m) j = 0 ∨ mA (sA (sA (sA (sA (sA (sA m4 (mz m) 0 a1) (mz m) 1 (mA (sA m4 (mz m) 0 a1) (mR m4 713 a0) (Int.toNat a1))) (mz m) 2 (mA (sA (sA m4 (mz m) 0 a1) (mz m) 1 (mA (sA m4 (mz m) 0 a1) (mR m4 713 a0) (Int.toNat a1))) (mR m4 721 a0) (Int.toNat a1))) (mz m) 3 (mA (sA (sA (sA m4 (mz m) 0 a1) (mz m) 1 (mA (sA m4 (mz m) 0 a1) (mR m4 713 a0) (Int.toNat a1))) (mz m) 2 (mA (sA (sA m4 (mz m) 0 a1) (mz m) 1 (mA (sA m4 (mz m) 0 a1) (mR m4 713 a0) (Int.toNat a1))) (mR m4 721 a0) (Int.toNat a1))) (mR m4 722 a0) (Int.toNat a1))) (mz m) 4 (mA (sA (sA (sA (sA m4 (mz m) 0 a1) (mz m) 1 (mA (sA m4 (mz m) 0 a1) (mR m4 713 a0) (Int.toNat a1))) (mz m) 2 (mA (sA (sA m4 (mz m) 0 a1) (mz m) 1 (mA (sA m4 (mz m) 0 a1) (mR m4 713 a0) (Int.toNat a1))) (mR m4 721 a0) (Int.toNat a1))) (mz m) 3 (mA (sA (sA (sA m4 (mz m) 0 a1) (mz m) 1 (mA (sA m4 (mz m) 0 a1) (mR m4 713 a0) (Int.toNat a1))) (mz m) 2 (mA (sA (sA m4 (mz m) 0 a1) (mz m) 1 (mA (sA m4 (mz m) 0 a1) (mR m4 713 a0) (Int.toNat a1))) (mR m4 721 a0) (Int.toNat a1))) (mR m4 722 a0) (Int.toNat a1))) (mR m4 724 a0) (Int.toNat a1))) (mz m) 5 (mI m4 704 a0)) (mz m) j = 1)) ∧ (mz m) ≠ (mR m4 739 a0)) ∧ Q (.inl none) (sI (cpA (sA (sA (sA (sA (sA (sA m4 (mz m) 0 a1) (mz m) 1 (mA (sA m4 (mz m) 0 a1) (mR m4 713 a0) (Int.toNat a1))) (mz m) 2 (mA (sA (sA m4 (mz m) 0 a1) (mz m) 1 (mA (sA m4 (mz m) 0 a1) (mR m4 713 a0) (Int.toNat a1))) (mR m4 721 a0) (Int.toNat a1))) (mz m) 3 (mA (sA (sA (sA m4 (mz m) 0 a1) (mz m) 1 (mA (sA m4 (mz m) 0 a1) (mR m4 713 a0) (Int.toNat a1))) (mz m) 2 (mA (sA (sA m4 (mz m) 0 a1) (mz m) 1 (mA (sA m4 (mz m) 0 a1) (mR m4 713 a0) (Int.toNat a1))) (mR m4 721 a0) (Int.toNat a1))) (mR m4 722 a0) (Int.toNat a1))) (mz m) 4 (mA (sA (sA (sA (sA m4 (mz m) 0 a1) (mz m) 1 (mA (sA m4 (mz m) 0 a1) (mR m4 713 a0) (Int.toNat a1))) (mz m) 2 (mA (sA (sA m4 (mz m) 0 a1) (mz m) 1 (mA (sA m4 (mz m) 0 a1) (mR m4 713 a0) (Int.toNat a1))) (mR m4 721 a0) (Int.toNat a1))) (mz m) 3 (mA (sA (sA (sA m4 (mz m) 0 a1) (mz m) 1 (mA (sA m4 (mz m) 0 a1) (mR m4 713 a0) (Int.toNat a1))) (mz m) 2 (mA (sA (sA m4 (mz m) 0 a1) (mz m) 1 (mA (sA m4 (mz m) 0 a1) (mR m4 713 a0) (Int.toNat a1))) (mR m4 721 a0) (Int.toNat a1))) (mR m4 722 a0) (Int.toNat a1))) (mR m4 724 a0) (Int.toNat a1))) (mz m) 5 (mI m4 704 a0)) (mz m) 0 (mR m4 739 a0) (Int.toNat (wr (6 * (mI m4 736 a0)))) 6) 736 a0 (wr ((mI m4 736 a0) + 1))))))) : zC xs xl (d + 1) 157 [zR a0, zI a1] m Q := by
  refine zk_157 ?_
  refine (zq_aload_n dX11_finish_0 rfl).mpr ?_
  obtain ⟨g1, h⟩ := h
  refine (zq_getR2 (f := 714) (v := (mR m 714 a0)) dX11_finish_1 fl_11_33 (by decide) rfl rfl (by first | rfl | simp only [zm_Is, zm_Rs, zm_As, zm_Os, zm_In0, zm_Rn0])).mpr ⟨g1, ?_⟩
  refine (zq_iload_n dX11_finish_4 rfl).mpr ?_
  refine (zq_iconst (v := 0) dX11_finish_5 (by decide)).mpr ?_
  obtain ⟨g2, h⟩ := h
  obtain ⟨g3, h⟩ := h
  refine (zq_bast dX11_finish_6).mpr ⟨⟨Or.inl ⟨g3, Or.inl rfl⟩, g2⟩, ?_⟩
  refine (zq_aload_n dX11_finish_7 rfl).mpr ?_
  refine (zq_getI2 (f := 736) (v := (mI m 736 a0)) dX11_finish_8 fl_11_119 (by decide) rfl rfl (by first | rfl | simp only [zm_Is, zm_Rs, zm_As, zm_Os, zm_In0, zm_Rn0])).mpr ⟨g1, ?_⟩
  refine (zq_bipush (v := 40) dX11_finish_11 (by decide)).mpr ?_
  refine (zq_icmp_ge (t := 86) dX11_finish_13 rfl).mpr ⟨fun c => ?_, fun c => ?_⟩
  · replace h := h.1 c
    refine (zq_aload_n dX11_finish_86 rfl).mpr ?_
    refine (zq_dupR dX11_finish_87).mpr ?_
    refine (zq_getI2 (f := 736) (v := (mI m 736 a0)) dX11_finish_88 fl_11_119 (by decide) rfl rfl (by first | rfl | simp only [zm_Is, zm_Rs, zm_As, zm_Os, zm_In0, zm_Rn0])).mpr ⟨g1, ?_⟩
    refine (zq_iconst (v := 1) dX11_finish_91 (by decide)).mpr ?_
    refine (zq_iadd dX11_finish_92).mpr ?_
    refine (zq_putI (f := 736) dX11_finish_93 fl_11_119 (by decide) rfl rfl rfl).mpr ⟨g1, ?_⟩
    exact (zq_ret dX11_finish_96 rfl).mpr h
  · replace h := h.2 c
    refine (zq_bipush (v := 6) dX11_finish_16 (by decide)).mpr ?_
    refine zq_newarray2 (kd := 20) (i := 6) dX11_finish_18 rfl (by decide) rfl ⟨by decide, by decide⟩ (fun m4 em4 => ?_)
    replace h := h m4 em4
    refine (zq_dupR dX11_finish_20).mpr ?_
    refine (zq_iconst (v := 0) dX11_finish_21 (by decide)).mpr ?_
    refine (zq_iload_n dX11_finish_22 rfl).mpr ?_
    obtain ⟨g5, h⟩ := h
    obtain ⟨g6, h⟩ := h
    refine (zq_iast dX11_finish_23).mpr ⟨⟨g6, ⟨by decide, g5⟩⟩, ?_⟩
    refine (zq_dupR dX11_finish_24).mpr ?_
    refine (zq_iconst (v := 1) dX11_finish_25 (by decide)).mpr ?_
    refine (zq_aload_n dX11_finish_26 rfl).mpr ?_
    obtain ⟨g7, h⟩ := h
    refine (zq_getR2 (f := 713) (v := (mR m4 713 a0)) dX11_finish_27 fl_11_30 (by decide) rfl rfl (by first | rfl | simp only [zm_Is, zm_Rs, zm_As, zm_Os, zm_In0, zm_Rn0])).mpr ⟨g7, ?_⟩
    refine (zq_iload_n dX11_finish_30 rfl).mpr ?_
    obtain ⟨g8, h⟩ := h
    obtain ⟨g9, h⟩ := h
    refine (zq_iald2 (v := (mA (sA m4 (mz m) 0 a1) (mR m4 713 a0) (Int.toNat a1))) dX11_finish_31 (by first | rfl | simp only [zm_Is, zm_Rs, zm_As, zm_Os, zm_In0, zm_Rn0])).mpr ⟨⟨g8, g9⟩, ?_⟩
    obtain ⟨g10, h⟩ := h
    refine (zq_iast dX11_finish_32).mpr ⟨⟨g6, ⟨by decide, g10⟩⟩, ?_⟩
    refine (zq_dupR dX11_finish_33).mpr ?_
    refine (zq_iconst (v := 2) dX11_finish_34 (by decide)).mpr ?_
    refine (zq_aload_n dX11_finish_35 rfl).mpr ?_
    refine (zq_getR2 (f := 721) (v := (mR m4 721 a0)) dX11_finish_36 fl_11_55 (by decide) rfl rfl (by first | rfl | simp only [zm_Is, zm_Rs, zm_As, zm_Os, zm_In0, zm_Rn0])).mpr ⟨g7, ?_⟩
    refine (zq_iload_n dX11_finish_39 rfl).mpr ?_
    obtain ⟨g11, h⟩ := h
    obtain ⟨g12, h⟩ := h
    refine (zq_iald2 (v := (mA (sA (sA m4 (mz m) 0 a1) (mz m) 1 (mA (sA m4 (mz m) 0 a1) (mR m4 713 a0) (Int.toNat a1))) (mR m4 721 a0) (Int.toNat a1))) dX11_finish_40 (by first | rfl | simp only [zm_Is, zm_Rs, zm_As, zm_Os, zm_In0, zm_Rn0])).mpr ⟨⟨g11, g12⟩, ?_⟩
    obtain ⟨g13, h⟩ := h
    refine (zq_iast dX11_finish_41).mpr ⟨⟨g6, ⟨by decide, g13⟩⟩, ?_⟩
    refine (zq_dupR dX11_finish_42).mpr ?_
    refine (zq_iconst (v := 3) dX11_finish_43 (by decide)).mpr ?_
    refine (zq_aload_n dX11_finish_44 rfl).mpr ?_
    refine (zq_getR2 (f := 722) (v := (mR m4 722 a0)) dX11_finish_45 fl_11_58 (by decide) rfl rfl (by first | rfl | simp only [zm_Is, zm_Rs, zm_As, zm_Os, zm_In0, zm_Rn0])).mpr ⟨g7, ?_⟩
    refine (zq_iload_n dX11_finish_48 rfl).mpr ?_
    obtain ⟨g14, h⟩ := h
    obtain ⟨g15, h⟩ := h
    refine (zq_iald2 (v := (mA (sA (sA (sA m4 (mz m) 0 a1) (mz m) 1 (mA (sA m4 (mz m) 0 a1) (mR m4 713 a0) (Int.toNat a1))) (mz m) 2 (mA (sA (sA m4 (mz m) 0 a1) (mz m) 1 (mA (sA m4 (mz m) 0 a1) (mR m4 713 a0) (Int.toNat a1))) (mR m4 721 a0) (Int.toNat a1))) (mR m4 722 a0) (Int.toNat a1))) dX11_finish_49 (by first | rfl | simp only [zm_Is, zm_Rs, zm_As, zm_Os, zm_In0, zm_Rn0])).mpr ⟨⟨g14, g15⟩, ?_⟩
    obtain ⟨g16, h⟩ := h
    refine (zq_iast dX11_finish_50).mpr ⟨⟨g6, ⟨by decide, g16⟩⟩, ?_⟩
    refine (zq_dupR dX11_finish_51).mpr ?_
    refine (zq_iconst (v := 4) dX11_finish_52 (by decide)).mpr ?_
    refine (zq_aload_n dX11_finish_53 rfl).mpr ?_
    refine (zq_getR2 (f := 724) (v := (mR m4 724 a0)) dX11_finish_54 fl_11_64 (by decide) rfl rfl (by first | rfl | simp only [zm_Is, zm_Rs, zm_As, zm_Os, zm_In0, zm_Rn0])).mpr ⟨g7, ?_⟩
    refine (zq_iload_n dX11_finish_57 rfl).mpr ?_
    obtain ⟨g17, h⟩ := h
    obtain ⟨g18, h⟩ := h
    refine (zq_iald2 (v := (mA (sA (sA (sA (sA m4 (mz m) 0 a1) (mz m) 1 (mA (sA m4 (mz m) 0 a1) (mR m4 713 a0) (Int.toNat a1))) (mz m) 2 (mA (sA (sA m4 (mz m) 0 a1) (mz m) 1 (mA (sA m4 (mz m) 0 a1) (mR m4 713 a0) (Int.toNat a1))) (mR m4 721 a0) (Int.toNat a1))) (mz m) 3 (mA (sA (sA (sA m4 (mz m) 0 a1) (mz m) 1 (mA (sA m4 (mz m) 0 a1) (mR m4 713 a0) (Int.toNat a1))) (mz m) 2 (mA (sA (sA m4 (mz m) 0 a1) (mz m) 1 (mA (sA m4 (mz m) 0 a1) (mR m4 713 a0) (Int.toNat a1))) (mR m4 721 a0) (Int.toNat a1))) (mR m4 722 a0) (Int.toNat a1))) (mR m4 724 a0) (Int.toNat a1))) dX11_finish_58 (by first | rfl | simp only [zm_Is, zm_Rs, zm_As, zm_Os, zm_In0, zm_Rn0])).mpr ⟨⟨g17, g18⟩, ?_⟩
    obtain ⟨g19, h⟩ := h
    refine (zq_iast dX11_finish_59).mpr ⟨⟨g6, ⟨by decide, g19⟩⟩, ?_⟩
    refine (zq_dupR dX11_finish_60).mpr ?_
    refine (zq_iconst (v := 5) dX11_finish_61 (by decide)).mpr ?_
    refine (zq_aload_n dX11_finish_62 rfl).mpr ?_
    refine (zq_getI2 (f := 704) (v := (mI m4 704 a0)) dX11_finish_63 fl_11_109 (by decide) rfl rfl (by first | rfl | simp only [zm_Is, zm_Rs, zm_As, zm_Os, zm_In0, zm_Rn0])).mpr ⟨g7, ?_⟩
    obtain ⟨g20, h⟩ := h
    refine (zq_iast dX11_finish_66).mpr ⟨⟨g6, ⟨by decide, g20⟩⟩, ?_⟩
    refine (zq_astore_n (l := [zR a0, zI a1, zR (mz m)]) dX11_finish_67 (Nat.le_of_ble_eq_true rfl) rfl).mpr ?_
    refine (zq_aload_n dX11_finish_68 rfl).mpr ?_
    refine (zq_iconst (v := 0) dX11_finish_69 (by decide)).mpr ?_
    refine (zq_aload_n dX11_finish_70 rfl).mpr ?_
    refine (zq_getR2 (f := 739) (v := (mR m4 739 a0)) dX11_finish_71 fl_11_100 (by decide) rfl rfl (by first | rfl | simp only [zm_Is, zm_Rs, zm_As, zm_Os, zm_In0, zm_Rn0])).mpr ⟨g7, ?_⟩
    refine (zq_bipush (v := 6) dX11_finish_74 (by decide)).mpr ?_
    refine (zq_aload_n dX11_finish_76 rfl).mpr ?_
    refine (zq_getI2 (f := 736) (v := (mI m4 736 a0)) dX11_finish_77 fl_11_119 (by decide) rfl rfl (by first | rfl | simp only [zm_Is, zm_Rs, zm_As, zm_Os, zm_In0, zm_Rn0])).mpr ⟨g7, ?_⟩
    refine (zq_imul dX11_finish_80).mpr ?_
    refine (zq_bipush (v := 6) dX11_finish_81 (by decide)).mpr ?_
    obtain ⟨g21, h⟩ := h
    refine (zq_copy dX11_finish_83 mr_11_103).mpr ⟨⟨g21.1, g21.2.1, g21.2.2.1, g21.2.2.2.1, g21.2.2.2.2.1, g21.2.2.2.2.2.1, g21.2.2.2.2.2.2.1, g21.2.2.2.2.2.2.2, (Nat.le_of_ble_eq_true rfl)⟩, ?_⟩
    refine (zq_aload_n dX11_finish_86 rfl).mpr ?_
    refine (zq_dupR dX11_finish_87).mpr ?_
    refine (zq_getI2 (f := 736) (v := (mI m4 736 a0)) dX11_finish_88 fl_11_119 (by decide) rfl rfl (by first | rfl | simp only [zm_Is, zm_Rs, zm_As, zm_Os, zm_In0, zm_Rn0])).mpr ⟨g7, ?_⟩
    refine (zq_iconst (v := 1) dX11_finish_91 (by decide)).mpr ?_
    refine (zq_iadd dX11_finish_92).mpr ?_
    refine (zq_putI (f := 736) dX11_finish_93 fl_11_119 (by decide) rfl rfl rfl).mpr ⟨g7, ?_⟩
    exact (zq_ret dX11_finish_96 rfl).mpr h
theorem bX11_slip_0 {a0 : Nat} {a1 : Int} {a2 : Int} (h : (∀ m1 : zM, m1 = nwA m 20 15 → (mC m1 a0 = 12) ∧ (mC m1 (mR m1 714 a0) = 21 ∨ mC m1 (mR m1 714 a0) = 22) ∧ (0 ≤ a1 ∧ a1 < mN m1 (mR m1 714 a0)) ∧ (((mA m1 (mR m1 714 a0) (Int.toNat a1)) = 0 → zW xs xl d cX11_slip 11 (some .int) false [] 20 [zR a0, zI a1, zI a2, zU] [zI 0, zI 0, zR (mz m), zR (mz m)] m1 Q) ∧ (¬ ((mA m1 (mR m1 714 a0) (Int.toNat a1)) = 0) → zW xs xl d cX11_slip 11 (some .int) false [] 20 [zR a0, zI a1, zI a2, zU] [zI 1, zI 0, zR (mz m), zR (mz m)] m1 Q)))) : zC xs xl (d + 1) 158 [zR a0, zI a1, zI a2] m Q := by
  refine zk_158 ?_
  refine (zq_bipush (v := 15) dX11_slip_0 (by decide)).mpr ?_
  refine zq_newarray2 (kd := 20) (i := 15) dX11_slip_2 rfl (by decide) rfl ⟨by decide, by decide⟩ (fun m1 em1 => ?_)
  replace h := h m1 em1
  refine (zq_dupR dX11_slip_4).mpr ?_
  refine (zq_iconst (v := 0) dX11_slip_5 (by decide)).mpr ?_
  refine (zq_aload_n dX11_slip_6 rfl).mpr ?_
  obtain ⟨g2, h⟩ := h
  refine (zq_getR2 (f := 714) (v := (mR m1 714 a0)) dX11_slip_7 fl_11_33 (by decide) rfl rfl (by first | rfl | simp only [zm_Is, zm_Rs, zm_As, zm_Os, zm_In0, zm_Rn0])).mpr ⟨g2, ?_⟩
  refine (zq_iload_n dX11_slip_10 rfl).mpr ?_
  obtain ⟨g3, h⟩ := h
  obtain ⟨g4, h⟩ := h
  refine (zq_bald2 (v := (mA m1 (mR m1 714 a0) (Int.toNat a1))) dX11_slip_11 (by first | rfl | simp only [zm_Is, zm_Rs, zm_As, zm_Os, zm_In0, zm_Rn0])).mpr ⟨⟨g3, g4⟩, ?_⟩
  refine (zq_if_eq (t := 19) dX11_slip_12 rfl).mpr ⟨fun c => ?_, fun c => ?_⟩
  · replace h := h.1 c
    refine (zq_iconst (v := 0) dX11_slip_19 (by decide)).mpr ?_
    exact h
  · replace h := h.2 c
    refine (zq_iconst (v := 1) dX11_slip_15 (by decide)).mpr ?_
    refine (zq_goto (t := 20) dX11_slip_16 rfl).mpr ?_
    exact h
theorem bX11_slip_20 {a0 : Nat} {a1 : Int} {a2 : Int} {a3 : zV} {s0 : Nat} {s1 : Nat} {s2 : Int} {s3 : Int} (h : (0 ≤ s2 ∧ s2 < mN m s1) ∧ (mC m s1 = 20) ∧ (mC m a0 = 12) ∧ (mC m (mR m 713 a0) = 20) ∧ (0 ≤ a1 ∧ a1 < mN m (mR m 713 a0)) ∧ ((1 : Int) < mN m s0) ∧ (mC m s0 = 20) ∧ (mC m (mR m 718 a0) = 20) ∧ (0 ≤ a1 ∧ a1 < mN m (mR m 718 a0)) ∧ ((2 : Int) < mN m s0) ∧ (mC m (mR m 721 a0) = 20) ∧ (0 ≤ a1 ∧ a1 < mN m (mR m 721 a0)) ∧ ((3 : Int) < mN m s0) ∧ (mC m (mR m 722 a0) = 20) ∧ (0 ≤ a1 ∧ a1 < mN m (mR m 722 a0)) ∧ ((4 : Int) < mN m s0) ∧ (mC m (mR m 729 a0) = 21 ∨ mC m (mR m 729 a0) = 22) ∧ (0 ≤ a1 ∧ a1 < mN m (mR m 729 a0)) ∧ (((mA (sA (sA (sA (sA (sA m s1 (Int.toNat s2) s3) s0 1 (mA (sA m s1 (Int.toNat s2) s3) (mR m 713 a0) (Int.toNat a1))) s0 2 (mA (sA (sA m s1 (Int.toNat s2) s3) s0 1 (mA (sA m s1 (Int.toNat s2) s3) (mR m 713 a0) (Int.toNat a1))) (mR m 718 a0) (Int.toNat a1))) s0 3 (mA (sA (sA (sA m s1 (Int.toNat s2) s3) s0 1 (mA (sA m s1 (Int.toNat s2) s3) (mR m 713 a0) (Int.toNat a1))) s0 2 (mA (sA (sA m s1 (Int.toNat s2) s3) s0 1 (mA (sA m s1 (Int.toNat s2) s3) (mR m 713 a0) (Int.toNat a1))) (mR m 718 a0) (Int.toNat a1))) (mR m 721 a0) (Int.toNat a1))) s0 4 (mA (sA (sA (sA (sA m s1 (Int.toNat s2) s3) s0 1 (mA (sA m s1 (Int.toNat s2) s3) (mR m 713 a0) (Int.toNat a1))) s0 2 (mA (sA (sA m s1 (Int.toNat s2) s3) s0 1 (mA (sA m s1 (Int.toNat s2) s3) (mR m 713 a0) (Int.toNat a1))) (mR m 718 a0) (Int.toNat a1))) s0 3 (mA (sA (sA (sA m s1 (Int.toNat s2) s3) s0 1 (mA (sA m s1 (Int.toNat s2) s3) (mR m 713 a0) (Int.toNat a1))) s0 2 (mA (sA (sA m s1 (Int.toNat s2) s3) s0 1 (mA (sA m s1 (Int.toNat s2) s3) (mR m 713 a0) (Int.toNat a1))) (mR m 718 a0) (Int.toNat a1))) (mR m 721 a0) (Int.toNat a1))) (mR m 722 a0) (Int.toNat a1))) (mR m 729 a0) (Int.toNat a1)) = 0 → zW xs xl d cX11_slip 11 (some .int) false [] 73 [zR a0, zI a1, zI a2, a3] [zI 0, zI 5, zR s0, zR s0] (sA (sA (sA (sA (sA m s1 (Int.toNat s2) s3) s0 1 (mA (sA m s1 (Int.toNat s2) s3) (mR m 713 a0) (Int.toNat a1))) s0 2 (mA (sA (sA m s1 (Int.toNat s2) s3) s0 1 (mA (sA m s1 (Int.toNat s2) s3) (mR m 713 a0) (Int.toNat a1))) (mR m 718 a0) (Int.toNat a1))) s0 3 (mA (sA (sA (sA m s1 (Int.toNat s2) s3) s0 1 (mA (sA m s1 (Int.toNat s2) s3) (mR m 713 a0) (Int.toNat a1))) s0 2 (mA (sA (sA m s1 (Int.toNat s2) s3) s0 1 (mA (sA m s1 (Int.toNat s2) s3) (mR m 713 a0) (Int.toNat a1))) (mR m 718 a0) (Int.toNat a1))) (mR m 721 a0) (Int.toNat a1))) s0 4 (mA (sA (sA (sA (sA m s1 (Int.toNat s2) s3) s0 1 (mA (sA m s1 (Int.toNat s2) s3) (mR m 713 a0) (Int.toNat a1))) s0 2 (mA (sA (sA m s1 (Int.toNat s2) s3) s0 1 (mA (sA m s1 (Int.toNat s2) s3) (mR m 713 a0) (Int.toNat a1))) (mR m 718 a0) (Int.toNat a1))) s0 3 (mA (sA (sA (sA m s1 (Int.toNat s2) s3) s0 1 (mA (sA m s1 (Int.toNat s2) s3) (mR m 713 a0) (Int.toNat a1))) s0 2 (mA (sA (sA m s1 (Int.toNat s2) s3) s0 1 (mA (sA m s1 (Int.toNat s2) s3) (mR m 713 a0) (Int.toNat a1))) (mR m 718 a0) (Int.toNat a1))) (mR m 721 a0) (Int.toNat a1))) (mR m 722 a0) (Int.toNat a1))) Q) ∧ (¬ ((mA (sA (sA (sA (sA (sA m s1 (Int.toNat s2) s3) s0 1 (mA (sA m s1 (Int.toNat s2) s3) (mR m 713 a0) (Int.toNat a1))) s0 2 (mA (sA (sA m s1 (Int.toNat s2) s3) s0 1 (mA (sA m s1 (Int.toNat s2) s3) (mR m 713 a0) (Int.toNat a1))) (mR m 718 a0) (Int.toNat a1))) s0 3 (mA (sA (sA (sA m s1 (Int.toNat s2) s3) s0 1 (mA (sA m s1 (Int.toNat s2) s3) (mR m 713 a0) (Int.toNat a1))) s0 2 (mA (sA (sA m s1 (Int.toNat s2) s3) s0 1 (mA (sA m s1 (Int.toNat s2) s3) (mR m 713 a0) (Int.toNat a1))) (mR m 718 a0) (Int.toNat a1))) (mR m 721 a0) (Int.toNat a1))) s0 4 (mA (sA (sA (sA (sA m s1 (Int.toNat s2) s3) s0 1 (mA (sA m s1 (Int.toNat s2) s3) (mR m 713 a0) (Int.toNat a1))) s0 2 (mA (sA (sA m s1 (Int.toNat s2) s3) s0 1 (mA (sA m s1 (Int.toNat s2) s3) (mR m 713 a0) (Int.toNat a1))) (mR m 718 a0) (Int.toNat a1))) s0 3 (mA (sA (sA (sA m s1 (Int.toNat s2) s3) s0 1 (mA (sA m s1 (Int.toNat s2) s3) (mR m 713 a0) (Int.toNat a1))) s0 2 (mA (sA (sA m s1 (Int.toNat s2) s3) s0 1 (mA (sA m s1 (Int.toNat s2) s3) (mR m 713 a0) (Int.toNat a1))) (mR m 718 a0) (Int.toNat a1))) (mR m 721 a0) (Int.toNat a1))) (mR m 722 a0) (Int.toNat a1))) (mR m 729 a0) (Int.toNat a1)) = 0) → zW xs xl d cX11_slip 11 (some .int) false [] 73 [zR a0, zI a1, zI a2, a3] [zI 1, zI 5, zR s0, zR s0] (sA (sA (sA (sA (sA m s1 (Int.toNat s2) s3) s0 1 (mA (sA m s1 (Int.toNat s2) s3) (mR m 713 a0) (Int.toNat a1))) s0 2 (mA (sA (sA m s1 (Int.toNat s2) s3) s0 1 (mA (sA m s1 (Int.toNat s2) s3) (mR m 713 a0) (Int.toNat a1))) (mR m 718 a0) (Int.toNat a1))) s0 3 (mA (sA (sA (sA m s1 (Int.toNat s2) s3) s0 1 (mA (sA m s1 (Int.toNat s2) s3) (mR m 713 a0) (Int.toNat a1))) s0 2 (mA (sA (sA m s1 (Int.toNat s2) s3) s0 1 (mA (sA m s1 (Int.toNat s2) s3) (mR m 713 a0) (Int.toNat a1))) (mR m 718 a0) (Int.toNat a1))) (mR m 721 a0) (Int.toNat a1))) s0 4 (mA (sA (sA (sA (sA m s1 (Int.toNat s2) s3) s0 1 (mA (sA m s1 (Int.toNat s2) s3) (mR m 713 a0) (Int.toNat a1))) s0 2 (mA (sA (sA m s1 (Int.toNat s2) s3) s0 1 (mA (sA m s1 (Int.toNat s2) s3) (mR m 713 a0) (Int.toNat a1))) (mR m 718 a0) (Int.toNat a1))) s0 3 (mA (sA (sA (sA m s1 (Int.toNat s2) s3) s0 1 (mA (sA m s1 (Int.toNat s2) s3) (mR m 713 a0) (Int.toNat a1))) s0 2 (mA (sA (sA m s1 (Int.toNat s2) s3) s0 1 (mA (sA m s1 (Int.toNat s2) s3) (mR m 713 a0) (Int.toNat a1))) (mR m 718 a0) (Int.toNat a1))) (mR m 721 a0) (Int.toNat a1))) (mR m 722 a0) (Int.toNat a1))) Q))) : zW xs xl d cX11_slip 11 (some .int) false [] 20 [zR a0, zI a1, zI a2, a3] [zI s3, zI s2, zR s1, zR s0] m Q := by
  obtain ⟨g1, h⟩ := h
  obtain ⟨g2, h⟩ := h
  refine (zq_iast dX11_slip_20).mpr ⟨⟨g2, g1⟩, ?_⟩
  refine (zq_dupR dX11_slip_21).mpr ?_
  refine (zq_iconst (v := 1) dX11_slip_22 (by decide)).mpr ?_
  refine (zq_aload_n dX11_slip_23 rfl).mpr ?_
  obtain ⟨g3, h⟩ := h
  refine (zq_getR2 (f := 713) (v := (mR m 713 a0)) dX11_slip_24 fl_11_30 (by decide) rfl rfl (by first | rfl | simp only [zm_Is, zm_Rs, zm_As, zm_Os, zm_In0, zm_Rn0])).mpr ⟨g3, ?_⟩
  refine (zq_iload_n dX11_slip_27 rfl).mpr ?_
  obtain ⟨g4, h⟩ := h
  obtain ⟨g5, h⟩ := h
  refine (zq_iald2 (v := (mA (sA m s1 (Int.toNat s2) s3) (mR m 713 a0) (Int.toNat a1))) dX11_slip_28 (by first | rfl | simp only [zm_Is, zm_Rs, zm_As, zm_Os, zm_In0, zm_Rn0])).mpr ⟨⟨g4, g5⟩, ?_⟩
  obtain ⟨g6, h⟩ := h
  obtain ⟨g7, h⟩ := h
  refine (zq_iast dX11_slip_29).mpr ⟨⟨g7, ⟨by decide, g6⟩⟩, ?_⟩
  refine (zq_dupR dX11_slip_30).mpr ?_
  refine (zq_iconst (v := 2) dX11_slip_31 (by decide)).mpr ?_
  refine (zq_aload_n dX11_slip_32 rfl).mpr ?_
  refine (zq_getR2 (f := 718) (v := (mR m 718 a0)) dX11_slip_33 fl_11_46 (by decide) rfl rfl (by first | rfl | simp only [zm_Is, zm_Rs, zm_As, zm_Os, zm_In0, zm_Rn0])).mpr ⟨g3, ?_⟩
  refine (zq_iload_n dX11_slip_36 rfl).mpr ?_
  obtain ⟨g8, h⟩ := h
  obtain ⟨g9, h⟩ := h
  refine (zq_iald2 (v := (mA (sA (sA m s1 (Int.toNat s2) s3) s0 1 (mA (sA m s1 (Int.toNat s2) s3) (mR m 713 a0) (Int.toNat a1))) (mR m 718 a0) (Int.toNat a1))) dX11_slip_37 (by first | rfl | simp only [zm_Is, zm_Rs, zm_As, zm_Os, zm_In0, zm_Rn0])).mpr ⟨⟨g8, g9⟩, ?_⟩
  obtain ⟨g10, h⟩ := h
  refine (zq_iast dX11_slip_38).mpr ⟨⟨g7, ⟨by decide, g10⟩⟩, ?_⟩
  refine (zq_dupR dX11_slip_39).mpr ?_
  refine (zq_iconst (v := 3) dX11_slip_40 (by decide)).mpr ?_
  refine (zq_aload_n dX11_slip_41 rfl).mpr ?_
  refine (zq_getR2 (f := 721) (v := (mR m 721 a0)) dX11_slip_42 fl_11_55 (by decide) rfl rfl (by first | rfl | simp only [zm_Is, zm_Rs, zm_As, zm_Os, zm_In0, zm_Rn0])).mpr ⟨g3, ?_⟩
  refine (zq_iload_n dX11_slip_45 rfl).mpr ?_
  obtain ⟨g11, h⟩ := h
  obtain ⟨g12, h⟩ := h
  refine (zq_iald2 (v := (mA (sA (sA (sA m s1 (Int.toNat s2) s3) s0 1 (mA (sA m s1 (Int.toNat s2) s3) (mR m 713 a0) (Int.toNat a1))) s0 2 (mA (sA (sA m s1 (Int.toNat s2) s3) s0 1 (mA (sA m s1 (Int.toNat s2) s3) (mR m 713 a0) (Int.toNat a1))) (mR m 718 a0) (Int.toNat a1))) (mR m 721 a0) (Int.toNat a1))) dX11_slip_46 (by first | rfl | simp only [zm_Is, zm_Rs, zm_As, zm_Os, zm_In0, zm_Rn0])).mpr ⟨⟨g11, g12⟩, ?_⟩
  obtain ⟨g13, h⟩ := h
  refine (zq_iast dX11_slip_47).mpr ⟨⟨g7, ⟨by decide, g13⟩⟩, ?_⟩
  refine (zq_dupR dX11_slip_48).mpr ?_
  refine (zq_iconst (v := 4) dX11_slip_49 (by decide)).mpr ?_
  refine (zq_aload_n dX11_slip_50 rfl).mpr ?_
  refine (zq_getR2 (f := 722) (v := (mR m 722 a0)) dX11_slip_51 fl_11_58 (by decide) rfl rfl (by first | rfl | simp only [zm_Is, zm_Rs, zm_As, zm_Os, zm_In0, zm_Rn0])).mpr ⟨g3, ?_⟩
  refine (zq_iload_n dX11_slip_54 rfl).mpr ?_
  obtain ⟨g14, h⟩ := h
  obtain ⟨g15, h⟩ := h
  refine (zq_iald2 (v := (mA (sA (sA (sA (sA m s1 (Int.toNat s2) s3) s0 1 (mA (sA m s1 (Int.toNat s2) s3) (mR m 713 a0) (Int.toNat a1))) s0 2 (mA (sA (sA m s1 (Int.toNat s2) s3) s0 1 (mA (sA m s1 (Int.toNat s2) s3) (mR m 713 a0) (Int.toNat a1))) (mR m 718 a0) (Int.toNat a1))) s0 3 (mA (sA (sA (sA m s1 (Int.toNat s2) s3) s0 1 (mA (sA m s1 (Int.toNat s2) s3) (mR m 713 a0) (Int.toNat a1))) s0 2 (mA (sA (sA m s1 (Int.toNat s2) s3) s0 1 (mA (sA m s1 (Int.toNat s2) s3) (mR m 713 a0) (Int.toNat a1))) (mR m 718 a0) (Int.toNat a1))) (mR m 721 a0) (Int.toNat a1))) (mR m 722 a0) (Int.toNat a1))) dX11_slip_55 (by first | rfl | simp only [zm_Is, zm_Rs, zm_As, zm_Os, zm_In0, zm_Rn0])).mpr ⟨⟨g14, g15⟩, ?_⟩
  obtain ⟨g16, h⟩ := h
  refine (zq_iast dX11_slip_56).mpr ⟨⟨g7, ⟨by decide, g16⟩⟩, ?_⟩
  refine (zq_dupR dX11_slip_57).mpr ?_
  refine (zq_iconst (v := 5) dX11_slip_58 (by decide)).mpr ?_
  refine (zq_aload_n dX11_slip_59 rfl).mpr ?_
  refine (zq_getR2 (f := 729) (v := (mR m 729 a0)) dX11_slip_60 fl_11_79 (by decide) rfl rfl (by first | rfl | simp only [zm_Is, zm_Rs, zm_As, zm_Os, zm_In0, zm_Rn0])).mpr ⟨g3, ?_⟩
  refine (zq_iload_n dX11_slip_63 rfl).mpr ?_
  obtain ⟨g17, h⟩ := h
  obtain ⟨g18, h⟩ := h
  refine (zq_bald2 (v := (mA (sA (sA (sA (sA (sA m s1 (Int.toNat s2) s3) s0 1 (mA (sA m s1 (Int.toNat s2) s3) (mR m 713 a0) (Int.toNat a1))) s0 2 (mA (sA (sA m s1 (Int.toNat s2) s3) s0 1 (mA (sA m s1 (Int.toNat s2) s3) (mR m 713 a0) (Int.toNat a1))) (mR m 718 a0) (Int.toNat a1))) s0 3 (mA (sA (sA (sA m s1 (Int.toNat s2) s3) s0 1 (mA (sA m s1 (Int.toNat s2) s3) (mR m 713 a0) (Int.toNat a1))) s0 2 (mA (sA (sA m s1 (Int.toNat s2) s3) s0 1 (mA (sA m s1 (Int.toNat s2) s3) (mR m 713 a0) (Int.toNat a1))) (mR m 718 a0) (Int.toNat a1))) (mR m 721 a0) (Int.toNat a1))) s0 4 (mA (sA (sA (sA (sA m s1 (Int.toNat s2) s3) s0 1 (mA (sA m s1 (Int.toNat s2) s3) (mR m 713 a0) (Int.toNat a1))) s0 2 (mA (sA (sA m s1 (Int.toNat s2) s3) s0 1 (mA (sA m s1 (Int.toNat s2) s3) (mR m 713 a0) (Int.toNat a1))) (mR m 718 a0) (Int.toNat a1))) s0 3 (mA (sA (sA (sA m s1 (Int.toNat s2) s3) s0 1 (mA (sA m s1 (Int.toNat s2) s3) (mR m 713 a0) (Int.toNat a1))) s0 2 (mA (sA (sA m s1 (Int.toNat s2) s3) s0 1 (mA (sA m s1 (Int.toNat s2) s3) (mR m 713 a0) (Int.toNat a1))) (mR m 718 a0) (Int.toNat a1))) (mR m 721 a0) (Int.toNat a1))) (mR m 722 a0) (Int.toNat a1))) (mR m 729 a0) (Int.toNat a1))) dX11_slip_64 (by first | rfl | simp only [zm_Is, zm_Rs, zm_As, zm_Os, zm_In0, zm_Rn0])).mpr ⟨⟨g17, g18⟩, ?_⟩
  refine (zq_if_eq (t := 72) dX11_slip_65 rfl).mpr ⟨fun c => ?_, fun c => ?_⟩
  · replace h := h.1 c
    refine (zq_iconst (v := 0) dX11_slip_72 (by decide)).mpr ?_
    exact h
  · replace h := h.2 c
    refine (zq_iconst (v := 1) dX11_slip_68 (by decide)).mpr ?_
    refine (zq_goto (t := 73) dX11_slip_69 rfl).mpr ?_
    exact h
theorem bX11_slip_73 {a0 : Nat} {a1 : Int} {a2 : Int} {a3 : zV} {s0 : Nat} {s1 : Nat} {s2 : Int} {s3 : Int} (h : (0 ≤ s2 ∧ s2 < mN m s1) ∧ (mC m s1 = 20) ∧ (mC m a0 = 12) ∧ (mC m (mR m 731 a0) = 20) ∧ (0 ≤ a1 ∧ a1 < mN m (mR m 731 a0)) ∧ ((6 : Int) < mN m s0) ∧ (mC m s0 = 20) ∧ (mC m (mR m 732 a0) = 20) ∧ (0 ≤ a1 ∧ a1 < mN m (mR m 732 a0)) ∧ ((7 : Int) < mN m s0) ∧ (mC m (mR m 733 a0) = 20) ∧ (0 ≤ a1 ∧ a1 < mN m (mR m 733 a0)) ∧ ((8 : Int) < mN m s0) ∧ (mC m (mR m 726 a0) = 20) ∧ (0 ≤ a1 ∧ a1 < mN m (mR m 726 a0)) ∧ ((9 : Int) < mN m s0) ∧ (mC m (mR m 727 a0) = 20) ∧ (0 ≤ a1 ∧ a1 < mN m (mR m 727 a0)) ∧ ((10 : Int) < mN m s0) ∧ (mC m (mR m 728 a0) = 21 ∨ mC m (mR m 728 a0) = 22) ∧ (0 ≤ a1 ∧ a1 < mN m (mR m 728 a0)) ∧ (((mA (sA (sA (sA (sA (sA (sA m s1 (Int.toNat s2) s3) s0 6 (mA (sA m s1 (Int.toNat s2) s3) (mR m 731 a0) (Int.toNat a1))) s0 7 (mA (sA (sA m s1 (Int.toNat s2) s3) s0 6 (mA (sA m s1 (Int.toNat s2) s3) (mR m 731 a0) (Int.toNat a1))) (mR m 732 a0) (Int.toNat a1))) s0 8 (mA (sA (sA (sA m s1 (Int.toNat s2) s3) s0 6 (mA (sA m s1 (Int.toNat s2) s3) (mR m 731 a0) (Int.toNat a1))) s0 7 (mA (sA (sA m s1 (Int.toNat s2) s3) s0 6 (mA (sA m s1 (Int.toNat s2) s3) (mR m 731 a0) (Int.toNat a1))) (mR m 732 a0) (Int.toNat a1))) (mR m 733 a0) (Int.toNat a1))) s0 9 (mA (sA (sA (sA (sA m s1 (Int.toNat s2) s3) s0 6 (mA (sA m s1 (Int.toNat s2) s3) (mR m 731 a0) (Int.toNat a1))) s0 7 (mA (sA (sA m s1 (Int.toNat s2) s3) s0 6 (mA (sA m s1 (Int.toNat s2) s3) (mR m 731 a0) (Int.toNat a1))) (mR m 732 a0) (Int.toNat a1))) s0 8 (mA (sA (sA (sA m s1 (Int.toNat s2) s3) s0 6 (mA (sA m s1 (Int.toNat s2) s3) (mR m 731 a0) (Int.toNat a1))) s0 7 (mA (sA (sA m s1 (Int.toNat s2) s3) s0 6 (mA (sA m s1 (Int.toNat s2) s3) (mR m 731 a0) (Int.toNat a1))) (mR m 732 a0) (Int.toNat a1))) (mR m 733 a0) (Int.toNat a1))) (mR m 726 a0) (Int.toNat a1))) s0 10 (mA (sA (sA (sA (sA (sA m s1 (Int.toNat s2) s3) s0 6 (mA (sA m s1 (Int.toNat s2) s3) (mR m 731 a0) (Int.toNat a1))) s0 7 (mA (sA (sA m s1 (Int.toNat s2) s3) s0 6 (mA (sA m s1 (Int.toNat s2) s3) (mR m 731 a0) (Int.toNat a1))) (mR m 732 a0) (Int.toNat a1))) s0 8 (mA (sA (sA (sA m s1 (Int.toNat s2) s3) s0 6 (mA (sA m s1 (Int.toNat s2) s3) (mR m 731 a0) (Int.toNat a1))) s0 7 (mA (sA (sA m s1 (Int.toNat s2) s3) s0 6 (mA (sA m s1 (Int.toNat s2) s3) (mR m 731 a0) (Int.toNat a1))) (mR m 732 a0) (Int.toNat a1))) (mR m 733 a0) (Int.toNat a1))) s0 9 (mA (sA (sA (sA (sA m s1 (Int.toNat s2) s3) s0 6 (mA (sA m s1 (Int.toNat s2) s3) (mR m 731 a0) (Int.toNat a1))) s0 7 (mA (sA (sA m s1 (Int.toNat s2) s3) s0 6 (mA (sA m s1 (Int.toNat s2) s3) (mR m 731 a0) (Int.toNat a1))) (mR m 732 a0) (Int.toNat a1))) s0 8 (mA (sA (sA (sA m s1 (Int.toNat s2) s3) s0 6 (mA (sA m s1 (Int.toNat s2) s3) (mR m 731 a0) (Int.toNat a1))) s0 7 (mA (sA (sA m s1 (Int.toNat s2) s3) s0 6 (mA (sA m s1 (Int.toNat s2) s3) (mR m 731 a0) (Int.toNat a1))) (mR m 732 a0) (Int.toNat a1))) (mR m 733 a0) (Int.toNat a1))) (mR m 726 a0) (Int.toNat a1))) (mR m 727 a0) (Int.toNat a1))) (mR m 728 a0) (Int.toNat a1)) = 0 → zW xs xl d cX11_slip 11 (some .int) false [] 141 [zR a0, zI a1, zI a2, a3] [zI 0, zI 11, zR s0, zR s0] (sA (sA (sA (sA (sA (sA m s1 (Int.toNat s2) s3) s0 6 (mA (sA m s1 (Int.toNat s2) s3) (mR m 731 a0) (Int.toNat a1))) s0 7 (mA (sA (sA m s1 (Int.toNat s2) s3) s0 6 (mA (sA m s1 (Int.toNat s2) s3) (mR m 731 a0) (Int.toNat a1))) (mR m 732 a0) (Int.toNat a1))) s0 8 (mA (sA (sA (sA m s1 (Int.toNat s2) s3) s0 6 (mA (sA m s1 (Int.toNat s2) s3) (mR m 731 a0) (Int.toNat a1))) s0 7 (mA (sA (sA m s1 (Int.toNat s2) s3) s0 6 (mA (sA m s1 (Int.toNat s2) s3) (mR m 731 a0) (Int.toNat a1))) (mR m 732 a0) (Int.toNat a1))) (mR m 733 a0) (Int.toNat a1))) s0 9 (mA (sA (sA (sA (sA m s1 (Int.toNat s2) s3) s0 6 (mA (sA m s1 (Int.toNat s2) s3) (mR m 731 a0) (Int.toNat a1))) s0 7 (mA (sA (sA m s1 (Int.toNat s2) s3) s0 6 (mA (sA m s1 (Int.toNat s2) s3) (mR m 731 a0) (Int.toNat a1))) (mR m 732 a0) (Int.toNat a1))) s0 8 (mA (sA (sA (sA m s1 (Int.toNat s2) s3) s0 6 (mA (sA m s1 (Int.toNat s2) s3) (mR m 731 a0) (Int.toNat a1))) s0 7 (mA (sA (sA m s1 (Int.toNat s2) s3) s0 6 (mA (sA m s1 (Int.toNat s2) s3) (mR m 731 a0) (Int.toNat a1))) (mR m 732 a0) (Int.toNat a1))) (mR m 733 a0) (Int.toNat a1))) (mR m 726 a0) (Int.toNat a1))) s0 10 (mA (sA (sA (sA (sA (sA m s1 (Int.toNat s2) s3) s0 6 (mA (sA m s1 (Int.toNat s2) s3) (mR m 731 a0) (Int.toNat a1))) s0 7 (mA (sA (sA m s1 (Int.toNat s2) s3) s0 6 (mA (sA m s1 (Int.toNat s2) s3) (mR m 731 a0) (Int.toNat a1))) (mR m 732 a0) (Int.toNat a1))) s0 8 (mA (sA (sA (sA m s1 (Int.toNat s2) s3) s0 6 (mA (sA m s1 (Int.toNat s2) s3) (mR m 731 a0) (Int.toNat a1))) s0 7 (mA (sA (sA m s1 (Int.toNat s2) s3) s0 6 (mA (sA m s1 (Int.toNat s2) s3) (mR m 731 a0) (Int.toNat a1))) (mR m 732 a0) (Int.toNat a1))) (mR m 733 a0) (Int.toNat a1))) s0 9 (mA (sA (sA (sA (sA m s1 (Int.toNat s2) s3) s0 6 (mA (sA m s1 (Int.toNat s2) s3) (mR m 731 a0) (Int.toNat a1))) s0 7 (mA (sA (sA m s1 (Int.toNat s2) s3) s0 6 (mA (sA m s1 (Int.toNat s2) s3) (mR m 731 a0) (Int.toNat a1))) (mR m 732 a0) (Int.toNat a1))) s0 8 (mA (sA (sA (sA m s1 (Int.toNat s2) s3) s0 6 (mA (sA m s1 (Int.toNat s2) s3) (mR m 731 a0) (Int.toNat a1))) s0 7 (mA (sA (sA m s1 (Int.toNat s2) s3) s0 6 (mA (sA m s1 (Int.toNat s2) s3) (mR m 731 a0) (Int.toNat a1))) (mR m 732 a0) (Int.toNat a1))) (mR m 733 a0) (Int.toNat a1))) (mR m 726 a0) (Int.toNat a1))) (mR m 727 a0) (Int.toNat a1))) Q) ∧ (¬ ((mA (sA (sA (sA (sA (sA (sA m s1 (Int.toNat s2) s3) s0 6 (mA (sA m s1 (Int.toNat s2) s3) (mR m 731 a0) (Int.toNat a1))) s0 7 (mA (sA (sA m s1 (Int.toNat s2) s3) s0 6 (mA (sA m s1 (Int.toNat s2) s3) (mR m 731 a0) (Int.toNat a1))) (mR m 732 a0) (Int.toNat a1))) s0 8 (mA (sA (sA (sA m s1 (Int.toNat s2) s3) s0 6 (mA (sA m s1 (Int.toNat s2) s3) (mR m 731 a0) (Int.toNat a1))) s0 7 (mA (sA (sA m s1 (Int.toNat s2) s3) s0 6 (mA (sA m s1 (Int.toNat s2) s3) (mR m 731 a0) (Int.toNat a1))) (mR m 732 a0) (Int.toNat a1))) (mR m 733 a0) (Int.toNat a1))) s0 9 (mA (sA (sA (sA (sA m s1 (Int.toNat s2) s3) s0 6 (mA (sA m s1 (Int.toNat s2) s3) (mR m 731 a0) (Int.toNat a1))) s0 7 (mA (sA (sA m s1 (Int.toNat s2) s3) s0 6 (mA (sA m s1 (Int.toNat s2) s3) (mR m 731 a0) (Int.toNat a1))) (mR m 732 a0) (Int.toNat a1))) s0 8 (mA (sA (sA (sA m s1 (Int.toNat s2) s3) s0 6 (mA (sA m s1 (Int.toNat s2) s3) (mR m 731 a0) (Int.toNat a1))) s0 7 (mA (sA (sA m s1 (Int.toNat s2) s3) s0 6 (mA (sA m s1 (Int.toNat s2) s3) (mR m 731 a0) (Int.toNat a1))) (mR m 732 a0) (Int.toNat a1))) (mR m 733 a0) (Int.toNat a1))) (mR m 726 a0) (Int.toNat a1))) s0 10 (mA (sA (sA (sA (sA (sA m s1 (Int.toNat s2) s3) s0 6 (mA (sA m s1 (Int.toNat s2) s3) (mR m 731 a0) (Int.toNat a1))) s0 7 (mA (sA (sA m s1 (Int.toNat s2) s3) s0 6 (mA (sA m s1 (Int.toNat s2) s3) (mR m 731 a0) (Int.toNat a1))) (mR m 732 a0) (Int.toNat a1))) s0 8 (mA (sA (sA (sA m s1 (Int.toNat s2) s3) s0 6 (mA (sA m s1 (Int.toNat s2) s3) (mR m 731 a0) (Int.toNat a1))) s0 7 (mA (sA (sA m s1 (Int.toNat s2) s3) s0 6 (mA (sA m s1 (Int.toNat s2) s3) (mR m 731 a0) (Int.toNat a1))) (mR m 732 a0) (Int.toNat a1))) (mR m 733 a0) (Int.toNat a1))) s0 9 (mA (sA (sA (sA (sA m s1 (Int.toNat s2) s3) s0 6 (mA (sA m s1 (Int.toNat s2) s3) (mR m 731 a0) (Int.toNat a1))) s0 7 (mA (sA (sA m s1 (Int.toNat s2) s3) s0 6 (mA (sA m s1 (Int.toNat s2) s3) (mR m 731 a0) (Int.toNat a1))) (mR m 732 a0) (Int.toNat a1))) s0 8 (mA (sA (sA (sA m s1 (Int.toNat s2) s3) s0 6 (mA (sA m s1 (Int.toNat s2) s3) (mR m 731 a0) (Int.toNat a1))) s0 7 (mA (sA (sA m s1 (Int.toNat s2) s3) s0 6 (mA (sA m s1 (Int.toNat s2) s3) (mR m 731 a0) (Int.toNat a1))) (mR m 732 a0) (Int.toNat a1))) (mR m 733 a0) (Int.toNat a1))) (mR m 726 a0) (Int.toNat a1))) (mR m 727 a0) (Int.toNat a1))) (mR m 728 a0) (Int.toNat a1)) = 0) → zW xs xl d cX11_slip 11 (some .int) false [] 141 [zR a0, zI a1, zI a2, a3] [zI 1, zI 11, zR s0, zR s0] (sA (sA (sA (sA (sA (sA m s1 (Int.toNat s2) s3) s0 6 (mA (sA m s1 (Int.toNat s2) s3) (mR m 731 a0) (Int.toNat a1))) s0 7 (mA (sA (sA m s1 (Int.toNat s2) s3) s0 6 (mA (sA m s1 (Int.toNat s2) s3) (mR m 731 a0) (Int.toNat a1))) (mR m 732 a0) (Int.toNat a1))) s0 8 (mA (sA (sA (sA m s1 (Int.toNat s2) s3) s0 6 (mA (sA m s1 (Int.toNat s2) s3) (mR m 731 a0) (Int.toNat a1))) s0 7 (mA (sA (sA m s1 (Int.toNat s2) s3) s0 6 (mA (sA m s1 (Int.toNat s2) s3) (mR m 731 a0) (Int.toNat a1))) (mR m 732 a0) (Int.toNat a1))) (mR m 733 a0) (Int.toNat a1))) s0 9 (mA (sA (sA (sA (sA m s1 (Int.toNat s2) s3) s0 6 (mA (sA m s1 (Int.toNat s2) s3) (mR m 731 a0) (Int.toNat a1))) s0 7 (mA (sA (sA m s1 (Int.toNat s2) s3) s0 6 (mA (sA m s1 (Int.toNat s2) s3) (mR m 731 a0) (Int.toNat a1))) (mR m 732 a0) (Int.toNat a1))) s0 8 (mA (sA (sA (sA m s1 (Int.toNat s2) s3) s0 6 (mA (sA m s1 (Int.toNat s2) s3) (mR m 731 a0) (Int.toNat a1))) s0 7 (mA (sA (sA m s1 (Int.toNat s2) s3) s0 6 (mA (sA m s1 (Int.toNat s2) s3) (mR m 731 a0) (Int.toNat a1))) (mR m 732 a0) (Int.toNat a1))) (mR m 733 a0) (Int.toNat a1))) (mR m 726 a0) (Int.toNat a1))) s0 10 (mA (sA (sA (sA (sA (sA m s1 (Int.toNat s2) s3) s0 6 (mA (sA m s1 (Int.toNat s2) s3) (mR m 731 a0) (Int.toNat a1))) s0 7 (mA (sA (sA m s1 (Int.toNat s2) s3) s0 6 (mA (sA m s1 (Int.toNat s2) s3) (mR m 731 a0) (Int.toNat a1))) (mR m 732 a0) (Int.toNat a1))) s0 8 (mA (sA (sA (sA m s1 (Int.toNat s2) s3) s0 6 (mA (sA m s1 (Int.toNat s2) s3) (mR m 731 a0) (Int.toNat a1))) s0 7 (mA (sA (sA m s1 (Int.toNat s2) s3) s0 6 (mA (sA m s1 (Int.toNat s2) s3) (mR m 731 a0) (Int.toNat a1))) (mR m 732 a0) (Int.toNat a1))) (mR m 733 a0) (Int.toNat a1))) s0 9 (mA (sA (sA (sA (sA m s1 (Int.toNat s2) s3) s0 6 (mA (sA m s1 (Int.toNat s2) s3) (mR m 731 a0) (Int.toNat a1))) s0 7 (mA (sA (sA m s1 (Int.toNat s2) s3) s0 6 (mA (sA m s1 (Int.toNat s2) s3) (mR m 731 a0) (Int.toNat a1))) (mR m 732 a0) (Int.toNat a1))) s0 8 (mA (sA (sA (sA m s1 (Int.toNat s2) s3) s0 6 (mA (sA m s1 (Int.toNat s2) s3) (mR m 731 a0) (Int.toNat a1))) s0 7 (mA (sA (sA m s1 (Int.toNat s2) s3) s0 6 (mA (sA m s1 (Int.toNat s2) s3) (mR m 731 a0) (Int.toNat a1))) (mR m 732 a0) (Int.toNat a1))) (mR m 733 a0) (Int.toNat a1))) (mR m 726 a0) (Int.toNat a1))) (mR m 727 a0) (Int.toNat a1))) Q))) : zW xs xl d cX11_slip 11 (some .int) false [] 73 [zR a0, zI a1, zI a2, a3] [zI s3, zI s2, zR s1, zR s0] m Q := by
  obtain ⟨g1, h⟩ := h
  obtain ⟨g2, h⟩ := h
  refine (zq_iast dX11_slip_73).mpr ⟨⟨g2, g1⟩, ?_⟩
  refine (zq_dupR dX11_slip_74).mpr ?_
  refine (zq_bipush (v := 6) dX11_slip_75 (by decide)).mpr ?_
  refine (zq_aload_n dX11_slip_77 rfl).mpr ?_
  obtain ⟨g3, h⟩ := h
  refine (zq_getR2 (f := 731) (v := (mR m 731 a0)) dX11_slip_78 fl_11_85 (by decide) rfl rfl (by first | rfl | simp only [zm_Is, zm_Rs, zm_As, zm_Os, zm_In0, zm_Rn0])).mpr ⟨g3, ?_⟩
  refine (zq_iload_n dX11_slip_81 rfl).mpr ?_
  obtain ⟨g4, h⟩ := h
  obtain ⟨g5, h⟩ := h
  refine (zq_iald2 (v := (mA (sA m s1 (Int.toNat s2) s3) (mR m 731 a0) (Int.toNat a1))) dX11_slip_82 (by first | rfl | simp only [zm_Is, zm_Rs, zm_As, zm_Os, zm_In0, zm_Rn0])).mpr ⟨⟨g4, g5⟩, ?_⟩
  obtain ⟨g6, h⟩ := h
  obtain ⟨g7, h⟩ := h
  refine (zq_iast dX11_slip_83).mpr ⟨⟨g7, ⟨by decide, g6⟩⟩, ?_⟩
  refine (zq_dupR dX11_slip_84).mpr ?_
  refine (zq_bipush (v := 7) dX11_slip_85 (by decide)).mpr ?_
  refine (zq_aload_n dX11_slip_87 rfl).mpr ?_
  refine (zq_getR2 (f := 732) (v := (mR m 732 a0)) dX11_slip_88 fl_11_88 (by decide) rfl rfl (by first | rfl | simp only [zm_Is, zm_Rs, zm_As, zm_Os, zm_In0, zm_Rn0])).mpr ⟨g3, ?_⟩
  refine (zq_iload_n dX11_slip_91 rfl).mpr ?_
  obtain ⟨g8, h⟩ := h
  obtain ⟨g9, h⟩ := h
  refine (zq_iald2 (v := (mA (sA (sA m s1 (Int.toNat s2) s3) s0 6 (mA (sA m s1 (Int.toNat s2) s3) (mR m 731 a0) (Int.toNat a1))) (mR m 732 a0) (Int.toNat a1))) dX11_slip_92 (by first | rfl | simp only [zm_Is, zm_Rs, zm_As, zm_Os, zm_In0, zm_Rn0])).mpr ⟨⟨g8, g9⟩, ?_⟩
  obtain ⟨g10, h⟩ := h
  refine (zq_iast dX11_slip_93).mpr ⟨⟨g7, ⟨by decide, g10⟩⟩, ?_⟩
  refine (zq_dupR dX11_slip_94).mpr ?_
  refine (zq_bipush (v := 8) dX11_slip_95 (by decide)).mpr ?_
  refine (zq_aload_n dX11_slip_97 rfl).mpr ?_
  refine (zq_getR2 (f := 733) (v := (mR m 733 a0)) dX11_slip_98 fl_11_91 (by decide) rfl rfl (by first | rfl | simp only [zm_Is, zm_Rs, zm_As, zm_Os, zm_In0, zm_Rn0])).mpr ⟨g3, ?_⟩
  refine (zq_iload_n dX11_slip_101 rfl).mpr ?_
  obtain ⟨g11, h⟩ := h
  obtain ⟨g12, h⟩ := h
  refine (zq_iald2 (v := (mA (sA (sA (sA m s1 (Int.toNat s2) s3) s0 6 (mA (sA m s1 (Int.toNat s2) s3) (mR m 731 a0) (Int.toNat a1))) s0 7 (mA (sA (sA m s1 (Int.toNat s2) s3) s0 6 (mA (sA m s1 (Int.toNat s2) s3) (mR m 731 a0) (Int.toNat a1))) (mR m 732 a0) (Int.toNat a1))) (mR m 733 a0) (Int.toNat a1))) dX11_slip_102 (by first | rfl | simp only [zm_Is, zm_Rs, zm_As, zm_Os, zm_In0, zm_Rn0])).mpr ⟨⟨g11, g12⟩, ?_⟩
  obtain ⟨g13, h⟩ := h
  refine (zq_iast dX11_slip_103).mpr ⟨⟨g7, ⟨by decide, g13⟩⟩, ?_⟩
  refine (zq_dupR dX11_slip_104).mpr ?_
  refine (zq_bipush (v := 9) dX11_slip_105 (by decide)).mpr ?_
  refine (zq_aload_n dX11_slip_107 rfl).mpr ?_
  refine (zq_getR2 (f := 726) (v := (mR m 726 a0)) dX11_slip_108 fl_11_70 (by decide) rfl rfl (by first | rfl | simp only [zm_Is, zm_Rs, zm_As, zm_Os, zm_In0, zm_Rn0])).mpr ⟨g3, ?_⟩
  refine (zq_iload_n dX11_slip_111 rfl).mpr ?_
  obtain ⟨g14, h⟩ := h
  obtain ⟨g15, h⟩ := h
  refine (zq_iald2 (v := (mA (sA (sA (sA (sA m s1 (Int.toNat s2) s3) s0 6 (mA (sA m s1 (Int.toNat s2) s3) (mR m 731 a0) (Int.toNat a1))) s0 7 (mA (sA (sA m s1 (Int.toNat s2) s3) s0 6 (mA (sA m s1 (Int.toNat s2) s3) (mR m 731 a0) (Int.toNat a1))) (mR m 732 a0) (Int.toNat a1))) s0 8 (mA (sA (sA (sA m s1 (Int.toNat s2) s3) s0 6 (mA (sA m s1 (Int.toNat s2) s3) (mR m 731 a0) (Int.toNat a1))) s0 7 (mA (sA (sA m s1 (Int.toNat s2) s3) s0 6 (mA (sA m s1 (Int.toNat s2) s3) (mR m 731 a0) (Int.toNat a1))) (mR m 732 a0) (Int.toNat a1))) (mR m 733 a0) (Int.toNat a1))) (mR m 726 a0) (Int.toNat a1))) dX11_slip_112 (by first | rfl | simp only [zm_Is, zm_Rs, zm_As, zm_Os, zm_In0, zm_Rn0])).mpr ⟨⟨g14, g15⟩, ?_⟩
  obtain ⟨g16, h⟩ := h
  refine (zq_iast dX11_slip_113).mpr ⟨⟨g7, ⟨by decide, g16⟩⟩, ?_⟩
  refine (zq_dupR dX11_slip_114).mpr ?_
  refine (zq_bipush (v := 10) dX11_slip_115 (by decide)).mpr ?_
  refine (zq_aload_n dX11_slip_117 rfl).mpr ?_
  refine (zq_getR2 (f := 727) (v := (mR m 727 a0)) dX11_slip_118 fl_11_73 (by decide) rfl rfl (by first | rfl | simp only [zm_Is, zm_Rs, zm_As, zm_Os, zm_In0, zm_Rn0])).mpr ⟨g3, ?_⟩
  refine (zq_iload_n dX11_slip_121 rfl).mpr ?_
  obtain ⟨g17, h⟩ := h
  obtain ⟨g18, h⟩ := h
  refine (zq_iald2 (v := (mA (sA (sA (sA (sA (sA m s1 (Int.toNat s2) s3) s0 6 (mA (sA m s1 (Int.toNat s2) s3) (mR m 731 a0) (Int.toNat a1))) s0 7 (mA (sA (sA m s1 (Int.toNat s2) s3) s0 6 (mA (sA m s1 (Int.toNat s2) s3) (mR m 731 a0) (Int.toNat a1))) (mR m 732 a0) (Int.toNat a1))) s0 8 (mA (sA (sA (sA m s1 (Int.toNat s2) s3) s0 6 (mA (sA m s1 (Int.toNat s2) s3) (mR m 731 a0) (Int.toNat a1))) s0 7 (mA (sA (sA m s1 (Int.toNat s2) s3) s0 6 (mA (sA m s1 (Int.toNat s2) s3) (mR m 731 a0) (Int.toNat a1))) (mR m 732 a0) (Int.toNat a1))) (mR m 733 a0) (Int.toNat a1))) s0 9 (mA (sA (sA (sA (sA m s1 (Int.toNat s2) s3) s0 6 (mA (sA m s1 (Int.toNat s2) s3) (mR m 731 a0) (Int.toNat a1))) s0 7 (mA (sA (sA m s1 (Int.toNat s2) s3) s0 6 (mA (sA m s1 (Int.toNat s2) s3) (mR m 731 a0) (Int.toNat a1))) (mR m 732 a0) (Int.toNat a1))) s0 8 (mA (sA (sA (sA m s1 (Int.toNat s2) s3) s0 6 (mA (sA m s1 (Int.toNat s2) s3) (mR m 731 a0) (Int.toNat a1))) s0 7 (mA (sA (sA m s1 (Int.toNat s2) s3) s0 6 (mA (sA m s1 (Int.toNat s2) s3) (mR m 731 a0) (Int.toNat a1))) (mR m 732 a0) (Int.toNat a1))) (mR m 733 a0) (Int.toNat a1))) (mR m 726 a0) (Int.toNat a1))) (mR m 727 a0) (Int.toNat a1))) dX11_slip_122 (by first | rfl | simp only [zm_Is, zm_Rs, zm_As, zm_Os, zm_In0, zm_Rn0])).mpr ⟨⟨g17, g18⟩, ?_⟩
  obtain ⟨g19, h⟩ := h
  refine (zq_iast dX11_slip_123).mpr ⟨⟨g7, ⟨by decide, g19⟩⟩, ?_⟩
  refine (zq_dupR dX11_slip_124).mpr ?_
  refine (zq_bipush (v := 11) dX11_slip_125 (by decide)).mpr ?_
  refine (zq_aload_n dX11_slip_127 rfl).mpr ?_
  refine (zq_getR2 (f := 728) (v := (mR m 728 a0)) dX11_slip_128 fl_11_76 (by decide) rfl rfl (by first | rfl | simp only [zm_Is, zm_Rs, zm_As, zm_Os, zm_In0, zm_Rn0])).mpr ⟨g3, ?_⟩
  refine (zq_iload_n dX11_slip_131 rfl).mpr ?_
  obtain ⟨g20, h⟩ := h
  obtain ⟨g21, h⟩ := h
  refine (zq_bald2 (v := (mA (sA (sA (sA (sA (sA (sA m s1 (Int.toNat s2) s3) s0 6 (mA (sA m s1 (Int.toNat s2) s3) (mR m 731 a0) (Int.toNat a1))) s0 7 (mA (sA (sA m s1 (Int.toNat s2) s3) s0 6 (mA (sA m s1 (Int.toNat s2) s3) (mR m 731 a0) (Int.toNat a1))) (mR m 732 a0) (Int.toNat a1))) s0 8 (mA (sA (sA (sA m s1 (Int.toNat s2) s3) s0 6 (mA (sA m s1 (Int.toNat s2) s3) (mR m 731 a0) (Int.toNat a1))) s0 7 (mA (sA (sA m s1 (Int.toNat s2) s3) s0 6 (mA (sA m s1 (Int.toNat s2) s3) (mR m 731 a0) (Int.toNat a1))) (mR m 732 a0) (Int.toNat a1))) (mR m 733 a0) (Int.toNat a1))) s0 9 (mA (sA (sA (sA (sA m s1 (Int.toNat s2) s3) s0 6 (mA (sA m s1 (Int.toNat s2) s3) (mR m 731 a0) (Int.toNat a1))) s0 7 (mA (sA (sA m s1 (Int.toNat s2) s3) s0 6 (mA (sA m s1 (Int.toNat s2) s3) (mR m 731 a0) (Int.toNat a1))) (mR m 732 a0) (Int.toNat a1))) s0 8 (mA (sA (sA (sA m s1 (Int.toNat s2) s3) s0 6 (mA (sA m s1 (Int.toNat s2) s3) (mR m 731 a0) (Int.toNat a1))) s0 7 (mA (sA (sA m s1 (Int.toNat s2) s3) s0 6 (mA (sA m s1 (Int.toNat s2) s3) (mR m 731 a0) (Int.toNat a1))) (mR m 732 a0) (Int.toNat a1))) (mR m 733 a0) (Int.toNat a1))) (mR m 726 a0) (Int.toNat a1))) s0 10 (mA (sA (sA (sA (sA (sA m s1 (Int.toNat s2) s3) s0 6 (mA (sA m s1 (Int.toNat s2) s3) (mR m 731 a0) (Int.toNat a1))) s0 7 (mA (sA (sA m s1 (Int.toNat s2) s3) s0 6 (mA (sA m s1 (Int.toNat s2) s3) (mR m 731 a0) (Int.toNat a1))) (mR m 732 a0) (Int.toNat a1))) s0 8 (mA (sA (sA (sA m s1 (Int.toNat s2) s3) s0 6 (mA (sA m s1 (Int.toNat s2) s3) (mR m 731 a0) (Int.toNat a1))) s0 7 (mA (sA (sA m s1 (Int.toNat s2) s3) s0 6 (mA (sA m s1 (Int.toNat s2) s3) (mR m 731 a0) (Int.toNat a1))) (mR m 732 a0) (Int.toNat a1))) (mR m 733 a0) (Int.toNat a1))) s0 9 (mA (sA (sA (sA (sA m s1 (Int.toNat s2) s3) s0 6 (mA (sA m s1 (Int.toNat s2) s3) (mR m 731 a0) (Int.toNat a1))) s0 7 (mA (sA (sA m s1 (Int.toNat s2) s3) s0 6 (mA (sA m s1 (Int.toNat s2) s3) (mR m 731 a0) (Int.toNat a1))) (mR m 732 a0) (Int.toNat a1))) s0 8 (mA (sA (sA (sA m s1 (Int.toNat s2) s3) s0 6 (mA (sA m s1 (Int.toNat s2) s3) (mR m 731 a0) (Int.toNat a1))) s0 7 (mA (sA (sA m s1 (Int.toNat s2) s3) s0 6 (mA (sA m s1 (Int.toNat s2) s3) (mR m 731 a0) (Int.toNat a1))) (mR m 732 a0) (Int.toNat a1))) (mR m 733 a0) (Int.toNat a1))) (mR m 726 a0) (Int.toNat a1))) (mR m 727 a0) (Int.toNat a1))) (mR m 728 a0) (Int.toNat a1))) dX11_slip_132 (by first | rfl | simp only [zm_Is, zm_Rs, zm_As, zm_Os, zm_In0, zm_Rn0])).mpr ⟨⟨g20, g21⟩, ?_⟩
  refine (zq_if_eq (t := 140) dX11_slip_133 rfl).mpr ⟨fun c => ?_, fun c => ?_⟩
  · replace h := h.1 c
    refine (zq_iconst (v := 0) dX11_slip_140 (by decide)).mpr ?_
    exact h
  · replace h := h.2 c
    refine (zq_iconst (v := 1) dX11_slip_136 (by decide)).mpr ?_
    refine (zq_goto (t := 141) dX11_slip_137 rfl).mpr ?_
    exact h
theorem bX11_slip_141 {a0 : Nat} {a1 : Int} {a2 : Int} {a3 : zV} {s0 : Nat} {s1 : Nat} {s2 : Int} {s3 : Int} (h : (0 ≤ s2 ∧ s2 < mN m s1) ∧ (mC m s1 = 20) ∧ (mC m a0 = 12) ∧ (mC m (mR m 725 a0) = 20) ∧ (0 ≤ a1 ∧ a1 < mN m (mR m 725 a0)) ∧ ((12 : Int) < mN m s0) ∧ (mC m s0 = 20) ∧ (mC m (mR m 723 a0) = 20) ∧ (0 ≤ a1 ∧ a1 < mN m (mR m 723 a0)) ∧ ((13 : Int) < mN m s0) ∧ (mC m (mR m 724 a0) = 20) ∧ (0 ≤ a1 ∧ a1 < mN m (mR m 724 a0)) ∧ ((14 : Int) < mN m s0) ∧ (0 ≤ a2 ∧ a2 < mN m s0) ∧ Q (.inl (some (zI (mA (sA (sA (sA (sA m s1 (Int.toNat s2) s3) s0 12 (mA (sA m s1 (Int.toNat s2) s3) (mR m 725 a0) (Int.toNat a1))) s0 13 (mA (sA (sA m s1 (Int.toNat s2) s3) s0 12 (mA (sA m s1 (Int.toNat s2) s3) (mR m 725 a0) (Int.toNat a1))) (mR m 723 a0) (Int.toNat a1))) s0 14 (mA (sA (sA (sA m s1 (Int.toNat s2) s3) s0 12 (mA (sA m s1 (Int.toNat s2) s3) (mR m 725 a0) (Int.toNat a1))) s0 13 (mA (sA (sA m s1 (Int.toNat s2) s3) s0 12 (mA (sA m s1 (Int.toNat s2) s3) (mR m 725 a0) (Int.toNat a1))) (mR m 723 a0) (Int.toNat a1))) (mR m 724 a0) (Int.toNat a1))) s0 (Int.toNat a2))))) (sA (sA (sA (sA m s1 (Int.toNat s2) s3) s0 12 (mA (sA m s1 (Int.toNat s2) s3) (mR m 725 a0) (Int.toNat a1))) s0 13 (mA (sA (sA m s1 (Int.toNat s2) s3) s0 12 (mA (sA m s1 (Int.toNat s2) s3) (mR m 725 a0) (Int.toNat a1))) (mR m 723 a0) (Int.toNat a1))) s0 14 (mA (sA (sA (sA m s1 (Int.toNat s2) s3) s0 12 (mA (sA m s1 (Int.toNat s2) s3) (mR m 725 a0) (Int.toNat a1))) s0 13 (mA (sA (sA m s1 (Int.toNat s2) s3) s0 12 (mA (sA m s1 (Int.toNat s2) s3) (mR m 725 a0) (Int.toNat a1))) (mR m 723 a0) (Int.toNat a1))) (mR m 724 a0) (Int.toNat a1)))) : zW xs xl d cX11_slip 11 (some .int) false [] 141 [zR a0, zI a1, zI a2, a3] [zI s3, zI s2, zR s1, zR s0] m Q := by
  obtain ⟨g1, h⟩ := h
  obtain ⟨g2, h⟩ := h
  refine (zq_iast dX11_slip_141).mpr ⟨⟨g2, g1⟩, ?_⟩
  refine (zq_dupR dX11_slip_142).mpr ?_
  refine (zq_bipush (v := 12) dX11_slip_143 (by decide)).mpr ?_
  refine (zq_aload_n dX11_slip_145 rfl).mpr ?_
  obtain ⟨g3, h⟩ := h
  refine (zq_getR2 (f := 725) (v := (mR m 725 a0)) dX11_slip_146 fl_11_67 (by decide) rfl rfl (by first | rfl | simp only [zm_Is, zm_Rs, zm_As, zm_Os, zm_In0, zm_Rn0])).mpr ⟨g3, ?_⟩
  refine (zq_iload_n dX11_slip_149 rfl).mpr ?_
  obtain ⟨g4, h⟩ := h
  obtain ⟨g5, h⟩ := h
  refine (zq_iald2 (v := (mA (sA m s1 (Int.toNat s2) s3) (mR m 725 a0) (Int.toNat a1))) dX11_slip_150 (by first | rfl | simp only [zm_Is, zm_Rs, zm_As, zm_Os, zm_In0, zm_Rn0])).mpr ⟨⟨g4, g5⟩, ?_⟩
  obtain ⟨g6, h⟩ := h
  obtain ⟨g7, h⟩ := h
  refine (zq_iast dX11_slip_151).mpr ⟨⟨g7, ⟨by decide, g6⟩⟩, ?_⟩
  refine (zq_dupR dX11_slip_152).mpr ?_
  refine (zq_bipush (v := 13) dX11_slip_153 (by decide)).mpr ?_
  refine (zq_aload_n dX11_slip_155 rfl).mpr ?_
  refine (zq_getR2 (f := 723) (v := (mR m 723 a0)) dX11_slip_156 fl_11_61 (by decide) rfl rfl (by first | rfl | simp only [zm_Is, zm_Rs, zm_As, zm_Os, zm_In0, zm_Rn0])).mpr ⟨g3, ?_⟩
  refine (zq_iload_n dX11_slip_159 rfl).mpr ?_
  obtain ⟨g8, h⟩ := h
  obtain ⟨g9, h⟩ := h
  refine (zq_iald2 (v := (mA (sA (sA m s1 (Int.toNat s2) s3) s0 12 (mA (sA m s1 (Int.toNat s2) s3) (mR m 725 a0) (Int.toNat a1))) (mR m 723 a0) (Int.toNat a1))) dX11_slip_160 (by first | rfl | simp only [zm_Is, zm_Rs, zm_As, zm_Os, zm_In0, zm_Rn0])).mpr ⟨⟨g8, g9⟩, ?_⟩
  obtain ⟨g10, h⟩ := h
  refine (zq_iast dX11_slip_161).mpr ⟨⟨g7, ⟨by decide, g10⟩⟩, ?_⟩
  refine (zq_dupR dX11_slip_162).mpr ?_
  refine (zq_bipush (v := 14) dX11_slip_163 (by decide)).mpr ?_
  refine (zq_aload_n dX11_slip_165 rfl).mpr ?_
  refine (zq_getR2 (f := 724) (v := (mR m 724 a0)) dX11_slip_166 fl_11_64 (by decide) rfl rfl (by first | rfl | simp only [zm_Is, zm_Rs, zm_As, zm_Os, zm_In0, zm_Rn0])).mpr ⟨g3, ?_⟩
  refine (zq_iload_n dX11_slip_169 rfl).mpr ?_
  obtain ⟨g11, h⟩ := h
  obtain ⟨g12, h⟩ := h
  refine (zq_iald2 (v := (mA (sA (sA (sA m s1 (Int.toNat s2) s3) s0 12 (mA (sA m s1 (Int.toNat s2) s3) (mR m 725 a0) (Int.toNat a1))) s0 13 (mA (sA (sA m s1 (Int.toNat s2) s3) s0 12 (mA (sA m s1 (Int.toNat s2) s3) (mR m 725 a0) (Int.toNat a1))) (mR m 723 a0) (Int.toNat a1))) (mR m 724 a0) (Int.toNat a1))) dX11_slip_170 (by first | rfl | simp only [zm_Is, zm_Rs, zm_As, zm_Os, zm_In0, zm_Rn0])).mpr ⟨⟨g11, g12⟩, ?_⟩
  obtain ⟨g13, h⟩ := h
  refine (zq_iast dX11_slip_171).mpr ⟨⟨g7, ⟨by decide, g13⟩⟩, ?_⟩
  refine (zq_astore_n (l := [zR a0, zI a1, zI a2, zR s0]) dX11_slip_172 (Nat.le_of_ble_eq_true rfl) rfl).mpr ?_
  refine (zq_aload_n dX11_slip_173 rfl).mpr ?_
  refine (zq_iload_n dX11_slip_174 rfl).mpr ?_
  obtain ⟨g14, h⟩ := h
  refine (zq_iald2 (v := (mA (sA (sA (sA (sA m s1 (Int.toNat s2) s3) s0 12 (mA (sA m s1 (Int.toNat s2) s3) (mR m 725 a0) (Int.toNat a1))) s0 13 (mA (sA (sA m s1 (Int.toNat s2) s3) s0 12 (mA (sA m s1 (Int.toNat s2) s3) (mR m 725 a0) (Int.toNat a1))) (mR m 723 a0) (Int.toNat a1))) s0 14 (mA (sA (sA (sA m s1 (Int.toNat s2) s3) s0 12 (mA (sA m s1 (Int.toNat s2) s3) (mR m 725 a0) (Int.toNat a1))) s0 13 (mA (sA (sA m s1 (Int.toNat s2) s3) s0 12 (mA (sA m s1 (Int.toNat s2) s3) (mR m 725 a0) (Int.toNat a1))) (mR m 723 a0) (Int.toNat a1))) (mR m 724 a0) (Int.toNat a1))) s0 (Int.toNat a2))) dX11_slip_175 (by first | rfl | simp only [zm_Is, zm_Rs, zm_As, zm_Os, zm_In0, zm_Rn0])).mpr ⟨⟨g7, g14⟩, ?_⟩
  exact (zq_iret dX11_slip_176 rfl).mpr ⟨trivial, h⟩
theorem bX11_counted_0 {a0 : Nat} {a1 : Int} (h : zW xs xl d cX11_counted 11 (some .int) false [] 7 [zR a0, zI a1, zI 0, zI 0, zI 0] [] m Q) : zC xs xl (d + 1) 159 [zR a0, zI a1] m Q := by
  refine zk_159 ?_
  refine (zq_iconst (v := 0) dX11_counted_0 (by decide)).mpr ?_
  refine (zq_istore_n (l := [zR a0, zI a1, zI 0, zU, zU]) dX11_counted_1 (Nat.le_of_ble_eq_true rfl) rfl).mpr ?_
  refine (zq_iconst (v := 0) dX11_counted_2 (by decide)).mpr ?_
  refine (zq_istore_n (l := [zR a0, zI a1, zI 0, zI 0, zU]) dX11_counted_3 (Nat.le_of_ble_eq_true rfl) rfl).mpr ?_
  refine (zq_iconst (v := 0) dX11_counted_4 (by decide)).mpr ?_
  refine (zq_istore (l := [zR a0, zI a1, zI 0, zI 0, zI 0]) dX11_counted_5 (Nat.le_of_ble_eq_true rfl) rfl).mpr ?_
  exact h
theorem bX11_counted_7 {a0 : Nat} {a1 : Int} {a2 : Int} {a3 : Int} {a4 : Int} (h : (mC m a0 = 12) ∧ (((mI m 712 a0) ≤ a4 → zW xs xl d cX11_counted 11 (some .int) false [] 43 [zR a0, zI a1, zI a2, zI a3, zI 0] [] m Q) ∧ (¬ ((mI m 712 a0) ≤ a4) → (mC m (mR m 714 a0) = 21 ∨ mC m (mR m 714 a0) = 22) ∧ (0 ≤ a4 ∧ a4 < mN m (mR m 714 a0)) ∧ (((mA m (mR m 714 a0) (Int.toNat a4)) = 0 → zW xs xl d cX11_counted 11 (some .int) false [] 7 [zR a0, zI a1, zI (wr (a2 + 0)), zI a3, zI (wr (a4 + 1))] [] m Q) ∧ (¬ ((mA m (mR m 714 a0) (Int.toNat a4)) = 0) → zW xs xl d cX11_counted 11 (some .int) false [] 7 [zR a0, zI a1, zI (wr (a2 + 1)), zI a3, zI (wr (a4 + 1))] [] m Q))))) : zW xs xl d cX11_counted 11 (some .int) false [] 7 [zR a0, zI a1, zI a2, zI a3, zI a4] [] m Q := by
  refine (zq_iload dX11_counted_7 rfl).mpr ?_
  refine (zq_aload_n dX11_counted_9 rfl).mpr ?_
  obtain ⟨g1, h⟩ := h
  refine (zq_getI2 (f := 712) (v := (mI m 712 a0)) dX11_counted_10 fl_11_116 (by decide) rfl rfl (by first | rfl | simp only [zm_Is, zm_Rs, zm_As, zm_Os, zm_In0, zm_Rn0])).mpr ⟨g1, ?_⟩
  refine (zq_icmp_ge (t := 40) dX11_counted_13 rfl).mpr ⟨fun c => ?_, fun c => ?_⟩
  · replace h := h.1 c
    refine (zq_iconst (v := 0) dX11_counted_40 (by decide)).mpr ?_
    refine (zq_istore (l := [zR a0, zI a1, zI a2, zI a3, zI 0]) dX11_counted_41 (Nat.le_of_ble_eq_true rfl) rfl).mpr ?_
    exact h
  · replace h := h.2 c
    refine (zq_iload_n dX11_counted_16 rfl).mpr ?_
    refine (zq_aload_n dX11_counted_17 rfl).mpr ?_
    refine (zq_getR2 (f := 714) (v := (mR m 714 a0)) dX11_counted_18 fl_11_33 (by decide) rfl rfl (by first | rfl | simp only [zm_Is, zm_Rs, zm_As, zm_Os, zm_In0, zm_Rn0])).mpr ⟨g1, ?_⟩
    refine (zq_iload dX11_counted_21 rfl).mpr ?_
    obtain ⟨g2, h⟩ := h
    obtain ⟨g3, h⟩ := h
    refine (zq_bald2 (v := (mA m (mR m 714 a0) (Int.toNat a4))) dX11_counted_23 (by first | rfl | simp only [zm_Is, zm_Rs, zm_As, zm_Os, zm_In0, zm_Rn0])).mpr ⟨⟨g2, g3⟩, ?_⟩
    refine (zq_if_eq (t := 31) dX11_counted_24 rfl).mpr ⟨fun c => ?_, fun c => ?_⟩
    · replace h := h.1 c
      refine (zq_iconst (v := 0) dX11_counted_31 (by decide)).mpr ?_
      refine (zq_iadd dX11_counted_32).mpr ?_
      refine (zq_istore_n (l := [zR a0, zI a1, zI (wr (a2 + 0)), zI a3, zI a4]) dX11_counted_33 (Nat.le_of_ble_eq_true rfl) rfl).mpr ?_
      refine (zq_iinc (l := [zR a0, zI a1, zI (wr (a2 + 0)), zI a3, zI (wr (a4 + 1))]) dX11_counted_34 rfl rfl).mpr ?_
      refine (zq_goto (t := 7) dX11_counted_37 rfl).mpr ?_
      exact h
    · replace h := h.2 c
      refine (zq_iconst (v := 1) dX11_counted_27 (by decide)).mpr ?_
      refine (zq_goto (t := 32) dX11_counted_28 rfl).mpr ?_
      refine (zq_iadd dX11_counted_32).mpr ?_
      refine (zq_istore_n (l := [zR a0, zI a1, zI (wr (a2 + 1)), zI a3, zI a4]) dX11_counted_33 (Nat.le_of_ble_eq_true rfl) rfl).mpr ?_
      refine (zq_iinc (l := [zR a0, zI a1, zI (wr (a2 + 1)), zI a3, zI (wr (a4 + 1))]) dX11_counted_34 rfl rfl).mpr ?_
      refine (zq_goto (t := 7) dX11_counted_37 rfl).mpr ?_
      exact h
theorem bX11_counted_43 {a0 : Nat} {a1 : Int} {a2 : Int} {a3 : Int} {a4 : Int} (h : (mC m a0 = 12) ∧ (((mI m 705 a0) ≤ a4 → (∀ m2 : zM, m2 = nwA m 20 9 → (mC m2 a0 = 12) ∧ ((0 : Int) < mN m2 (mz m)) ∧ (mC m2 (mz m) = 20) ∧ ((1 : Int) < mN m2 (mz m)) ∧ ((2 : Int) < mN m2 (mz m)) ∧ ((3 : Int) < mN m2 (mz m)) ∧ zC xs xl d 141 [zR a0, zI (-1)] (sA (sA (sA (sA m2 (mz m) 0 (mI m2 704 a0)) (mz m) 1 (mI m2 705 a0)) (mz m) 2 (mI m2 712 a0)) (mz m) 3 a2) (fun r m9 => ∃ v10 : Int, r = .inl (some (zI v10)) ∧ ((4 : Int) < mN m9 (mz m)) ∧ (mC m9 (mz m) = 20) ∧ (mC m9 a0 = 12) ∧ ((5 : Int) < mN m9 (mz m)) ∧ ((6 : Int) < mN m9 (mz m)) ∧ ((7 : Int) < mN m9 (mz m)) ∧ ((8 : Int) < mN m9 (mz m)) ∧ (0 ≤ a1 ∧ a1 < mN m9 (mz m)) ∧ Q (.inl (some (zI (mA (sA (sA (sA (sA (sA m9 (mz m) 4 v10) (mz m) 5 (mI m9 736 a0)) (mz m) 6 (mI m9 737 a0)) (mz m) 7 (mI m9 738 a0)) (mz m) 8 a3) (mz m) (Int.toNat a1))))) (sA (sA (sA (sA (sA m9 (mz m) 4 v10) (mz m) 5 (mI m9 736 a0)) (mz m) 6 (mI m9 737 a0)) (mz m) 7 (mI m9 738 a0)) (mz m) 8 a3)))) ∧ (¬ ((mI m 705 a0) ≤ a4) → (mC m (mR m 707 a0) = 20) ∧ (0 ≤ a4 ∧ a4 < mN m (mR m 707 a0)) ∧ zW xs xl d cX11_counted 11 (some .int) false [] 43 [zR a0, zI a1, zI a2, zI (wr (a3 + (mA m (mR m 707 a0) (Int.toNat a4)))), zI (wr (a4 + 1))] [] m Q))) : zW xs xl d cX11_counted 11 (some .int) false [] 43 [zR a0, zI a1, zI a2, zI a3, zI a4] [] m Q := by
  refine (zq_iload dX11_counted_43 rfl).mpr ?_
  refine (zq_aload_n dX11_counted_45 rfl).mpr ?_
  obtain ⟨g1, h⟩ := h
  refine (zq_getI2 (f := 705) (v := (mI m 705 a0)) dX11_counted_46 fl_11_113 (by decide) rfl rfl (by first | rfl | simp only [zm_Is, zm_Rs, zm_As, zm_Os, zm_In0, zm_Rn0])).mpr ⟨g1, ?_⟩
  refine (zq_icmp_ge (t := 68) dX11_counted_49 rfl).mpr ⟨fun c => ?_, fun c => ?_⟩
  · replace h := h.1 c
    refine (zq_bipush (v := 9) dX11_counted_68 (by decide)).mpr ?_
    refine zq_newarray2 (kd := 20) (i := 9) dX11_counted_70 rfl (by decide) rfl ⟨by decide, by decide⟩ (fun m2 em2 => ?_)
    replace h := h m2 em2
    refine (zq_dupR dX11_counted_72).mpr ?_
    refine (zq_iconst (v := 0) dX11_counted_73 (by decide)).mpr ?_
    refine (zq_aload_n dX11_counted_74 rfl).mpr ?_
    obtain ⟨g3, h⟩ := h
    refine (zq_getI2 (f := 704) (v := (mI m2 704 a0)) dX11_counted_75 fl_11_109 (by decide) rfl rfl (by first | rfl | simp only [zm_Is, zm_Rs, zm_As, zm_Os, zm_In0, zm_Rn0])).mpr ⟨g3, ?_⟩
    obtain ⟨g4, h⟩ := h
    obtain ⟨g5, h⟩ := h
    refine (zq_iast dX11_counted_78).mpr ⟨⟨g5, ⟨by decide, g4⟩⟩, ?_⟩
    refine (zq_dupR dX11_counted_79).mpr ?_
    refine (zq_iconst (v := 1) dX11_counted_80 (by decide)).mpr ?_
    refine (zq_aload_n dX11_counted_81 rfl).mpr ?_
    refine (zq_getI2 (f := 705) (v := (mI m2 705 a0)) dX11_counted_82 fl_11_113 (by decide) rfl rfl (by first | rfl | simp only [zm_Is, zm_Rs, zm_As, zm_Os, zm_In0, zm_Rn0])).mpr ⟨g3, ?_⟩
    obtain ⟨g6, h⟩ := h
    refine (zq_iast dX11_counted_85).mpr ⟨⟨g5, ⟨by decide, g6⟩⟩, ?_⟩
    refine (zq_dupR dX11_counted_86).mpr ?_
    refine (zq_iconst (v := 2) dX11_counted_87 (by decide)).mpr ?_
    refine (zq_aload_n dX11_counted_88 rfl).mpr ?_
    refine (zq_getI2 (f := 712) (v := (mI m2 712 a0)) dX11_counted_89 fl_11_116 (by decide) rfl rfl (by first | rfl | simp only [zm_Is, zm_Rs, zm_As, zm_Os, zm_In0, zm_Rn0])).mpr ⟨g3, ?_⟩
    obtain ⟨g7, h⟩ := h
    refine (zq_iast dX11_counted_92).mpr ⟨⟨g5, ⟨by decide, g7⟩⟩, ?_⟩
    refine (zq_dupR dX11_counted_93).mpr ?_
    refine (zq_iconst (v := 3) dX11_counted_94 (by decide)).mpr ?_
    refine (zq_iload_n dX11_counted_95 rfl).mpr ?_
    obtain ⟨g8, h⟩ := h
    refine (zq_iast dX11_counted_96).mpr ⟨⟨g5, ⟨by decide, g8⟩⟩, ?_⟩
    refine (zq_dupR dX11_counted_97).mpr ?_
    refine (zq_iconst (v := 4) dX11_counted_98 (by decide)).mpr ?_
    refine (zq_aload_n dX11_counted_99 rfl).mpr ?_
    refine (zq_iconst (v := (-1)) dX11_counted_100 (by decide)).mpr ?_
    refine zq_virtualI (n := 1) dX11_counted_101 mr_11_227 zn_141 rfl rfl rfl (zrcv_R zo_141 (by decide) g3) (Nat.le_of_ble_eq_true rfl) ?_
    refine h.mono (fun r m9 h => ?_)
    obtain ⟨v10, rfl, h⟩ := h
    refine ⟨_, rfl, ?_⟩
    obtain ⟨g11, h⟩ := h
    obtain ⟨g12, h⟩ := h
    refine (zq_iast dX11_counted_104).mpr ⟨⟨g12, ⟨by decide, g11⟩⟩, ?_⟩
    refine (zq_dupR dX11_counted_105).mpr ?_
    refine (zq_iconst (v := 5) dX11_counted_106 (by decide)).mpr ?_
    refine (zq_aload_n dX11_counted_107 rfl).mpr ?_
    obtain ⟨g13, h⟩ := h
    refine (zq_getI2 (f := 736) (v := (mI m9 736 a0)) dX11_counted_108 fl_11_119 (by decide) rfl rfl (by first | rfl | simp only [zm_Is, zm_Rs, zm_As, zm_Os, zm_In0, zm_Rn0])).mpr ⟨g13, ?_⟩
    obtain ⟨g14, h⟩ := h
    refine (zq_iast dX11_counted_111).mpr ⟨⟨g12, ⟨by decide, g14⟩⟩, ?_⟩
    refine (zq_dupR dX11_counted_112).mpr ?_
    refine (zq_bipush (v := 6) dX11_counted_113 (by decide)).mpr ?_
    refine (zq_aload_n dX11_counted_115 rfl).mpr ?_
    refine (zq_getI2 (f := 737) (v := (mI m9 737 a0)) dX11_counted_116 fl_11_122 (by decide) rfl rfl (by first | rfl | simp only [zm_Is, zm_Rs, zm_As, zm_Os, zm_In0, zm_Rn0])).mpr ⟨g13, ?_⟩
    obtain ⟨g15, h⟩ := h
    refine (zq_iast dX11_counted_119).mpr ⟨⟨g12, ⟨by decide, g15⟩⟩, ?_⟩
    refine (zq_dupR dX11_counted_120).mpr ?_
    refine (zq_bipush (v := 7) dX11_counted_121 (by decide)).mpr ?_
    refine (zq_aload_n dX11_counted_123 rfl).mpr ?_
    refine (zq_getI2 (f := 738) (v := (mI m9 738 a0)) dX11_counted_124 fl_11_125 (by decide) rfl rfl (by first | rfl | simp only [zm_Is, zm_Rs, zm_As, zm_Os, zm_In0, zm_Rn0])).mpr ⟨g13, ?_⟩
    obtain ⟨g16, h⟩ := h
    refine (zq_iast dX11_counted_127).mpr ⟨⟨g12, ⟨by decide, g16⟩⟩, ?_⟩
    refine (zq_dupR dX11_counted_128).mpr ?_
    refine (zq_bipush (v := 8) dX11_counted_129 (by decide)).mpr ?_
    refine (zq_iload_n dX11_counted_131 rfl).mpr ?_
    obtain ⟨g17, h⟩ := h
    refine (zq_iast dX11_counted_132).mpr ⟨⟨g12, ⟨by decide, g17⟩⟩, ?_⟩
    refine (zq_astore (l := [zR a0, zI a1, zI a2, zI a3, zR (mz m)]) dX11_counted_133 (Nat.le_of_ble_eq_true rfl) rfl).mpr ?_
    refine (zq_aload dX11_counted_135 rfl).mpr ?_
    refine (zq_iload_n dX11_counted_137 rfl).mpr ?_
    obtain ⟨g18, h⟩ := h
    refine (zq_iald2 (v := (mA (sA (sA (sA (sA (sA m9 (mz m) 4 v10) (mz m) 5 (mI m9 736 a0)) (mz m) 6 (mI m9 737 a0)) (mz m) 7 (mI m9 738 a0)) (mz m) 8 a3) (mz m) (Int.toNat a1))) dX11_counted_138 (by first | rfl | simp only [zm_Is, zm_Rs, zm_As, zm_Os, zm_In0, zm_Rn0])).mpr ⟨⟨g12, g18⟩, ?_⟩
    exact (zq_iret dX11_counted_139 rfl).mpr ⟨trivial, h⟩
  · replace h := h.2 c
    refine (zq_iload_n dX11_counted_52 rfl).mpr ?_
    refine (zq_aload_n dX11_counted_53 rfl).mpr ?_
    refine (zq_getR2 (f := 707) (v := (mR m 707 a0)) dX11_counted_54 fl_11_15 (by decide) rfl rfl (by first | rfl | simp only [zm_Is, zm_Rs, zm_As, zm_Os, zm_In0, zm_Rn0])).mpr ⟨g1, ?_⟩
    refine (zq_iload dX11_counted_57 rfl).mpr ?_
    obtain ⟨g19, h⟩ := h
    obtain ⟨g20, h⟩ := h
    refine (zq_iald2 (v := (mA m (mR m 707 a0) (Int.toNat a4))) dX11_counted_59 (by first | rfl | simp only [zm_Is, zm_Rs, zm_As, zm_Os, zm_In0, zm_Rn0])).mpr ⟨⟨g19, g20⟩, ?_⟩
    refine (zq_iadd dX11_counted_60).mpr ?_
    refine (zq_istore_n (l := [zR a0, zI a1, zI a2, zI (wr (a3 + (mA m (mR m 707 a0) (Int.toNat a4)))), zI a4]) dX11_counted_61 (Nat.le_of_ble_eq_true rfl) rfl).mpr ?_
    refine (zq_iinc (l := [zR a0, zI a1, zI a2, zI (wr (a3 + (mA m (mR m 707 a0) (Int.toNat a4)))), zI (wr (a4 + 1))]) dX11_counted_62 rfl rfl).mpr ?_
    refine (zq_goto (t := 43) dX11_counted_65 rfl).mpr ?_
    exact h
theorem bX12_init_0 {a0 : Nat} (h : (a0 ≠ 0) ∧ (∀ m2 : zM, m2 = nwA m 20 1000 → (mC m2 a0 = 13) ∧ (∀ m4 : zM, m4 = nwA (sI (sR m2 769 a0 (mz m)) 771 a0 (-1)) 20 1001 → (mC m4 a0 = 13) ∧ (∀ m6 : zM, m6 = nwA (sR m4 773 a0 (mz m2)) 20 1001 → (mC m6 a0 = 13) ∧ (∀ m8 : zM, m8 = nwA (sR m6 774 a0 (mz m4)) 20 1001 → (mC m8 a0 = 13) ∧ (∀ m10 : zM, m10 = nwA (sR m8 775 a0 (mz m6)) 20 6 → (mC m10 a0 = 13) ∧ (∀ m12 : zM, m12 = nwA (sR m10 777 a0 (mz m8)) 20 1440 → (mC m12 a0 = 13) ∧ (∀ m14 : zM, m14 = nwA (sR m12 778 a0 (mz m10)) 20 240 → (mC m14 a0 = 13) ∧ (∀ m16 : zM, m16 = nwO (sR m14 780 a0 (mz m12)) 11 36 → ((mz m14) ≠ 0) ∧ zC xs xl d 129 [zR (mz m14)] m16 (fun r m17 => r = .inl none ∧ (mC m17 a0 = 13) ∧ (∀ m21 : zM, m21 = nwO (sR m17 784 a0 (mz m14)) 11 36 → ((mz m17) ≠ 0) ∧ zC xs xl d 129 [zR (mz m17)] m21 (fun r m22 => r = .inl none ∧ (mC m22 a0 = 13) ∧ Q (.inl none) (sR m22 785 a0 (mz m17)))))))))))))) : zC xs xl (d + 1) 160 [zR a0] m Q := by
  refine zk_160 ?_
  refine (zq_aload_n dX12_init_0 rfl).mpr ?_
  obtain ⟨g1, h⟩ := h
  refine (zq_oinit dX12_init_1 mr_12_1).mpr ⟨⟨g1, (Nat.le_of_ble_eq_true rfl)⟩, ?_⟩
  refine (zq_aload_n dX12_init_4 rfl).mpr ?_
  refine (zq_sipush (v := 1000) dX12_init_5 (by decide)).mpr ?_
  refine zq_newarray2 (kd := 20) (i := 1000) dX12_init_8 rfl (by decide) rfl ⟨by decide, by decide⟩ (fun m2 em2 => ?_)
  replace h := h m2 em2
  obtain ⟨g3, h⟩ := h
  refine (zq_putR (f := 769) dX12_init_10 fl_12_9 (by decide) rfl rfl rfl).mpr ⟨g3, ?_⟩
  refine (zq_aload_n dX12_init_13 rfl).mpr ?_
  refine (zq_iconst (v := (-1)) dX12_init_14 (by decide)).mpr ?_
  refine (zq_putI (f := 771) dX12_init_15 fl_12_13 (by decide) rfl rfl rfl).mpr ⟨g3, ?_⟩
  refine (zq_aload_n dX12_init_18 rfl).mpr ?_
  refine (zq_sipush (v := 1001) dX12_init_19 (by decide)).mpr ?_
  refine zq_newarray2 (kd := 20) (i := 1001) dX12_init_22 rfl (by decide) rfl ⟨by decide, by decide⟩ (fun m4 em4 => ?_)
  replace h := h m4 em4
  obtain ⟨g5, h⟩ := h
  refine (zq_putR (f := 773) dX12_init_24 fl_12_17 (by decide) rfl rfl rfl).mpr ⟨g5, ?_⟩
  refine (zq_aload_n dX12_init_27 rfl).mpr ?_
  refine (zq_sipush (v := 1001) dX12_init_28 (by decide)).mpr ?_
  refine zq_newarray2 (kd := 20) (i := 1001) dX12_init_31 rfl (by decide) rfl ⟨by decide, by decide⟩ (fun m6 em6 => ?_)
  replace h := h m6 em6
  obtain ⟨g7, h⟩ := h
  refine (zq_putR (f := 774) dX12_init_33 fl_12_20 (by decide) rfl rfl rfl).mpr ⟨g7, ?_⟩
  refine (zq_aload_n dX12_init_36 rfl).mpr ?_
  refine (zq_sipush (v := 1001) dX12_init_37 (by decide)).mpr ?_
  refine zq_newarray2 (kd := 20) (i := 1001) dX12_init_40 rfl (by decide) rfl ⟨by decide, by decide⟩ (fun m8 em8 => ?_)
  replace h := h m8 em8
  obtain ⟨g9, h⟩ := h
  refine (zq_putR (f := 775) dX12_init_42 fl_12_23 (by decide) rfl rfl rfl).mpr ⟨g9, ?_⟩
  refine (zq_aload_n dX12_init_45 rfl).mpr ?_
  refine (zq_bipush (v := 6) dX12_init_46 (by decide)).mpr ?_
  refine zq_newarray2 (kd := 20) (i := 6) dX12_init_48 rfl (by decide) rfl ⟨by decide, by decide⟩ (fun m10 em10 => ?_)
  replace h := h m10 em10
  obtain ⟨g11, h⟩ := h
  refine (zq_putR (f := 777) dX12_init_50 fl_12_26 (by decide) rfl rfl rfl).mpr ⟨g11, ?_⟩
  refine (zq_aload_n dX12_init_53 rfl).mpr ?_
  refine (zq_sipush (v := 1440) dX12_init_54 (by decide)).mpr ?_
  refine zq_newarray2 (kd := 20) (i := 1440) dX12_init_57 rfl (by decide) rfl ⟨by decide, by decide⟩ (fun m12 em12 => ?_)
  replace h := h m12 em12
  obtain ⟨g13, h⟩ := h
  refine (zq_putR (f := 778) dX12_init_59 fl_12_29 (by decide) rfl rfl rfl).mpr ⟨g13, ?_⟩
  refine (zq_aload_n dX12_init_62 rfl).mpr ?_
  refine (zq_sipush (v := 240) dX12_init_63 (by decide)).mpr ?_
  refine zq_newarray2 (kd := 20) (i := 240) dX12_init_66 rfl (by decide) rfl ⟨by decide, by decide⟩ (fun m14 em14 => ?_)
  replace h := h m14 em14
  obtain ⟨g15, h⟩ := h
  refine (zq_putR (f := 780) dX12_init_68 fl_12_32 (by decide) rfl rfl rfl).mpr ⟨g15, ?_⟩
  refine (zq_aload_n dX12_init_71 rfl).mpr ?_
  refine zq_new2 dX12_init_72 nw_12_35 rfl (fun m16 em16 => ?_)
  replace h := h m16 em16
  refine (zq_dupR dX12_init_75).mpr ?_
  obtain ⟨g19, h⟩ := h
  refine zq_special2 (n := 0) dX12_init_76 mr_12_37 zn_129 rfl rfl g19 (Nat.le_of_ble_eq_true rfl) ?_
  refine h.mono (fun r m17 h => ?_)
  obtain ⟨rfl, h⟩ := h
  refine ⟨rfl, ?_⟩
  obtain ⟨g20, h⟩ := h
  refine (zq_putR (f := 784) dX12_init_79 fl_12_38 (by decide) rfl rfl rfl).mpr ⟨g20, ?_⟩
  refine (zq_aload_n dX12_init_82 rfl).mpr ?_
  refine zq_new2 dX12_init_83 nw_12_35 rfl (fun m21 em21 => ?_)
  replace h := h m21 em21
  refine (zq_dupR dX12_init_86).mpr ?_
  obtain ⟨g24, h⟩ := h
  refine zq_special2 (n := 0) dX12_init_87 mr_12_37 zn_129 rfl rfl g24 (Nat.le_of_ble_eq_true rfl) ?_
  refine h.mono (fun r m22 h => ?_)
  obtain ⟨rfl, h⟩ := h
  refine ⟨rfl, ?_⟩
  obtain ⟨g25, h⟩ := h
  refine (zq_putR (f := 785) dX12_init_90 fl_12_42 (by decide) rfl rfl rfl).mpr ⟨g25, ?_⟩
  exact (zq_ret dX12_init_93 rfl).mpr h
theorem bX12_thrown_0 {a0 : Nat} (h : (mC m a0 = 13) ∧ Q (.inl (some (zI (mI m 768 a0)))) m) : zC xs xl (d + 1) 161 [zR a0] m Q := by
  refine zk_161 ?_
  refine (zq_aload_n dX12_thrown_0 rfl).mpr ?_
  obtain ⟨g1, h⟩ := h
  refine (zq_getI2 (f := 768) (v := (mI m 768 a0)) dX12_thrown_1 fl_12_45 (by decide) rfl rfl (by first | rfl | simp only [zm_Is, zm_Rs, zm_As, zm_Os, zm_In0, zm_Rn0])).mpr ⟨g1, ?_⟩
  exact (zq_iret dX12_thrown_4 rfl).mpr ⟨trivial, h⟩
theorem bX12_no_0 {a0 : Nat} {a1 : Int} (h : (mC m a0 = 13) ∧ Q (.inl (some (zI 0))) (sI m 768 a0 a1)) : zC xs xl (d + 1) 162 [zR a0, zI a1] m Q := by
  refine zk_162 ?_
  refine (zq_aload_n dX12_no_0 rfl).mpr ?_
  refine (zq_iload_n dX12_no_1 rfl).mpr ?_
  obtain ⟨g1, h⟩ := h
  refine (zq_putI (f := 768) dX12_no_2 fl_12_45 (by decide) rfl rfl rfl).mpr ⟨g1, ?_⟩
  refine (zq_iconst (v := 0) dX12_no_5 (by decide)).mpr ?_
  exact (zq_iret dX12_no_6 rfl).mpr ⟨trivial, h⟩
theorem bX12_isIn_0 {a0 : Int} {a1 : Int} {a2 : Int} (h : ((a0 < a1 → Q (.inl (some (zI 0))) m) ∧ (¬ (a0 < a1) → ((a2 < a0 → Q (.inl (some (zI 0))) m) ∧ (¬ (a2 < a0) → Q (.inl (some (zI 1))) m))))) : zC xs xl (d + 1) 163 [zI a0, zI a1, zI a2] m Q := by
  refine zk_163 ?_
  refine (zq_iload_n dX12_isIn_0 rfl).mpr ?_
  refine (zq_iload_n dX12_isIn_1 rfl).mpr ?_
  refine (zq_icmp_lt (t := 14) dX12_isIn_2 rfl).mpr ⟨fun c => ?_, fun c => ?_⟩
  · replace h := h.1 c
    refine (zq_iconst (v := 0) dX12_isIn_14 (by decide)).mpr ?_
    exact (zq_iret dX12_isIn_15 rfl).mpr ⟨Or.inl rfl, h⟩
  · replace h := h.2 c
    refine (zq_iload_n dX12_isIn_5 rfl).mpr ?_
    refine (zq_iload_n dX12_isIn_6 rfl).mpr ?_
    refine (zq_icmp_gt (t := 14) dX12_isIn_7 rfl).mpr ⟨fun c => ?_, fun c => ?_⟩
    · replace h := h.1 c
      refine (zq_iconst (v := 0) dX12_isIn_14 (by decide)).mpr ?_
      exact (zq_iret dX12_isIn_15 rfl).mpr ⟨Or.inl rfl, h⟩
    · replace h := h.2 c
      refine (zq_iconst (v := 1) dX12_isIn_10 (by decide)).mpr ?_
      refine (zq_goto (t := 15) dX12_isIn_11 rfl).mpr ?_
      exact (zq_iret dX12_isIn_15 rfl).mpr ⟨Or.inr rfl, h⟩
theorem bX12_feed_0 {a0 : Nat} {a1 : Int} {a2 : Int} {a3 : Int} {a4 : Int} {a5 : Int} (h : (mC m a0 = 13) ∧ (((wr ((mI m 770 a0) + 20)) ≤ 1000 → (∀ m2 : zM, m2 = nwA (sI m 768 a0 0) 20 5 → ((0 : Int) < mN m2 (mz m)) ∧ (mC m2 (mz m) = 20) ∧ ((1 : Int) < mN m2 (mz m)) ∧ ((2 : Int) < mN m2 (mz m)) ∧ ((3 : Int) < mN m2 (mz m)) ∧ ((4 : Int) < mN m2 (mz m)) ∧ (20 ≤ mC m2 (mz m) ∧ mC m2 (mz m) < 43) ∧ zW xs xl d cX12_feed 12 (some .int) false [] 63 [zR a0, zI a1, zI a2, zI a3, zI a4, zI a5, zR (mz m), zR (mz m), zI (wr (mN m2 (mz m))), zI 0, zU, zU] [] (sA (sA (sA (sA (sA m2 (mz m) 0 a1) (mz m) 1 a2) (mz m) 2 a3) (mz m) 3 a4) (mz m) 4 a5) Q)) ∧ (¬ ((wr ((mI m 770 a0) + 20)) ≤ 1000) → zC xs xl d 162 [zR a0, zI 1] (sI m 768 a0 0) (fun r m10 => ∃ v11 : Int, r = .inl (some (zI v11)) ∧ Q (.inl (some (zI v11))) m10)))) : zC xs xl (d + 1) 164 [zR a0, zI a1, zI a2, zI a3, zI a4, zI a5] m Q := by
  refine zk_164 ?_
  refine (zq_aload_n dX12_feed_0 rfl).mpr ?_
  refine (zq_iconst (v := 0) dX12_feed_1 (by decide)).mpr ?_
  obtain ⟨g1, h⟩ := h
  refine (zq_putI (f := 768) dX12_feed_2 fl_12_45 (by decide) rfl rfl rfl).mpr ⟨g1, ?_⟩
  refine (zq_aload_n dX12_feed_5 rfl).mpr ?_
  refine (zq_getI2 (f := 770) (v := (mI m 770 a0)) dX12_feed_6 fl_12_48 (by decide) rfl rfl (by first | rfl | simp only [zm_Is, zm_Rs, zm_As, zm_Os, zm_In0, zm_Rn0])).mpr ⟨g1, ?_⟩
  refine (zq_bipush (v := 20) dX12_feed_9 (by decide)).mpr ?_
  refine (zq_iadd dX12_feed_11).mpr ?_
  refine (zq_sipush (v := 1000) dX12_feed_12 (by decide)).mpr ?_
  refine (zq_icmp_le (t := 24) dX12_feed_15 rfl).mpr ⟨fun c => ?_, fun c => ?_⟩
  · replace h := h.1 c
    refine (zq_iconst (v := 5) dX12_feed_24 (by decide)).mpr ?_
    refine zq_newarray2 (kd := 20) (i := 5) dX12_feed_25 rfl (by decide) rfl ⟨by decide, by decide⟩ (fun m2 em2 => ?_)
    replace h := h m2 em2
    refine (zq_dupR dX12_feed_27).mpr ?_
    refine (zq_iconst (v := 0) dX12_feed_28 (by decide)).mpr ?_
    refine (zq_iload_n dX12_feed_29 rfl).mpr ?_
    obtain ⟨g3, h⟩ := h
    obtain ⟨g4, h⟩ := h
    refine (zq_iast dX12_feed_30).mpr ⟨⟨g4, ⟨by decide, g3⟩⟩, ?_⟩
    refine (zq_dupR dX12_feed_31).mpr ?_
    refine (zq_iconst (v := 1) dX12_feed_32 (by decide)).mpr ?_
    refine (zq_iload_n dX12_feed_33 rfl).mpr ?_
    obtain ⟨g5, h⟩ := h
    refine (zq_iast dX12_feed_34).mpr ⟨⟨g4, ⟨by decide, g5⟩⟩, ?_⟩
    refine (zq_dupR dX12_feed_35).mpr ?_
    refine (zq_iconst (v := 2) dX12_feed_36 (by decide)).mpr ?_
    refine (zq_iload_n dX12_feed_37 rfl).mpr ?_
    obtain ⟨g6, h⟩ := h
    refine (zq_iast dX12_feed_38).mpr ⟨⟨g4, ⟨by decide, g6⟩⟩, ?_⟩
    refine (zq_dupR dX12_feed_39).mpr ?_
    refine (zq_iconst (v := 3) dX12_feed_40 (by decide)).mpr ?_
    refine (zq_iload dX12_feed_41 rfl).mpr ?_
    obtain ⟨g7, h⟩ := h
    refine (zq_iast dX12_feed_43).mpr ⟨⟨g4, ⟨by decide, g7⟩⟩, ?_⟩
    refine (zq_dupR dX12_feed_44).mpr ?_
    refine (zq_iconst (v := 4) dX12_feed_45 (by decide)).mpr ?_
    refine (zq_iload dX12_feed_46 rfl).mpr ?_
    obtain ⟨g8, h⟩ := h
    refine (zq_iast dX12_feed_48).mpr ⟨⟨g4, ⟨by decide, g8⟩⟩, ?_⟩
    refine (zq_astore (l := [zR a0, zI a1, zI a2, zI a3, zI a4, zI a5, zR (mz m), zU, zU, zU, zU, zU]) dX12_feed_49 (Nat.le_of_ble_eq_true rfl) rfl).mpr ?_
    refine (zq_aload dX12_feed_51 rfl).mpr ?_
    refine (zq_astore (l := [zR a0, zI a1, zI a2, zI a3, zI a4, zI a5, zR (mz m), zR (mz m), zU, zU, zU, zU]) dX12_feed_53 (Nat.le_of_ble_eq_true rfl) rfl).mpr ?_
    refine (zq_aload dX12_feed_55 rfl).mpr ?_
    obtain ⟨g9, h⟩ := h
    refine (zq_alen dX12_feed_57).mpr ⟨g9, ?_⟩
    refine (zq_istore (l := [zR a0, zI a1, zI a2, zI a3, zI a4, zI a5, zR (mz m), zR (mz m), zI (wr (mN m2 (mz m))), zU, zU, zU]) dX12_feed_58 (Nat.le_of_ble_eq_true rfl) rfl).mpr ?_
    refine (zq_iconst (v := 0) dX12_feed_60 (by decide)).mpr ?_
    refine (zq_istore (l := [zR a0, zI a1, zI a2, zI a3, zI a4, zI a5, zR (mz m), zR (mz m), zI (wr (mN m2 (mz m))), zI 0, zU, zU]) dX12_feed_61 (Nat.le_of_ble_eq_true rfl) rfl).mpr ?_
    exact h
  · replace h := h.2 c
    refine (zq_aload_n dX12_feed_18 rfl).mpr ?_
    refine (zq_iconst (v := 1) dX12_feed_19 (by decide)).mpr ?_
    refine zq_virtualI (n := 1) dX12_feed_20 mr_12_51 zn_162 rfl rfl rfl (zrcv_R zo_162 (by decide) g1) (Nat.le_of_ble_eq_true rfl) ?_
    refine h.mono (fun r m10 h => ?_)
    obtain ⟨v11, rfl, h⟩ := h
    refine ⟨_, rfl, ?_⟩
    exact (zq_iret dX12_feed_23 rfl).mpr ⟨trivial, h⟩
theorem bX12_feed_63 {a0 : Nat} {a1 : Int} {a2 : Int} {a3 : Int} {a4 : Int} {a5 : Int} {a6 : Nat} {a7 : Nat} {a8 : Int} {a9 : Int} {a10 : zV} {a11 : zV} (h : ((a8 ≤ a9 → (mC m a0 = 13) ∧ Q (.inl (some (zI (mI m 770 a0)))) m) ∧ (¬ (a8 ≤ a9) → (mC m a7 = 20) ∧ (0 ≤ a9 ∧ a9 < mN m a7) ∧ zW xs xl d cX12_feed 12 (some .int) false [] 80 [zR a0, zI a1, zI a2, zI a3, zI a4, zI a5, zR a6, zR a7, zI a8, zI a9, zI (mA m a7 (Int.toNat a9)), zI 3] [] m Q))) : zW xs xl d cX12_feed 12 (some .int) false [] 63 [zR a0, zI a1, zI a2, zI a3, zI a4, zI a5, zR a6, zR a7, zI a8, zI a9, a10, a11] [] m Q := by
  refine (zq_iload dX12_feed_63 rfl).mpr ?_
  refine (zq_iload dX12_feed_65 rfl).mpr ?_
  refine (zq_icmp_ge (t := 128) dX12_feed_67 rfl).mpr ⟨fun c => ?_, fun c => ?_⟩
  · replace h := h.1 c
    refine (zq_aload_n dX12_feed_128 rfl).mpr ?_
    obtain ⟨g1, h⟩ := h
    refine (zq_getI2 (f := 770) (v := (mI m 770 a0)) dX12_feed_129 fl_12_48 (by decide) rfl rfl (by first | rfl | simp only [zm_Is, zm_Rs, zm_As, zm_Os, zm_In0, zm_Rn0])).mpr ⟨g1, ?_⟩
    exact (zq_iret dX12_feed_132 rfl).mpr ⟨trivial, h⟩
  · replace h := h.2 c
    refine (zq_aload dX12_feed_70 rfl).mpr ?_
    refine (zq_iload dX12_feed_72 rfl).mpr ?_
    obtain ⟨g2, h⟩ := h
    obtain ⟨g3, h⟩ := h
    refine (zq_iald2 (v := (mA m a7 (Int.toNat a9))) dX12_feed_74 (by first | rfl | simp only [zm_Is, zm_Rs, zm_As, zm_Os, zm_In0, zm_Rn0])).mpr ⟨⟨g2, g3⟩, ?_⟩
    refine (zq_istore (l := [zR a0, zI a1, zI a2, zI a3, zI a4, zI a5, zR a6, zR a7, zI a8, zI a9, zI (mA m a7 (Int.toNat a9)), a11]) dX12_feed_75 (Nat.le_of_ble_eq_true rfl) rfl).mpr ?_
    refine (zq_iconst (v := 3) dX12_feed_77 (by decide)).mpr ?_
    refine (zq_istore (l := [zR a0, zI a1, zI a2, zI a3, zI a4, zI a5, zR a6, zR a7, zI a8, zI a9, zI (mA m a7 (Int.toNat a9)), zI 3]) dX12_feed_78 (Nat.le_of_ble_eq_true rfl) rfl).mpr ?_
    exact h
theorem bX12_feed_80 {a0 : Nat} {a1 : Int} {a2 : Int} {a3 : Int} {a4 : Int} {a5 : Int} {a6 : Nat} {a7 : Nat} {a8 : Int} {a9 : Int} {a10 : Int} {a11 : Int} (h : ((a11 < 0 → zW xs xl d cX12_feed 12 (some .int) false [] 63 [zR a0, zI a1, zI a2, zI a3, zI a4, zI a5, zR a6, zR a7, zI a8, zI (wr (a9 + 1)), zI a10, zI a11] [] m Q) ∧ (¬ (a11 < 0) → (mC m a0 = 13) ∧ (0 ≤ (mI m 770 a0) ∧ (mI m 770 a0) < mN m (mR m 769 a0)) ∧ (mC m (mR m 769 a0) = 20) ∧ zW xs xl d cX12_feed 12 (some .int) false [] 80 [zR a0, zI a1, zI a2, zI a3, zI a4, zI a5, zR a6, zR a7, zI a8, zI a9, zI a10, zI (wr (a11 + (-1)))] [] (sI (sA m (mR m 769 a0) (Int.toNat (mI m 770 a0)) (bAnd (bShr a10 (wr (8 * a11))) 255)) 770 a0 (wr ((mI m 770 a0) + 1))) Q))) : zW xs xl d cX12_feed 12 (some .int) false [] 80 [zR a0, zI a1, zI a2, zI a3, zI a4, zI a5, zR a6, zR a7, zI a8, zI a9, zI a10, zI a11] [] m Q := by
  refine (zq_iload dX12_feed_80 rfl).mpr ?_
  refine (zq_if_lt (t := 122) dX12_feed_82 rfl).mpr ⟨fun c => ?_, fun c => ?_⟩
  · replace h := h.1 c
    refine (zq_iinc (l := [zR a0, zI a1, zI a2, zI a3, zI a4, zI a5, zR a6, zR a7, zI a8, zI (wr (a9 + 1)), zI a10, zI a11]) dX12_feed_122 rfl rfl).mpr ?_
    refine (zq_goto (t := 63) dX12_feed_125 rfl).mpr ?_
    exact h
  · replace h := h.2 c
    refine (zq_aload_n dX12_feed_85 rfl).mpr ?_
    obtain ⟨g1, h⟩ := h
    refine (zq_getR2 (f := 769) (v := (mR m 769 a0)) dX12_feed_86 fl_12_9 (by decide) rfl rfl (by first | rfl | simp only [zm_Is, zm_Rs, zm_As, zm_Os, zm_In0, zm_Rn0])).mpr ⟨g1, ?_⟩
    refine (zq_aload_n dX12_feed_89 rfl).mpr ?_
    refine (zq_getI2 (f := 770) (v := (mI m 770 a0)) dX12_feed_90 fl_12_48 (by decide) rfl rfl (by first | rfl | simp only [zm_Is, zm_Rs, zm_As, zm_Os, zm_In0, zm_Rn0])).mpr ⟨g1, ?_⟩
    refine (zq_iload dX12_feed_93 rfl).mpr ?_
    refine (zq_bipush (v := 8) dX12_feed_95 (by decide)).mpr ?_
    refine (zq_iload dX12_feed_97 rfl).mpr ?_
    refine (zq_imul dX12_feed_99).mpr ?_
    refine (zq_ishr dX12_feed_100).mpr ?_
    refine (zq_sipush (v := 255) dX12_feed_101 (by decide)).mpr ?_
    refine (zq_iand dX12_feed_104).mpr ?_
    obtain ⟨g2, h⟩ := h
    obtain ⟨g3, h⟩ := h
    refine (zq_iast dX12_feed_105).mpr ⟨⟨g3, g2⟩, ?_⟩
    refine (zq_aload_n dX12_feed_106 rfl).mpr ?_
    refine (zq_dupR dX12_feed_107).mpr ?_
    refine (zq_getI2 (f := 770) (v := (mI m 770 a0)) dX12_feed_108 fl_12_48 (by decide) rfl rfl (by first | rfl | simp only [zm_Is, zm_Rs, zm_As, zm_Os, zm_In0, zm_Rn0])).mpr ⟨g1, ?_⟩
    refine (zq_iconst (v := 1) dX12_feed_111 (by decide)).mpr ?_
    refine (zq_iadd dX12_feed_112).mpr ?_
    refine (zq_putI (f := 770) dX12_feed_113 fl_12_48 (by decide) rfl rfl rfl).mpr ⟨g1, ?_⟩
    refine (zq_iinc (l := [zR a0, zI a1, zI a2, zI a3, zI a4, zI a5, zR a6, zR a7, zI a8, zI a9, zI a10, zI (wr (a11 + (-1)))]) dX12_feed_116 rfl rfl).mpr ?_
    refine (zq_goto (t := 80) dX12_feed_119 rfl).mpr ?_
    exact h
end ZB6
