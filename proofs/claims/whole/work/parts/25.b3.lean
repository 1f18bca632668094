section ZB3
variable {xs : Nat → Int} {xl d : Nat} {m : zM} {Q : zRes → zM → Prop}
theorem bX9_stuckSlips_0 {a0 : Nat} (h : zW xs xl d cX9_stuckSlips 9 (some .int) false [] 4 [zR a0, zI 0, zI 0, zU] [] m Q) : zC xs xl (d + 1) 95 [zR a0] m Q := by
  refine zk_95 ?_
  refine (zq_iconst (v := 0) dX9_stuckSlips_0 (by decide)).mpr ?_
  refine (zq_istore_n (l := [zR a0, zI 0, zU, zU]) dX9_stuckSlips_1 (Nat.le_of_ble_eq_true rfl) rfl).mpr ?_
  refine (zq_iconst (v := 0) dX9_stuckSlips_2 (by decide)).mpr ?_
  refine (zq_istore_n (l := [zR a0, zI 0, zI 0, zU]) dX9_stuckSlips_3 (Nat.le_of_ble_eq_true rfl) rfl).mpr ?_
  exact h
theorem bX9_stuckSlips_4 {a0 : Nat} {a1 : Int} {a2 : Int} {a3 : zV} (h : ((5 ≤ a2 → zW xs xl d cX9_stuckSlips 9 (some .int) false [] 36 [zR a0, zI a1, zI 0, a3] [] m Q) ∧ (¬ (5 ≤ a2) → (mC m a0 = 10) ∧ (mC m (mR m 579 a0) = 20) ∧ (0 ≤ a2 ∧ a2 < mN m (mR m 579 a0)) ∧ (((mA m (mR m 579 a0) (Int.toNat a2)) ≤ 0 → zW xs xl d cX9_stuckSlips 9 (some .int) false [] 4 [zR a0, zI (bOr a1 0), zI (wr (a2 + 1)), a3] [] m Q) ∧ (¬ ((mA m (mR m 579 a0) (Int.toNat a2)) ≤ 0) → zW xs xl d cX9_stuckSlips 9 (some .int) false [] 4 [zR a0, zI (bOr a1 (bShl 1 a2)), zI (wr (a2 + 1)), a3] [] m Q))))) : zW xs xl d cX9_stuckSlips 9 (some .int) false [] 4 [zR a0, zI a1, zI a2, a3] [] m Q := by
  refine (zq_iload_n dX9_stuckSlips_4 rfl).mpr ?_
  refine (zq_iconst (v := 5) dX9_stuckSlips_5 (by decide)).mpr ?_
  refine (zq_icmp_ge (t := 34) dX9_stuckSlips_6 rfl).mpr ⟨fun c => ?_, fun c => ?_⟩
  · replace h := h.1 c
    refine (zq_iconst (v := 0) dX9_stuckSlips_34 (by decide)).mpr ?_
    refine (zq_istore_n (l := [zR a0, zI a1, zI 0, a3]) dX9_stuckSlips_35 (Nat.le_of_ble_eq_true rfl) rfl).mpr ?_
    exact h
  · replace h := h.2 c
    refine (zq_iload_n dX9_stuckSlips_9 rfl).mpr ?_
    refine (zq_aload_n dX9_stuckSlips_10 rfl).mpr ?_
    obtain ⟨g1, h⟩ := h
    refine (zq_getR2 (f := 579) (v := (mR m 579 a0)) dX9_stuckSlips_11 fl_9_26 (by decide) rfl rfl (by first | rfl | simp only [zm_Is, zm_Rs, zm_As, zm_Os, zm_In0, zm_Rn0])).mpr ⟨g1, ?_⟩
    refine (zq_iload_n dX9_stuckSlips_14 rfl).mpr ?_
    obtain ⟨g2, h⟩ := h
    obtain ⟨g3, h⟩ := h
    refine (zq_iald2 (v := (mA m (mR m 579 a0) (Int.toNat a2))) dX9_stuckSlips_15 (by first | rfl | simp only [zm_Is, zm_Rs, zm_As, zm_Os, zm_In0, zm_Rn0])).mpr ⟨⟨g2, g3⟩, ?_⟩
    refine (zq_if_le (t := 25) dX9_stuckSlips_16 rfl).mpr ⟨fun c => ?_, fun c => ?_⟩
    · replace h := h.1 c
      refine (zq_iconst (v := 0) dX9_stuckSlips_25 (by decide)).mpr ?_
      refine (zq_ior dX9_stuckSlips_26).mpr ?_
      refine (zq_istore_n (l := [zR a0, zI (bOr a1 0), zI a2, a3]) dX9_stuckSlips_27 (Nat.le_of_ble_eq_true rfl) rfl).mpr ?_
      refine (zq_iinc (l := [zR a0, zI (bOr a1 0), zI (wr (a2 + 1)), a3]) dX9_stuckSlips_28 rfl rfl).mpr ?_
      refine (zq_goto (t := 4) dX9_stuckSlips_31 rfl).mpr ?_
      exact h
    · replace h := h.2 c
      refine (zq_iconst (v := 1) dX9_stuckSlips_19 (by decide)).mpr ?_
      refine (zq_iload_n dX9_stuckSlips_20 rfl).mpr ?_
      refine (zq_ishl dX9_stuckSlips_21).mpr ?_
      refine (zq_goto (t := 26) dX9_stuckSlips_22 rfl).mpr ?_
      refine (zq_ior dX9_stuckSlips_26).mpr ?_
      refine (zq_istore_n (l := [zR a0, zI (bOr a1 (bShl 1 a2)), zI a2, a3]) dX9_stuckSlips_27 (Nat.le_of_ble_eq_true rfl) rfl).mpr ?_
      refine (zq_iinc (l := [zR a0, zI (bOr a1 (bShl 1 a2)), zI (wr (a2 + 1)), a3]) dX9_stuckSlips_28 rfl rfl).mpr ?_
      refine (zq_goto (t := 4) dX9_stuckSlips_31 rfl).mpr ?_
      exact h
theorem bX9_stuckSlips_36 {a0 : Nat} {a1 : Int} {a2 : Int} {a3 : zV} (h : (mC m a0 = 10) ∧ (((mI m 581 a0) ≤ a2 → zW xs xl d cX9_stuckSlips 9 (some .int) false [] 99 [zR a0, zI a1, zI 0, zI 0] [] m Q) ∧ (¬ ((mI m 581 a0) ≤ a2) → zW xs xl d cX9_stuckSlips 9 (some .int) false [] 46 [zR a0, zI a1, zI a2, zI 0] [] m Q))) : zW xs xl d cX9_stuckSlips 9 (some .int) false [] 36 [zR a0, zI a1, zI a2, a3] [] m Q := by
  refine (zq_iload_n dX9_stuckSlips_36 rfl).mpr ?_
  refine (zq_aload_n dX9_stuckSlips_37 rfl).mpr ?_
  obtain ⟨g1, h⟩ := h
  refine (zq_getI2 (f := 581) (v := (mI m 581 a0)) dX9_stuckSlips_38 fl_9_35 (by decide) rfl rfl (by first | rfl | simp only [zm_Is, zm_Rs, zm_As, zm_Os, zm_In0, zm_Rn0])).mpr ⟨g1, ?_⟩
  refine (zq_icmp_ge (t := 95) dX9_stuckSlips_41 rfl).mpr ⟨fun c => ?_, fun c => ?_⟩
  · replace h := h.1 c
    refine (zq_iconst (v := 0) dX9_stuckSlips_95 (by decide)).mpr ?_
    refine (zq_istore_n (l := [zR a0, zI a1, zI 0, a3]) dX9_stuckSlips_96 (Nat.le_of_ble_eq_true rfl) rfl).mpr ?_
    refine (zq_iconst (v := 0) dX9_stuckSlips_97 (by decide)).mpr ?_
    refine (zq_istore_n (l := [zR a0, zI a1, zI 0, zI 0]) dX9_stuckSlips_98 (Nat.le_of_ble_eq_true rfl) rfl).mpr ?_
    exact h
  · replace h := h.2 c
    refine (zq_iconst (v := 0) dX9_stuckSlips_44 (by decide)).mpr ?_
    refine (zq_istore_n (l := [zR a0, zI a1, zI a2, zI 0]) dX9_stuckSlips_45 (Nat.le_of_ble_eq_true rfl) rfl).mpr ?_
    exact h
theorem bX9_stuckSlips_46 {a0 : Nat} {a1 : Int} {a2 : Int} {a3 : Int} (h : (mC m a0 = 10) ∧ (((mI m 581 a0) ≤ a3 → zW xs xl d cX9_stuckSlips 9 (some .int) false [] 36 [zR a0, zI a1, zI (wr (a2 + 1)), zI a3] [] m Q) ∧ (¬ ((mI m 581 a0) ≤ a3) → (29 ≤ mC m (mR m 580 a0) ∧ mC m (mR m 580 a0) < 43) ∧ (0 ≤ a3 ∧ a3 < mN m (mR m 580 a0)) ∧ (mC m (mO m (mR m 580 a0) (Int.toNat a3)) = 7) ∧ zC xs xl d 70 [zR (mO m (mR m 580 a0) (Int.toNat a3)), zI a1] m (fun r m4 => ∃ v5 : Int, r = .inl (some (zI v5)) ∧ ((v5 = 0 → zW xs xl d cX9_stuckSlips 9 (some .int) false [] 46 [zR a0, zI (bOr a1 0), zI a2, zI (wr (a3 + 1))] [] m4 Q) ∧ (¬ (v5 = 0) → (mC m4 a0 = 10) ∧ (29 ≤ mC m4 (mR m4 580 a0) ∧ mC m4 (mR m4 580 a0) < 43) ∧ (0 ≤ a3 ∧ a3 < mN m4 (mR m4 580 a0)) ∧ (mC m4 (mO m4 (mR m4 580 a0) (Int.toNat a3)) = 7) ∧ zC xs xl d 71 [zR (mO m4 (mR m4 580 a0) (Int.toNat a3))] m4 (fun r m10 => ∃ v11 : Int, r = .inl (some (zI v11)) ∧ zW xs xl d cX9_stuckSlips 9 (some .int) false [] 46 [zR a0, zI (bOr a1 v11), zI a2, zI (wr (a3 + 1))] [] m10 Q))))))) : zW xs xl d cX9_stuckSlips 9 (some .int) false [] 46 [zR a0, zI a1, zI a2, zI a3] [] m Q := by
  refine (zq_iload_n dX9_stuckSlips_46 rfl).mpr ?_
  refine (zq_aload_n dX9_stuckSlips_47 rfl).mpr ?_
  obtain ⟨g1, h⟩ := h
  refine (zq_getI2 (f := 581) (v := (mI m 581 a0)) dX9_stuckSlips_48 fl_9_35 (by decide) rfl rfl (by first | rfl | simp only [zm_Is, zm_Rs, zm_As, zm_Os, zm_In0, zm_Rn0])).mpr ⟨g1, ?_⟩
  refine (zq_icmp_ge (t := 89) dX9_stuckSlips_51 rfl).mpr ⟨fun c => ?_, fun c => ?_⟩
  · replace h := h.1 c
    refine (zq_iinc (l := [zR a0, zI a1, zI (wr (a2 + 1)), zI a3]) dX9_stuckSlips_89 rfl rfl).mpr ?_
    refine (zq_goto (t := 36) dX9_stuckSlips_92 rfl).mpr ?_
    exact h
  · replace h := h.2 c
    refine (zq_iload_n dX9_stuckSlips_54 rfl).mpr ?_
    refine (zq_aload_n dX9_stuckSlips_55 rfl).mpr ?_
    refine (zq_getR2 (f := 580) (v := (mR m 580 a0)) dX9_stuckSlips_56 fl_9_31 (by decide) rfl rfl (by first | rfl | simp only [zm_Is, zm_Rs, zm_As, zm_Os, zm_In0, zm_Rn0])).mpr ⟨g1, ?_⟩
    refine (zq_iload_n dX9_stuckSlips_59 rfl).mpr ?_
    obtain ⟨g2, h⟩ := h
    obtain ⟨g3, h⟩ := h
    refine (zq_aald2 (v := (mO m (mR m 580 a0) (Int.toNat a3))) dX9_stuckSlips_60 (by first | rfl | simp only [zm_Is, zm_Rs, zm_As, zm_Os, zm_In0, zm_Rn0])).mpr ⟨⟨g2.1, g2.2, g3⟩, ?_⟩
    refine (zq_iload_n dX9_stuckSlips_61 rfl).mpr ?_
    obtain ⟨g6, h⟩ := h
    refine zq_virtualI (n := 1) dX9_stuckSlips_62 mr_9_196 zn_70 rfl rfl rfl (zrcv_R zo_70 (by decide) g6) (Nat.le_of_ble_eq_true rfl) ?_
    refine h.mono (fun r m4 h => ?_)
    obtain ⟨v5, rfl, h⟩ := h
    refine ⟨_, rfl, ?_⟩
    refine (zq_if_eq (t := 80) dX9_stuckSlips_65 rfl).mpr ⟨fun c => ?_, fun c => ?_⟩
    · replace h := h.1 c
      refine (zq_iconst (v := 0) dX9_stuckSlips_80 (by decide)).mpr ?_
      refine (zq_ior dX9_stuckSlips_81).mpr ?_
      refine (zq_istore_n (l := [zR a0, zI (bOr a1 0), zI a2, zI a3]) dX9_stuckSlips_82 (Nat.le_of_ble_eq_true rfl) rfl).mpr ?_
      refine (zq_iinc (l := [zR a0, zI (bOr a1 0), zI a2, zI (wr (a3 + 1))]) dX9_stuckSlips_83 rfl rfl).mpr ?_
      refine (zq_goto (t := 46) dX9_stuckSlips_86 rfl).mpr ?_
      exact h
    · replace h := h.2 c
      refine (zq_aload_n dX9_stuckSlips_68 rfl).mpr ?_
      obtain ⟨g7, h⟩ := h
      refine (zq_getR2 (f := 580) (v := (mR m4 580 a0)) dX9_stuckSlips_69 fl_9_31 (by decide) rfl rfl (by first | rfl | simp only [zm_Is, zm_Rs, zm_As, zm_Os, zm_In0, zm_Rn0])).mpr ⟨g7, ?_⟩
      refine (zq_iload_n dX9_stuckSlips_72 rfl).mpr ?_
      obtain ⟨g8, h⟩ := h
      obtain ⟨g9, h⟩ := h
      refine (zq_aald2 (v := (mO m4 (mR m4 580 a0) (Int.toNat a3))) dX9_stuckSlips_73 (by first | rfl | simp only [zm_Is, zm_Rs, zm_As, zm_Os, zm_In0, zm_Rn0])).mpr ⟨⟨g8.1, g8.2, g9⟩, ?_⟩
      obtain ⟨g12, h⟩ := h
      refine zq_virtualI (n := 0) dX9_stuckSlips_74 mr_9_199 zn_71 rfl rfl rfl (zrcv_R zo_71 (by decide) g12) (Nat.le_of_ble_eq_true rfl) ?_
      refine h.mono (fun r m10 h => ?_)
      obtain ⟨v11, rfl, h⟩ := h
      refine ⟨_, rfl, ?_⟩
      refine (zq_goto (t := 81) dX9_stuckSlips_77 rfl).mpr ?_
      refine (zq_ior dX9_stuckSlips_81).mpr ?_
      refine (zq_istore_n (l := [zR a0, zI (bOr a1 v11), zI a2, zI a3]) dX9_stuckSlips_82 (Nat.le_of_ble_eq_true rfl) rfl).mpr ?_
      refine (zq_iinc (l := [zR a0, zI (bOr a1 v11), zI a2, zI (wr (a3 + 1))]) dX9_stuckSlips_83 rfl rfl).mpr ?_
      refine (zq_goto (t := 46) dX9_stuckSlips_86 rfl).mpr ?_
      exact h
theorem bX9_stuckSlips_99 {a0 : Nat} {a1 : Int} {a2 : Int} {a3 : Int} (h : (mC m a0 = 10) ∧ (((mI m 581 a0) ≤ a3 → Q (.inl (some (zI a2))) m) ∧ (¬ ((mI m 581 a0) ≤ a3) → (29 ≤ mC m (mR m 580 a0) ∧ mC m (mR m 580 a0) < 43) ∧ (0 ≤ a3 ∧ a3 < mN m (mR m 580 a0)) ∧ (mC m (mO m (mR m 580 a0) (Int.toNat a3)) = 7) ∧ zC xs xl d 70 [zR (mO m (mR m 580 a0) (Int.toNat a3)), zI a1] m (fun r m4 => ∃ v5 : Int, r = .inl (some (zI v5)) ∧ ((v5 = 0 → zW xs xl d cX9_stuckSlips 9 (some .int) false [] 99 [zR a0, zI a1, zI (bOr a2 (bShl 1 a3)), zI (wr (a3 + 1))] [] m4 Q) ∧ (¬ (v5 = 0) → zW xs xl d cX9_stuckSlips 9 (some .int) false [] 99 [zR a0, zI a1, zI (bOr a2 0), zI (wr (a3 + 1))] [] m4 Q)))))) : zW xs xl d cX9_stuckSlips 9 (some .int) false [] 99 [zR a0, zI a1, zI a2, zI a3] [] m Q := by
  refine (zq_iload_n dX9_stuckSlips_99 rfl).mpr ?_
  refine (zq_aload_n dX9_stuckSlips_100 rfl).mpr ?_
  obtain ⟨g1, h⟩ := h
  refine (zq_getI2 (f := 581) (v := (mI m 581 a0)) dX9_stuckSlips_101 fl_9_35 (by decide) rfl rfl (by first | rfl | simp only [zm_Is, zm_Rs, zm_As, zm_Os, zm_In0, zm_Rn0])).mpr ⟨g1, ?_⟩
  refine (zq_icmp_ge (t := 136) dX9_stuckSlips_104 rfl).mpr ⟨fun c => ?_, fun c => ?_⟩
  · replace h := h.1 c
    refine (zq_iload_n dX9_stuckSlips_136 rfl).mpr ?_
    exact (zq_iret dX9_stuckSlips_137 rfl).mpr ⟨trivial, h⟩
  · replace h := h.2 c
    refine (zq_iload_n dX9_stuckSlips_107 rfl).mpr ?_
    refine (zq_aload_n dX9_stuckSlips_108 rfl).mpr ?_
    refine (zq_getR2 (f := 580) (v := (mR m 580 a0)) dX9_stuckSlips_109 fl_9_31 (by decide) rfl rfl (by first | rfl | simp only [zm_Is, zm_Rs, zm_As, zm_Os, zm_In0, zm_Rn0])).mpr ⟨g1, ?_⟩
    refine (zq_iload_n dX9_stuckSlips_112 rfl).mpr ?_
    obtain ⟨g2, h⟩ := h
    obtain ⟨g3, h⟩ := h
    refine (zq_aald2 (v := (mO m (mR m 580 a0) (Int.toNat a3))) dX9_stuckSlips_113 (by first | rfl | simp only [zm_Is, zm_Rs, zm_As, zm_Os, zm_In0, zm_Rn0])).mpr ⟨⟨g2.1, g2.2, g3⟩, ?_⟩
    refine (zq_iload_n dX9_stuckSlips_114 rfl).mpr ?_
    obtain ⟨g6, h⟩ := h
    refine zq_virtualI (n := 1) dX9_stuckSlips_115 mr_9_196 zn_70 rfl rfl rfl (zrcv_R zo_70 (by decide) g6) (Nat.le_of_ble_eq_true rfl) ?_
    refine h.mono (fun r m4 h => ?_)
    obtain ⟨v5, rfl, h⟩ := h
    refine ⟨_, rfl, ?_⟩
    refine (zq_if_eq (t := 125) dX9_stuckSlips_118 rfl).mpr ⟨fun c => ?_, fun c => ?_⟩
    · replace h := h.1 c
      refine (zq_iconst (v := 1) dX9_stuckSlips_125 (by decide)).mpr ?_
      refine (zq_iload_n dX9_stuckSlips_126 rfl).mpr ?_
      refine (zq_ishl dX9_stuckSlips_127).mpr ?_
      refine (zq_ior dX9_stuckSlips_128).mpr ?_
      refine (zq_istore_n (l := [zR a0, zI a1, zI (bOr a2 (bShl 1 a3)), zI a3]) dX9_stuckSlips_129 (Nat.le_of_ble_eq_true rfl) rfl).mpr ?_
      refine (zq_iinc (l := [zR a0, zI a1, zI (bOr a2 (bShl 1 a3)), zI (wr (a3 + 1))]) dX9_stuckSlips_130 rfl rfl).mpr ?_
      refine (zq_goto (t := 99) dX9_stuckSlips_133 rfl).mpr ?_
      exact h
    · replace h := h.2 c
      refine (zq_iconst (v := 0) dX9_stuckSlips_121 (by decide)).mpr ?_
      refine (zq_goto (t := 128) dX9_stuckSlips_122 rfl).mpr ?_
      refine (zq_ior dX9_stuckSlips_128).mpr ?_
      refine (zq_istore_n (l := [zR a0, zI a1, zI (bOr a2 0), zI a3]) dX9_stuckSlips_129 (Nat.le_of_ble_eq_true rfl) rfl).mpr ?_
      refine (zq_iinc (l := [zR a0, zI a1, zI (bOr a2 0), zI (wr (a3 + 1))]) dX9_stuckSlips_130 rfl rfl).mpr ?_
      refine (zq_goto (t := 99) dX9_stuckSlips_133 rfl).mpr ?_
      exact h
theorem bX9_buildingSlips_0 {a0 : Nat} (h : zW xs xl d cX9_buildingSlips 9 (some .int) false [] 4 [zR a0, zI 0, zI 0] [] m Q) : zC xs xl (d + 1) 96 [zR a0] m Q := by
  refine zk_96 ?_
  refine (zq_iconst (v := 0) dX9_buildingSlips_0 (by decide)).mpr ?_
  refine (zq_istore_n (l := [zR a0, zI 0, zU]) dX9_buildingSlips_1 (Nat.le_of_ble_eq_true rfl) rfl).mpr ?_
  refine (zq_iconst (v := 0) dX9_buildingSlips_2 (by decide)).mpr ?_
  refine (zq_istore_n (l := [zR a0, zI 0, zI 0]) dX9_buildingSlips_3 (Nat.le_of_ble_eq_true rfl) rfl).mpr ?_
  exact h
theorem bX9_buildingSlips_4 {a0 : Nat} {a1 : Int} {a2 : Int} (h : (mC m a0 = 10) ∧ (((mI m 581 a0) ≤ a2 → Q (.inl (some (zI a1))) m) ∧ (¬ ((mI m 581 a0) ≤ a2) → (29 ≤ mC m (mR m 580 a0) ∧ mC m (mR m 580 a0) < 43) ∧ (0 ≤ a2 ∧ a2 < mN m (mR m 580 a0)) ∧ (mC m (mO m (mR m 580 a0) (Int.toNat a2)) = 7) ∧ (((mI m 384 (mO m (mR m 580 a0) (Int.toNat a2))) = 0 → zW xs xl d cX9_buildingSlips 9 (some .int) false [] 4 [zR a0, zI (wr (a1 + 0)), zI (wr (a2 + 1))] [] m Q) ∧ (¬ ((mI m 384 (mO m (mR m 580 a0) (Int.toNat a2))) = 0) → zW xs xl d cX9_buildingSlips 9 (some .int) false [] 4 [zR a0, zI (wr (a1 + 1)), zI (wr (a2 + 1))] [] m Q))))) : zW xs xl d cX9_buildingSlips 9 (some .int) false [] 4 [zR a0, zI a1, zI a2] [] m Q := by
  refine (zq_iload_n dX9_buildingSlips_4 rfl).mpr ?_
  refine (zq_aload_n dX9_buildingSlips_5 rfl).mpr ?_
  obtain ⟨g1, h⟩ := h
  refine (zq_getI2 (f := 581) (v := (mI m 581 a0)) dX9_buildingSlips_6 fl_9_35 (by decide) rfl rfl (by first | rfl | simp only [zm_Is, zm_Rs, zm_As, zm_Os, zm_In0, zm_Rn0])).mpr ⟨g1, ?_⟩
  refine (zq_icmp_ge (t := 38) dX9_buildingSlips_9 rfl).mpr ⟨fun c => ?_, fun c => ?_⟩
  · replace h := h.1 c
    refine (zq_iload_n dX9_buildingSlips_38 rfl).mpr ?_
    exact (zq_iret dX9_buildingSlips_39 rfl).mpr ⟨trivial, h⟩
  · replace h := h.2 c
    refine (zq_iload_n dX9_buildingSlips_12 rfl).mpr ?_
    refine (zq_aload_n dX9_buildingSlips_13 rfl).mpr ?_
    refine (zq_getR2 (f := 580) (v := (mR m 580 a0)) dX9_buildingSlips_14 fl_9_31 (by decide) rfl rfl (by first | rfl | simp only [zm_Is, zm_Rs, zm_As, zm_Os, zm_In0, zm_Rn0])).mpr ⟨g1, ?_⟩
    refine (zq_iload_n dX9_buildingSlips_17 rfl).mpr ?_
    obtain ⟨g2, h⟩ := h
    obtain ⟨g3, h⟩ := h
    refine (zq_aald2 (v := (mO m (mR m 580 a0) (Int.toNat a2))) dX9_buildingSlips_18 (by first | rfl | simp only [zm_Is, zm_Rs, zm_As, zm_Os, zm_In0, zm_Rn0])).mpr ⟨⟨g2.1, g2.2, g3⟩, ?_⟩
    obtain ⟨g4, h⟩ := h
    refine (zq_getI2 (f := 384) (v := (mI m 384 (mO m (mR m 580 a0) (Int.toNat a2)))) dX9_buildingSlips_19 fl_9_176 (by decide) rfl rfl (by first | rfl | simp only [zm_Is, zm_Rs, zm_As, zm_Os, zm_In0, zm_Rn0])).mpr ⟨g4, ?_⟩
    refine (zq_if_eq (t := 29) dX9_buildingSlips_22 rfl).mpr ⟨fun c => ?_, fun c => ?_⟩
    · replace h := h.1 c
      refine (zq_iconst (v := 0) dX9_buildingSlips_29 (by decide)).mpr ?_
      refine (zq_iadd dX9_buildingSlips_30).mpr ?_
      refine (zq_istore_n (l := [zR a0, zI (wr (a1 + 0)), zI a2]) dX9_buildingSlips_31 (Nat.le_of_ble_eq_true rfl) rfl).mpr ?_
      refine (zq_iinc (l := [zR a0, zI (wr (a1 + 0)), zI (wr (a2 + 1))]) dX9_buildingSlips_32 rfl rfl).mpr ?_
      refine (zq_goto (t := 4) dX9_buildingSlips_35 rfl).mpr ?_
      exact h
    · replace h := h.2 c
      refine (zq_iconst (v := 1) dX9_buildingSlips_25 (by decide)).mpr ?_
      refine (zq_goto (t := 30) dX9_buildingSlips_26 rfl).mpr ?_
      refine (zq_iadd dX9_buildingSlips_30).mpr ?_
      refine (zq_istore_n (l := [zR a0, zI (wr (a1 + 1)), zI a2]) dX9_buildingSlips_31 (Nat.le_of_ble_eq_true rfl) rfl).mpr ?_
      refine (zq_iinc (l := [zR a0, zI (wr (a1 + 1)), zI (wr (a2 + 1))]) dX9_buildingSlips_32 rfl rfl).mpr ?_
      refine (zq_goto (t := 4) dX9_buildingSlips_35 rfl).mpr ?_
      exact h
theorem bX9_waitingSlips_0 {a0 : Nat} (h : zW xs xl d cX9_waitingSlips 9 (some .int) false [] 4 [zR a0, zI 0, zI 0] [] m Q) : zC xs xl (d + 1) 97 [zR a0] m Q := by
  refine zk_97 ?_
  refine (zq_iconst (v := 0) dX9_waitingSlips_0 (by decide)).mpr ?_
  refine (zq_istore_n (l := [zR a0, zI 0, zU]) dX9_waitingSlips_1 (Nat.le_of_ble_eq_true rfl) rfl).mpr ?_
  refine (zq_iconst (v := 0) dX9_waitingSlips_2 (by decide)).mpr ?_
  refine (zq_istore_n (l := [zR a0, zI 0, zI 0]) dX9_waitingSlips_3 (Nat.le_of_ble_eq_true rfl) rfl).mpr ?_
  exact h
theorem bX9_waitingSlips_4 {a0 : Nat} {a1 : Int} {a2 : Int} (h : ((5 ≤ a2 → Q (.inl (some (zI a1))) m) ∧ (¬ (5 ≤ a2) → (mC m a0 = 10) ∧ zC xs xl d 98 [zR a0, zI a2] m (fun r m1 => ∃ v2 : Int, r = .inl (some (zI v2)) ∧ zW xs xl d cX9_waitingSlips 9 (some .int) false [] 4 [zR a0, zI (wr (a1 + v2)), zI (wr (a2 + 1))] [] m1 Q)))) : zW xs xl d cX9_waitingSlips 9 (some .int) false [] 4 [zR a0, zI a1, zI a2] [] m Q := by
  refine (zq_iload_n dX9_waitingSlips_4 rfl).mpr ?_
  refine (zq_iconst (v := 5) dX9_waitingSlips_5 (by decide)).mpr ?_
  refine (zq_icmp_ge (t := 23) dX9_waitingSlips_6 rfl).mpr ⟨fun c => ?_, fun c => ?_⟩
  · replace h := h.1 c
    refine (zq_iload_n dX9_waitingSlips_23 rfl).mpr ?_
    exact (zq_iret dX9_waitingSlips_24 rfl).mpr ⟨trivial, h⟩
  · replace h := h.2 c
    refine (zq_iload_n dX9_waitingSlips_9 rfl).mpr ?_
    refine (zq_aload_n dX9_waitingSlips_10 rfl).mpr ?_
    refine (zq_iload_n dX9_waitingSlips_11 rfl).mpr ?_
    obtain ⟨g3, h⟩ := h
    refine zq_virtualI (n := 1) dX9_waitingSlips_12 mr_9_202 zn_98 rfl rfl rfl (zrcv_R zo_98 (by decide) g3) (Nat.le_of_ble_eq_true rfl) ?_
    refine h.mono (fun r m1 h => ?_)
    obtain ⟨v2, rfl, h⟩ := h
    refine ⟨_, rfl, ?_⟩
    refine (zq_iadd dX9_waitingSlips_15).mpr ?_
    refine (zq_istore_n (l := [zR a0, zI (wr (a1 + v2)), zI a2]) dX9_waitingSlips_16 (Nat.le_of_ble_eq_true rfl) rfl).mpr ?_
    refine (zq_iinc (l := [zR a0, zI (wr (a1 + v2)), zI (wr (a2 + 1))]) dX9_waitingSlips_17 rfl rfl).mpr ?_
    refine (zq_goto (t := 4) dX9_waitingSlips_20 rfl).mpr ?_
    exact h
theorem bX9_slipsWaitingFor_0 {a0 : Nat} {a1 : Int} (h : zW xs xl d cX9_slipsWaitingFor 9 (some .int) false [] 4 [zR a0, zI a1, zI 0, zI 0] [] m Q) : zC xs xl (d + 1) 98 [zR a0, zI a1] m Q := by
  refine zk_98 ?_
  refine (zq_iconst (v := 0) dX9_slipsWaitingFor_0 (by decide)).mpr ?_
  refine (zq_istore_n (l := [zR a0, zI a1, zI 0, zU]) dX9_slipsWaitingFor_1 (Nat.le_of_ble_eq_true rfl) rfl).mpr ?_
  refine (zq_iconst (v := 0) dX9_slipsWaitingFor_2 (by decide)).mpr ?_
  refine (zq_istore_n (l := [zR a0, zI a1, zI 0, zI 0]) dX9_slipsWaitingFor_3 (Nat.le_of_ble_eq_true rfl) rfl).mpr ?_
  exact h
theorem bX9_slipsWaitingFor_4 {a0 : Nat} {a1 : Int} {a2 : Int} {a3 : Int} (h : (mC m a0 = 10) ∧ (((mI m 581 a0) ≤ a3 → Q (.inl (some (zI a2))) m) ∧ (¬ ((mI m 581 a0) ≤ a3) → (29 ≤ mC m (mR m 580 a0) ∧ mC m (mR m 580 a0) < 43) ∧ (0 ≤ a3 ∧ a3 < mN m (mR m 580 a0)) ∧ (mC m (mO m (mR m 580 a0) (Int.toNat a3)) = 7) ∧ (((mI m 397 (mO m (mR m 580 a0) (Int.toNat a3))) ≠ a1 → zW xs xl d cX9_slipsWaitingFor 9 (some .int) false [] 4 [zR a0, zI a1, zI (wr (a2 + 0)), zI (wr (a3 + 1))] [] m Q) ∧ (¬ ((mI m 397 (mO m (mR m 580 a0) (Int.toNat a3))) ≠ a1) → zW xs xl d cX9_slipsWaitingFor 9 (some .int) false [] 4 [zR a0, zI a1, zI (wr (a2 + 1)), zI (wr (a3 + 1))] [] m Q))))) : zW xs xl d cX9_slipsWaitingFor 9 (some .int) false [] 4 [zR a0, zI a1, zI a2, zI a3] [] m Q := by
  refine (zq_iload_n dX9_slipsWaitingFor_4 rfl).mpr ?_
  refine (zq_aload_n dX9_slipsWaitingFor_5 rfl).mpr ?_
  obtain ⟨g1, h⟩ := h
  refine (zq_getI2 (f := 581) (v := (mI m 581 a0)) dX9_slipsWaitingFor_6 fl_9_35 (by decide) rfl rfl (by first | rfl | simp only [zm_Is, zm_Rs, zm_As, zm_Os, zm_In0, zm_Rn0])).mpr ⟨g1, ?_⟩
  refine (zq_icmp_ge (t := 39) dX9_slipsWaitingFor_9 rfl).mpr ⟨fun c => ?_, fun c => ?_⟩
  · replace h := h.1 c
    refine (zq_iload_n dX9_slipsWaitingFor_39 rfl).mpr ?_
    exact (zq_iret dX9_slipsWaitingFor_40 rfl).mpr ⟨trivial, h⟩
  · replace h := h.2 c
    refine (zq_iload_n dX9_slipsWaitingFor_12 rfl).mpr ?_
    refine (zq_aload_n dX9_slipsWaitingFor_13 rfl).mpr ?_
    refine (zq_getR2 (f := 580) (v := (mR m 580 a0)) dX9_slipsWaitingFor_14 fl_9_31 (by decide) rfl rfl (by first | rfl | simp only [zm_Is, zm_Rs, zm_As, zm_Os, zm_In0, zm_Rn0])).mpr ⟨g1, ?_⟩
    refine (zq_iload_n dX9_slipsWaitingFor_17 rfl).mpr ?_
    obtain ⟨g2, h⟩ := h
    obtain ⟨g3, h⟩ := h
    refine (zq_aald2 (v := (mO m (mR m 580 a0) (Int.toNat a3))) dX9_slipsWaitingFor_18 (by first | rfl | simp only [zm_Is, zm_Rs, zm_As, zm_Os, zm_In0, zm_Rn0])).mpr ⟨⟨g2.1, g2.2, g3⟩, ?_⟩
    obtain ⟨g4, h⟩ := h
    refine (zq_getI2 (f := 397) (v := (mI m 397 (mO m (mR m 580 a0) (Int.toNat a3)))) dX9_slipsWaitingFor_19 fl_9_72 (by decide) rfl rfl (by first | rfl | simp only [zm_Is, zm_Rs, zm_As, zm_Os, zm_In0, zm_Rn0])).mpr ⟨g4, ?_⟩
    refine (zq_iload_n dX9_slipsWaitingFor_22 rfl).mpr ?_
    refine (zq_icmp_ne (t := 30) dX9_slipsWaitingFor_23 rfl).mpr ⟨fun c => ?_, fun c => ?_⟩
    · replace h := h.1 c
      refine (zq_iconst (v := 0) dX9_slipsWaitingFor_30 (by decide)).mpr ?_
      refine (zq_iadd dX9_slipsWaitingFor_31).mpr ?_
      refine (zq_istore_n (l := [zR a0, zI a1, zI (wr (a2 + 0)), zI a3]) dX9_slipsWaitingFor_32 (Nat.le_of_ble_eq_true rfl) rfl).mpr ?_
      refine (zq_iinc (l := [zR a0, zI a1, zI (wr (a2 + 0)), zI (wr (a3 + 1))]) dX9_slipsWaitingFor_33 rfl rfl).mpr ?_
      refine (zq_goto (t := 4) dX9_slipsWaitingFor_36 rfl).mpr ?_
      exact h
    · replace h := h.2 c
      refine (zq_iconst (v := 1) dX9_slipsWaitingFor_26 (by decide)).mpr ?_
      refine (zq_goto (t := 31) dX9_slipsWaitingFor_27 rfl).mpr ?_
      refine (zq_iadd dX9_slipsWaitingFor_31).mpr ?_
      refine (zq_istore_n (l := [zR a0, zI a1, zI (wr (a2 + 1)), zI a3]) dX9_slipsWaitingFor_32 (Nat.le_of_ble_eq_true rfl) rfl).mpr ?_
      refine (zq_iinc (l := [zR a0, zI a1, zI (wr (a2 + 1)), zI (wr (a3 + 1))]) dX9_slipsWaitingFor_33 rfl rfl).mpr ?_
      refine (zq_goto (t := 4) dX9_slipsWaitingFor_36 rfl).mpr ?_
      exact h
theorem bX9_tellFrames_0 {a0 : Nat} {a1 : Int} {a2 : Int} (h : zC xs xl d 127 [zI a1, zI 5] m (fun r m1 => ∃ v2 : Int, r = .inl (some (zI v2)) ∧ ((v2 ≠ 0 → ((a2 = 0 → (mC m1 a0 = 10) ∧ (mC m1 (mR m1 578 a0) = 20) ∧ (0 ≤ a1 ∧ a1 < mN m1 (mR m1 578 a0)) ∧ Q (.inl (some (zI (mA m1 (mR m1 578 a0) (Int.toNat a1))))) m1) ∧ (a2 ≠ 0 → ((a2 = 1 → (mC m1 a0 = 10) ∧ (mC m1 (mR m1 579 a0) = 20) ∧ (0 ≤ a1 ∧ a1 < mN m1 (mR m1 579 a0)) ∧ Q (.inl (some (zI (mA m1 (mR m1 579 a0) (Int.toNat a1))))) m1) ∧ (a2 ≠ 1 → (mC m1 a0 = 10) ∧ zC xs xl d 98 [zR a0, zI a1] m1 (fun r m9 => ∃ v10 : Int, r = .inl (some (zI v10)) ∧ Q (.inl (some (zI v10))) m9)))))) ∧ (¬ (v2 ≠ 0) → Q (.inl (some (zI 0))) m1)))) : zC xs xl (d + 1) 99 [zR a0, zI a1, zI a2] m Q := by
  refine zk_99 ?_
  refine (zq_iload_n dX9_tellFrames_0 rfl).mpr ?_
  refine (zq_iconst (v := 5) dX9_tellFrames_1 (by decide)).mpr ?_
  refine zq_staticI (n := 2) dX9_tellFrames_2 mr_9_75 zn_127 rfl rfl (Nat.le_of_ble_eq_true rfl) (Nat.le_of_ble_eq_true rfl) ?_
  refine h.mono (fun r m1 h => ?_)
  obtain ⟨v2, rfl, h⟩ := h
  refine ⟨_, rfl, ?_⟩
  refine (zq_if_ne (t := 10) dX9_tellFrames_5 rfl).mpr ⟨fun c => ?_, fun c => ?_⟩
  · replace h := h.1 c
    refine (zq_iload_n dX9_tellFrames_10 rfl).mpr ?_
    refine (zq_look (td := 50) (r := [(0, 36), (1, 43)]) dX9_tellFrames_11 rfl rfl rfl).mpr ?_
    refine ⟨fun c => ?_, fun c => ?_⟩
    · replace h := h.1 c
      refine (zq_aload_n dX9_tellFrames_36 rfl).mpr ?_
      obtain ⟨g3, h⟩ := h
      refine (zq_getR2 (f := 578) (v := (mR m1 578 a0)) dX9_tellFrames_37 fl_9_22 (by decide) rfl rfl (by first | rfl | simp only [zm_Is, zm_Rs, zm_As, zm_Os, zm_In0, zm_Rn0])).mpr ⟨g3, ?_⟩
      refine (zq_iload_n dX9_tellFrames_40 rfl).mpr ?_
      obtain ⟨g4, h⟩ := h
      obtain ⟨g5, h⟩ := h
      refine (zq_iald2 (v := (mA m1 (mR m1 578 a0) (Int.toNat a1))) dX9_tellFrames_41 (by first | rfl | simp only [zm_Is, zm_Rs, zm_As, zm_Os, zm_In0, zm_Rn0])).mpr ⟨⟨g4, g5⟩, ?_⟩
      exact (zq_iret dX9_tellFrames_42 rfl).mpr ⟨trivial, h⟩
    · replace h := h.2 c
      refine ⟨fun c => ?_, fun c => ?_⟩
      · replace h := h.1 c
        refine (zq_aload_n dX9_tellFrames_43 rfl).mpr ?_
        obtain ⟨g6, h⟩ := h
        refine (zq_getR2 (f := 579) (v := (mR m1 579 a0)) dX9_tellFrames_44 fl_9_26 (by decide) rfl rfl (by first | rfl | simp only [zm_Is, zm_Rs, zm_As, zm_Os, zm_In0, zm_Rn0])).mpr ⟨g6, ?_⟩
        refine (zq_iload_n dX9_tellFrames_47 rfl).mpr ?_
        obtain ⟨g7, h⟩ := h
        obtain ⟨g8, h⟩ := h
        refine (zq_iald2 (v := (mA m1 (mR m1 579 a0) (Int.toNat a1))) dX9_tellFrames_48 (by first | rfl | simp only [zm_Is, zm_Rs, zm_As, zm_Os, zm_In0, zm_Rn0])).mpr ⟨⟨g7, g8⟩, ?_⟩
        exact (zq_iret dX9_tellFrames_49 rfl).mpr ⟨trivial, h⟩
      · replace h := h.2 c
        refine (zq_aload_n dX9_tellFrames_50 rfl).mpr ?_
        refine (zq_iload_n dX9_tellFrames_51 rfl).mpr ?_
        obtain ⟨g11, h⟩ := h
        refine zq_virtualI (n := 1) dX9_tellFrames_52 mr_9_202 zn_98 rfl rfl rfl (zrcv_R zo_98 (by decide) g11) (Nat.le_of_ble_eq_true rfl) ?_
        refine h.mono (fun r m9 h => ?_)
        obtain ⟨v10, rfl, h⟩ := h
        refine ⟨_, rfl, ?_⟩
        exact (zq_iret dX9_tellFrames_55 rfl).mpr ⟨trivial, h⟩
  · replace h := h.2 c
    refine (zq_iconst (v := 0) dX9_tellFrames_8 (by decide)).mpr ?_
    exact (zq_iret dX9_tellFrames_9 rfl).mpr ⟨trivial, h⟩
theorem bX9_tellCount_0 {a0 : Nat} {a1 : Int} (h : ((a1 = 0 → (mC m a0 = 10) ∧ Q (.inl (some (zI (mI m 576 a0)))) m) ∧ (a1 ≠ 0 → ((a1 = 1 → (mC m a0 = 10) ∧ (mC m (mR m 577 a0) = 8) ∧ Q (.inl (some (zI (mI m 449 (mR m 577 a0))))) m) ∧ (a1 ≠ 1 → ((a1 = 2 → (mC m a0 = 10) ∧ Q (.inl (some (zI (mI m 581 a0)))) m) ∧ (a1 ≠ 2 → ((a1 = 3 → (mC m a0 = 10) ∧ zC xs xl d 96 [zR a0] m (fun r m5 => ∃ v6 : Int, r = .inl (some (zI v6)) ∧ Q (.inl (some (zI v6))) m5)) ∧ (a1 ≠ 3 → ((a1 = 4 → (mC m a0 = 10) ∧ zC xs xl d 97 [zR a0] m (fun r m8 => ∃ v9 : Int, r = .inl (some (zI v9)) ∧ Q (.inl (some (zI v9))) m8)) ∧ (a1 ≠ 4 → ((a1 = 5 → (mC m a0 = 10) ∧ Q (.inl (some (zI (mI m 583 a0)))) m) ∧ (a1 ≠ 5 → ((a1 = 6 → (mC m a0 = 10) ∧ Q (.inl (some (zI (mI m 584 a0)))) m) ∧ (a1 ≠ 6 → ((a1 = 7 → (mC m a0 = 10) ∧ (mC m (mR m 577 a0) = 8) ∧ Q (.inl (some (zI (mI m 450 (mR m 577 a0))))) m) ∧ (a1 ≠ 7 → (mC m a0 = 10) ∧ (mC m (mR m 577 a0) = 8) ∧ zC xs xl d 79 [zR (mR m 577 a0)] m (fun r m16 => ∃ v17 : Int, r = .inl (some (zI v17)) ∧ Q (.inl (some (zI v17))) m16)))))))))))))))))) : zC xs xl (d + 1) 100 [zR a0, zI a1] m Q := by
  refine zk_100 ?_
  refine (zq_iload_n dX9_tellCount_0 rfl).mpr ?_
  refine (zq_tab (td := 94) (r := [48, 53, 61, 66, 71, 76, 81, 86]) dX9_tellCount_1 rfl rfl rfl).mpr ?_
  refine ⟨fun c => ?_, fun c => ?_⟩
  · replace h := h.1 c
    refine (zq_aload_n dX9_tellCount_48 rfl).mpr ?_
    obtain ⟨g1, h⟩ := h
    refine (zq_getI2 (f := 576) (v := (mI m 576 a0)) dX9_tellCount_49 fl_9_9 (by decide) rfl rfl (by first | rfl | simp only [zm_Is, zm_Rs, zm_As, zm_Os, zm_In0, zm_Rn0])).mpr ⟨g1, ?_⟩
    exact (zq_iret dX9_tellCount_52 rfl).mpr ⟨trivial, h⟩
  · replace h := h.2 c
    refine ⟨fun c => ?_, fun c => ?_⟩
    · replace h := h.1 c
      refine (zq_aload_n dX9_tellCount_53 rfl).mpr ?_
      obtain ⟨g2, h⟩ := h
      refine (zq_getR2 (f := 577) (v := (mR m 577 a0)) dX9_tellCount_54 fl_9_18 (by decide) rfl rfl (by first | rfl | simp only [zm_Is, zm_Rs, zm_As, zm_Os, zm_In0, zm_Rn0])).mpr ⟨g2, ?_⟩
      obtain ⟨g3, h⟩ := h
      refine (zq_getI2 (f := 449) (v := (mI m 449 (mR m 577 a0))) dX9_tellCount_57 fl_9_205 (by decide) rfl rfl (by first | rfl | simp only [zm_Is, zm_Rs, zm_As, zm_Os, zm_In0, zm_Rn0])).mpr ⟨g3, ?_⟩
      exact (zq_iret dX9_tellCount_60 rfl).mpr ⟨trivial, h⟩
    · replace h := h.2 c
      refine ⟨fun c => ?_, fun c => ?_⟩
      · replace h := h.1 c
        refine (zq_aload_n dX9_tellCount_61 rfl).mpr ?_
        obtain ⟨g4, h⟩ := h
        refine (zq_getI2 (f := 581) (v := (mI m 581 a0)) dX9_tellCount_62 fl_9_35 (by decide) rfl rfl (by first | rfl | simp only [zm_Is, zm_Rs, zm_As, zm_Os, zm_In0, zm_Rn0])).mpr ⟨g4, ?_⟩
        exact (zq_iret dX9_tellCount_65 rfl).mpr ⟨trivial, h⟩
      · replace h := h.2 c
        refine ⟨fun c => ?_, fun c => ?_⟩
        · replace h := h.1 c
          refine (zq_aload_n dX9_tellCount_66 rfl).mpr ?_
          obtain ⟨g7, h⟩ := h
          refine zq_virtualI (n := 0) dX9_tellCount_67 mr_9_208 zn_96 rfl rfl rfl (zrcv_R zo_96 (by decide) g7) (Nat.le_of_ble_eq_true rfl) ?_
          refine h.mono (fun r m5 h => ?_)
          obtain ⟨v6, rfl, h⟩ := h
          refine ⟨_, rfl, ?_⟩
          exact (zq_iret dX9_tellCount_70 rfl).mpr ⟨trivial, h⟩
        · replace h := h.2 c
          refine ⟨fun c => ?_, fun c => ?_⟩
          · replace h := h.1 c
            refine (zq_aload_n dX9_tellCount_71 rfl).mpr ?_
            obtain ⟨g10, h⟩ := h
            refine zq_virtualI (n := 0) dX9_tellCount_72 mr_9_211 zn_97 rfl rfl rfl (zrcv_R zo_97 (by decide) g10) (Nat.le_of_ble_eq_true rfl) ?_
            refine h.mono (fun r m8 h => ?_)
            obtain ⟨v9, rfl, h⟩ := h
            refine ⟨_, rfl, ?_⟩
            exact (zq_iret dX9_tellCount_75 rfl).mpr ⟨trivial, h⟩
          · replace h := h.2 c
            refine ⟨fun c => ?_, fun c => ?_⟩
            · replace h := h.1 c
              refine (zq_aload_n dX9_tellCount_76 rfl).mpr ?_
              obtain ⟨g11, h⟩ := h
              refine (zq_getI2 (f := 583) (v := (mI m 583 a0)) dX9_tellCount_77 fl_9_43 (by decide) rfl rfl (by first | rfl | simp only [zm_Is, zm_Rs, zm_As, zm_Os, zm_In0, zm_Rn0])).mpr ⟨g11, ?_⟩
              exact (zq_iret dX9_tellCount_80 rfl).mpr ⟨trivial, h⟩
            · replace h := h.2 c
              refine ⟨fun c => ?_, fun c => ?_⟩
              · replace h := h.1 c
                refine (zq_aload_n dX9_tellCount_81 rfl).mpr ?_
                obtain ⟨g12, h⟩ := h
                refine (zq_getI2 (f := 584) (v := (mI m 584 a0)) dX9_tellCount_82 fl_9_46 (by decide) rfl rfl (by first | rfl | simp only [zm_Is, zm_Rs, zm_As, zm_Os, zm_In0, zm_Rn0])).mpr ⟨g12, ?_⟩
                exact (zq_iret dX9_tellCount_85 rfl).mpr ⟨trivial, h⟩
              · replace h := h.2 c
                refine ⟨fun c => ?_, fun c => ?_⟩
                · replace h := h.1 c
                  refine (zq_aload_n dX9_tellCount_86 rfl).mpr ?_
                  obtain ⟨g13, h⟩ := h
                  refine (zq_getR2 (f := 577) (v := (mR m 577 a0)) dX9_tellCount_87 fl_9_18 (by decide) rfl rfl (by first | rfl | simp only [zm_Is, zm_Rs, zm_As, zm_Os, zm_In0, zm_Rn0])).mpr ⟨g13, ?_⟩
                  obtain ⟨g14, h⟩ := h
                  refine (zq_getI2 (f := 450) (v := (mI m 450 (mR m 577 a0))) dX9_tellCount_90 fl_9_214 (by decide) rfl rfl (by first | rfl | simp only [zm_Is, zm_Rs, zm_As, zm_Os, zm_In0, zm_Rn0])).mpr ⟨g14, ?_⟩
                  exact (zq_iret dX9_tellCount_93 rfl).mpr ⟨trivial, h⟩
                · replace h := h.2 c
                  refine (zq_aload_n dX9_tellCount_94 rfl).mpr ?_
                  obtain ⟨g15, h⟩ := h
                  refine (zq_getR2 (f := 577) (v := (mR m 577 a0)) dX9_tellCount_95 fl_9_18 (by decide) rfl rfl (by first | rfl | simp only [zm_Is, zm_Rs, zm_As, zm_Os, zm_In0, zm_Rn0])).mpr ⟨g15, ?_⟩
                  obtain ⟨g18, h⟩ := h
                  refine zq_virtualI (n := 0) dX9_tellCount_98 mr_9_217 zn_79 rfl rfl rfl (zrcv_R zo_79 (by decide) g18) (Nat.le_of_ble_eq_true rfl) ?_
                  refine h.mono (fun r m16 h => ?_)
                  obtain ⟨v17, rfl, h⟩ := h
                  refine ⟨_, rfl, ?_⟩
                  exact (zq_iret dX9_tellCount_101 rfl).mpr ⟨trivial, h⟩
theorem bX9_copyFrom_0 {a0 : Nat} {a1 : Nat} (h : (mC m a1 = 10) ∧ (mC m a0 = 10) ∧ (mC m (mR m 577 a0) = 8) ∧ zC xs xl d 80 [zR (mR m 577 a0), zR (mR m 577 a1)] (sI (sI (sI (sI m 576 a0 (mI m 576 a1)) 581 a0 (mI m 581 a1)) 583 a0 (mI m 583 a1)) 584 a0 (mI m 584 a1)) (fun r m3 => r = .inl none ∧ (mC m3 a1 = 10) ∧ (mC m3 a0 = 10) ∧ (0 ≤ (5 : Int) ∧ 0 ≤ (0 : Int) ∧ 0 ≤ (0 : Int) ∧ (0 : Int) + (5 : Int) ≤ mN m3 (mR m3 578 a1) ∧ (0 : Int) + (5 : Int) ≤ mN m3 (mR m3 578 a0) ∧ mC m3 (mR m3 578 a1) = mC m3 (mR m3 578 a0) ∧ (mC m3 (mR m3 578 a1) = 20 ∨ (mC m3 (mR m3 578 a1) = 21 ∧ ∀ j : Nat, (0 : Int) ≤ j → j < (0 : Int) + (5 : Int) → mA m3 (mR m3 578 a1) j = 0 ∨ mA m3 (mR m3 578 a1) j = 1)) ∧ (mR m3 578 a1) ≠ (mR m3 578 a0)) ∧ (0 ≤ (5 : Int) ∧ 0 ≤ (0 : Int) ∧ 0 ≤ (0 : Int) ∧ (0 : Int) + (5 : Int) ≤ mN m3 (mR m3 579 a1) ∧ (0 : Int) + (5 : Int) ≤ mN m3 (mR m3 579 a0) ∧ mC m3 (mR m3 579 a1) = mC m3 (mR m3 579 a0) ∧ (mC m3 (mR m3 579 a1) = 20 ∨ (mC m3 (mR m3 579 a1) = 21 ∧ ∀ j : Nat, (0 : Int) ≤ j → j < (0 : Int) + (5 : Int) → mA (cpA m3 (mR m3 578 a1) 0 (mR m3 578 a0) 0 5) (mR m3 579 a1) j = 0 ∨ mA (cpA m3 (mR m3 578 a1) 0 (mR m3 578 a0) 0 5) (mR m3 579 a1) j = 1)) ∧ (mR m3 579 a1) ≠ (mR m3 579 a0)) ∧ zW xs xl d cX9_copyFrom 9 (none) false [] 73 [zR a0, zR a1, zI 0] [] (cpA (cpA m3 (mR m3 578 a1) 0 (mR m3 578 a0) 0 5) (mR m3 579 a1) 0 (mR m3 579 a0) 0 5) Q)) : zC xs xl (d + 1) 101 [zR a0, zR a1] m Q := by
  refine zk_101 ?_
  refine (zq_aload_n dX9_copyFrom_0 rfl).mpr ?_
  refine (zq_aload_n dX9_copyFrom_1 rfl).mpr ?_
  obtain ⟨g1, h⟩ := h
  refine (zq_getI2 (f := 576) (v := (mI m 576 a1)) dX9_copyFrom_2 fl_9_9 (by decide) rfl rfl (by first | rfl | simp only [zm_Is, zm_Rs, zm_As, zm_Os, zm_In0, zm_Rn0])).mpr ⟨g1, ?_⟩
  obtain ⟨g2, h⟩ := h
  refine (zq_putI (f := 576) dX9_copyFrom_5 fl_9_9 (by decide) rfl rfl rfl).mpr ⟨g2, ?_⟩
  refine (zq_aload_n dX9_copyFrom_8 rfl).mpr ?_
  refine (zq_aload_n dX9_copyFrom_9 rfl).mpr ?_
  refine (zq_getI2 (f := 581) (v := (mI m 581 a1)) dX9_copyFrom_10 fl_9_35 (by decide) rfl rfl (by first | rfl | simp only [zm_Is, zm_Rs, zm_As, zm_Os, zm_In0, zm_Rn0])).mpr ⟨g1, ?_⟩
  refine (zq_putI (f := 581) dX9_copyFrom_13 fl_9_35 (by decide) rfl rfl rfl).mpr ⟨g2, ?_⟩
  refine (zq_aload_n dX9_copyFrom_16 rfl).mpr ?_
  refine (zq_aload_n dX9_copyFrom_17 rfl).mpr ?_
  refine (zq_getI2 (f := 583) (v := (mI m 583 a1)) dX9_copyFrom_18 fl_9_43 (by decide) rfl rfl (by first | rfl | simp only [zm_Is, zm_Rs, zm_As, zm_Os, zm_In0, zm_Rn0])).mpr ⟨g1, ?_⟩
  refine (zq_putI (f := 583) dX9_copyFrom_21 fl_9_43 (by decide) rfl rfl rfl).mpr ⟨g2, ?_⟩
  refine (zq_aload_n dX9_copyFrom_24 rfl).mpr ?_
  refine (zq_aload_n dX9_copyFrom_25 rfl).mpr ?_
  refine (zq_getI2 (f := 584) (v := (mI m 584 a1)) dX9_copyFrom_26 fl_9_46 (by decide) rfl rfl (by first | rfl | simp only [zm_Is, zm_Rs, zm_As, zm_Os, zm_In0, zm_Rn0])).mpr ⟨g1, ?_⟩
  refine (zq_putI (f := 584) dX9_copyFrom_29 fl_9_46 (by decide) rfl rfl rfl).mpr ⟨g2, ?_⟩
  refine (zq_aload_n dX9_copyFrom_32 rfl).mpr ?_
  refine (zq_getR2 (f := 577) (v := (mR m 577 a0)) dX9_copyFrom_33 fl_9_18 (by decide) rfl rfl (by first | rfl | simp only [zm_Is, zm_Rs, zm_As, zm_Os, zm_In0, zm_Rn0])).mpr ⟨g2, ?_⟩
  refine (zq_aload_n dX9_copyFrom_36 rfl).mpr ?_
  refine (zq_getR2 (f := 577) (v := (mR m 577 a1)) dX9_copyFrom_37 fl_9_18 (by decide) rfl rfl (by first | rfl | simp only [zm_Is, zm_Rs, zm_As, zm_Os, zm_In0, zm_Rn0])).mpr ⟨g1, ?_⟩
  obtain ⟨g5, h⟩ := h
  refine zq_virtualV (n := 1) dX9_copyFrom_40 mr_9_220 zn_80 rfl rfl rfl (zrcv_R zo_80 (by decide) g5) (Nat.le_of_ble_eq_true rfl) ?_
  refine h.mono (fun r m3 h => ?_)
  obtain ⟨rfl, h⟩ := h
  refine ⟨rfl, ?_⟩
  refine (zq_aload_n dX9_copyFrom_43 rfl).mpr ?_
  obtain ⟨g6, h⟩ := h
  refine (zq_getR2 (f := 578) (v := (mR m3 578 a1)) dX9_copyFrom_44 fl_9_22 (by decide) rfl rfl (by first | rfl | simp only [zm_Is, zm_Rs, zm_As, zm_Os, zm_In0, zm_Rn0])).mpr ⟨g6, ?_⟩
  refine (zq_iconst (v := 0) dX9_copyFrom_47 (by decide)).mpr ?_
  refine (zq_aload_n dX9_copyFrom_48 rfl).mpr ?_
  obtain ⟨g7, h⟩ := h
  refine (zq_getR2 (f := 578) (v := (mR m3 578 a0)) dX9_copyFrom_49 fl_9_22 (by decide) rfl rfl (by first | rfl | simp only [zm_Is, zm_Rs, zm_As, zm_Os, zm_In0, zm_Rn0])).mpr ⟨g7, ?_⟩
  refine (zq_iconst (v := 0) dX9_copyFrom_52 (by decide)).mpr ?_
  refine (zq_iconst (v := 5) dX9_copyFrom_53 (by decide)).mpr ?_
  obtain ⟨g8, h⟩ := h
  refine (zq_copy dX9_copyFrom_54 mr_9_224).mpr ⟨⟨g8.1, g8.2.1, g8.2.2.1, g8.2.2.2.1, g8.2.2.2.2.1, g8.2.2.2.2.2.1, g8.2.2.2.2.2.2.1, g8.2.2.2.2.2.2.2, (Nat.le_of_ble_eq_true rfl)⟩, ?_⟩
  refine (zq_aload_n dX9_copyFrom_57 rfl).mpr ?_
  refine (zq_getR2 (f := 579) (v := (mR m3 579 a1)) dX9_copyFrom_58 fl_9_26 (by decide) rfl rfl (by first | rfl | simp only [zm_Is, zm_Rs, zm_As, zm_Os, zm_In0, zm_Rn0])).mpr ⟨g6, ?_⟩
  refine (zq_iconst (v := 0) dX9_copyFrom_61 (by decide)).mpr ?_
  refine (zq_aload_n dX9_copyFrom_62 rfl).mpr ?_
  refine (zq_getR2 (f := 579) (v := (mR m3 579 a0)) dX9_copyFrom_63 fl_9_26 (by decide) rfl rfl (by first | rfl | simp only [zm_Is, zm_Rs, zm_As, zm_Os, zm_In0, zm_Rn0])).mpr ⟨g7, ?_⟩
  refine (zq_iconst (v := 0) dX9_copyFrom_66 (by decide)).mpr ?_
  refine (zq_iconst (v := 5) dX9_copyFrom_67 (by decide)).mpr ?_
  obtain ⟨g9, h⟩ := h
  refine (zq_copy dX9_copyFrom_68 mr_9_224).mpr ⟨⟨g9.1, g9.2.1, g9.2.2.1, g9.2.2.2.1, g9.2.2.2.2.1, g9.2.2.2.2.2.1, g9.2.2.2.2.2.2.1, g9.2.2.2.2.2.2.2, (Nat.le_of_ble_eq_true rfl)⟩, ?_⟩
  refine (zq_iconst (v := 0) dX9_copyFrom_71 (by decide)).mpr ?_
  refine (zq_istore_n (l := [zR a0, zR a1, zI 0]) dX9_copyFrom_72 (Nat.le_of_ble_eq_true rfl) rfl).mpr ?_
  exact h
theorem bX9_copyFrom_73 {a0 : Nat} {a1 : Nat} {a2 : Int} (h : (mC m a0 = 10) ∧ (((mI m 581 a0) ≤ a2 → Q (.inl none) m) ∧ (¬ ((mI m 581 a0) ≤ a2) → (29 ≤ mC m (mR m 580 a0) ∧ mC m (mR m 580 a0) < 43) ∧ (0 ≤ a2 ∧ a2 < mN m (mR m 580 a0)) ∧ (mC m a1 = 10) ∧ (29 ≤ mC m (mR m 580 a1) ∧ mC m (mR m 580 a1) < 43) ∧ (0 ≤ a2 ∧ a2 < mN m (mR m 580 a1)) ∧ (mC m (mO m (mR m 580 a0) (Int.toNat a2)) = 7) ∧ zC xs xl d 73 [zR (mO m (mR m 580 a0) (Int.toNat a2)), zR (mO m (mR m 580 a1) (Int.toNat a2))] m (fun r m7 => r = .inl none ∧ zW xs xl d cX9_copyFrom 9 (none) false [] 73 [zR a0, zR a1, zI (wr (a2 + 1))] [] m7 Q)))) : zW xs xl d cX9_copyFrom 9 (none) false [] 73 [zR a0, zR a1, zI a2] [] m Q := by
  refine (zq_iload_n dX9_copyFrom_73 rfl).mpr ?_
  refine (zq_aload_n dX9_copyFrom_74 rfl).mpr ?_
  obtain ⟨g1, h⟩ := h
  refine (zq_getI2 (f := 581) (v := (mI m 581 a0)) dX9_copyFrom_75 fl_9_35 (by decide) rfl rfl (by first | rfl | simp only [zm_Is, zm_Rs, zm_As, zm_Os, zm_In0, zm_Rn0])).mpr ⟨g1, ?_⟩
  refine (zq_icmp_ge (t := 102) dX9_copyFrom_78 rfl).mpr ⟨fun c => ?_, fun c => ?_⟩
  · replace h := h.1 c
    exact (zq_ret dX9_copyFrom_102 rfl).mpr h
  · replace h := h.2 c
    refine (zq_aload_n dX9_copyFrom_81 rfl).mpr ?_
    refine (zq_getR2 (f := 580) (v := (mR m 580 a0)) dX9_copyFrom_82 fl_9_31 (by decide) rfl rfl (by first | rfl | simp only [zm_Is, zm_Rs, zm_As, zm_Os, zm_In0, zm_Rn0])).mpr ⟨g1, ?_⟩
    refine (zq_iload_n dX9_copyFrom_85 rfl).mpr ?_
    obtain ⟨g2, h⟩ := h
    obtain ⟨g3, h⟩ := h
    refine (zq_aald2 (v := (mO m (mR m 580 a0) (Int.toNat a2))) dX9_copyFrom_86 (by first | rfl | simp only [zm_Is, zm_Rs, zm_As, zm_Os, zm_In0, zm_Rn0])).mpr ⟨⟨g2.1, g2.2, g3⟩, ?_⟩
    refine (zq_aload_n dX9_copyFrom_87 rfl).mpr ?_
    obtain ⟨g4, h⟩ := h
    refine (zq_getR2 (f := 580) (v := (mR m 580 a1)) dX9_copyFrom_88 fl_9_31 (by decide) rfl rfl (by first | rfl | simp only [zm_Is, zm_Rs, zm_As, zm_Os, zm_In0, zm_Rn0])).mpr ⟨g4, ?_⟩
    refine (zq_iload_n dX9_copyFrom_91 rfl).mpr ?_
    obtain ⟨g5, h⟩ := h
    obtain ⟨g6, h⟩ := h
    refine (zq_aald2 (v := (mO m (mR m 580 a1) (Int.toNat a2))) dX9_copyFrom_92 (by first | rfl | simp only [zm_Is, zm_Rs, zm_As, zm_Os, zm_In0, zm_Rn0])).mpr ⟨⟨g5.1, g5.2, g6⟩, ?_⟩
    obtain ⟨g9, h⟩ := h
    refine zq_virtualV (n := 1) dX9_copyFrom_93 mr_9_230 zn_73 rfl rfl rfl (zrcv_R zo_73 (by decide) g9) (Nat.le_of_ble_eq_true rfl) ?_
    refine h.mono (fun r m7 h => ?_)
    obtain ⟨rfl, h⟩ := h
    refine ⟨rfl, ?_⟩
    refine (zq_iinc (l := [zR a0, zR a1, zI (wr (a2 + 1))]) dX9_copyFrom_96 rfl rfl).mpr ?_
    refine (zq_goto (t := 73) dX9_copyFrom_99 rfl).mpr ?_
    exact h
theorem bX10_init_0 {a0 : Nat} (h : (a0 ≠ 0) ∧ (∀ m2 : zM, m2 = nwO m 8 2 → ((mz m) ≠ 0) ∧ zC xs xl d 81 [zR (mz m)] m2 (fun r m3 => r = .inl none ∧ (mC m3 a0 = 11) ∧ (∀ m7 : zM, m7 = nwO (sR m3 640 a0 (mz m)) 1 11 → (mC m7 a0 = 11) ∧ ((mz m3) ≠ 0) ∧ zC xs xl d 1 [zR (mz m3), zR (mR m7 640 a0)] m7 (fun r m9 => r = .inl none ∧ (mC m9 a0 = 11) ∧ (∀ m13 : zM, m13 = nwA (sR m9 641 a0 (mz m3)) 33 6 → (mC m13 a0 = 11) ∧ (∀ m15 : zM, m15 = nwO (sR m13 642 a0 (mz m9)) 9 9 → ((mz m13) ≠ 0) ∧ zC xs xl d 84 [zR (mz m13)] m15 (fun r m16 => r = .inl none ∧ (mC m16 a0 = 11) ∧ (∀ m20 : zM, m20 = nwO (sR m16 643 a0 (mz m13)) 9 9 → ((mz m16) ≠ 0) ∧ zC xs xl d 84 [zR (mz m16)] m20 (fun r m21 => r = .inl none ∧ (mC m21 a0 = 11) ∧ zW xs xl d cX10_init 10 (none) true [] 63 [zR a0, zI 0] [] (sR m21 644 a0 (mz m16)) Q)))))))))) : zC xs xl (d + 1) 102 [zR a0] m Q := by
  refine zk_102 ?_
  refine (zq_aload_n dX10_init_0 rfl).mpr ?_
  obtain ⟨g1, h⟩ := h
  refine (zq_oinit dX10_init_1 mr_10_1).mpr ⟨⟨g1, (Nat.le_of_ble_eq_true rfl)⟩, ?_⟩
  refine (zq_aload_n dX10_init_4 rfl).mpr ?_
  refine zq_new2 dX10_init_5 nw_10_7 rfl (fun m2 em2 => ?_)
  replace h := h m2 em2
  refine (zq_dupR dX10_init_8).mpr ?_
  obtain ⟨g5, h⟩ := h
  refine zq_special2 (n := 0) dX10_init_9 mr_10_9 zn_81 rfl rfl g5 (Nat.le_of_ble_eq_true rfl) ?_
  refine h.mono (fun r m3 h => ?_)
  obtain ⟨rfl, h⟩ := h
  refine ⟨rfl, ?_⟩
  obtain ⟨g6, h⟩ := h
  refine (zq_putR (f := 640) dX10_init_12 fl_10_10 (by decide) rfl rfl rfl).mpr ⟨g6, ?_⟩
  refine (zq_aload_n dX10_init_15 rfl).mpr ?_
  refine zq_new2 dX10_init_16 nw_10_16 rfl (fun m7 em7 => ?_)
  replace h := h m7 em7
  refine (zq_dupR dX10_init_19).mpr ?_
  refine (zq_aload_n dX10_init_20 rfl).mpr ?_
  obtain ⟨g8, h⟩ := h
  refine (zq_getR2 (f := 640) (v := (mR m7 640 a0)) dX10_init_21 fl_10_10 (by decide) rfl rfl (by first | rfl | simp only [zm_Is, zm_Rs, zm_As, zm_Os, zm_In0, zm_Rn0])).mpr ⟨g8, ?_⟩
  obtain ⟨g11, h⟩ := h
  refine zq_special2 (n := 1) dX10_init_24 mr_10_18 zn_1 rfl rfl g11 (Nat.le_of_ble_eq_true rfl) ?_
  refine h.mono (fun r m9 h => ?_)
  obtain ⟨rfl, h⟩ := h
  refine ⟨rfl, ?_⟩
  obtain ⟨g12, h⟩ := h
  refine (zq_putR (f := 641) dX10_init_27 fl_10_21 (by decide) rfl rfl rfl).mpr ⟨g12, ?_⟩
  refine (zq_aload_n dX10_init_30 rfl).mpr ?_
  refine (zq_bipush (v := 6) dX10_init_31 (by decide)).mpr ?_
  refine zq_anew2 (kd := 33) (i := 6) dX10_init_33 nw_10_25 rfl rfl rfl ⟨by decide, by decide⟩ (fun m13 em13 => ?_)
  replace h := h m13 em13
  obtain ⟨g14, h⟩ := h
  refine (zq_putR (f := 642) dX10_init_36 fl_10_27 (by decide) rfl rfl rfl).mpr ⟨g14, ?_⟩
  refine (zq_aload_n dX10_init_39 rfl).mpr ?_
  refine zq_new2 dX10_init_40 nw_10_31 rfl (fun m15 em15 => ?_)
  replace h := h m15 em15
  refine (zq_dupR dX10_init_43).mpr ?_
  obtain ⟨g18, h⟩ := h
  refine zq_special2 (n := 0) dX10_init_44 mr_10_33 zn_84 rfl rfl g18 (Nat.le_of_ble_eq_true rfl) ?_
  refine h.mono (fun r m16 h => ?_)
  obtain ⟨rfl, h⟩ := h
  refine ⟨rfl, ?_⟩
  obtain ⟨g19, h⟩ := h
  refine (zq_putR (f := 643) dX10_init_47 fl_10_34 (by decide) rfl rfl rfl).mpr ⟨g19, ?_⟩
  refine (zq_aload_n dX10_init_50 rfl).mpr ?_
  refine zq_new2 dX10_init_51 nw_10_31 rfl (fun m20 em20 => ?_)
  replace h := h m20 em20
  refine (zq_dupR dX10_init_54).mpr ?_
  obtain ⟨g23, h⟩ := h
  refine zq_special2 (n := 0) dX10_init_55 mr_10_33 zn_84 rfl rfl g23 (Nat.le_of_ble_eq_true rfl) ?_
  refine h.mono (fun r m21 h => ?_)
  obtain ⟨rfl, h⟩ := h
  refine ⟨rfl, ?_⟩
  obtain ⟨g24, h⟩ := h
  refine (zq_putR (f := 644) dX10_init_58 fl_10_38 (by decide) rfl rfl rfl).mpr ⟨g24, ?_⟩
  refine (zq_iconst (v := 0) dX10_init_61 (by decide)).mpr ?_
  refine (zq_istore_n (l := [zR a0, zI 0]) dX10_init_62 (Nat.le_of_ble_eq_true rfl) rfl).mpr ?_
  exact h
theorem bX10_init_63 {a0 : Nat} {a1 : Int} (h : ((6 ≤ a1 → Q (.inl none) m) ∧ (¬ (6 ≤ a1) → (mC m a0 = 11) ∧ (∀ m2 : zM, m2 = nwO m 3 5 → ((mz m) ≠ 0) ∧ zC xs xl d 31 [zR (mz m)] m2 (fun r m3 => r = .inl none ∧ (0 ≤ a1 ∧ a1 < mN m3 (mR m 642 a0)) ∧ (30 ≤ mC m3 (mR m 642 a0) ∧ mC m3 (mR m 642 a0) < 43) ∧ (mC m3 (mz m) + 29 = mC m3 (mR m 642 a0)) ∧ zW xs xl d cX10_init 10 (none) true [] 63 [zR a0, zI (wr (a1 + 1))] [] (sO m3 (mR m 642 a0) (Int.toNat a1) (mz m)) Q))))) : zW xs xl d cX10_init 10 (none) true [] 63 [zR a0, zI a1] [] m Q := by
  refine (zq_iload_n dX10_init_63 rfl).mpr ?_
  refine (zq_bipush (v := 6) dX10_init_64 (by decide)).mpr ?_
  refine (zq_icmp_ge (t := 88) dX10_init_66 rfl).mpr ⟨fun c => ?_, fun c => ?_⟩
  · replace h := h.1 c
    exact (zq_ret dX10_init_88 rfl).mpr h
  · replace h := h.2 c
    refine (zq_aload_n dX10_init_69 rfl).mpr ?_
    obtain ⟨g1, h⟩ := h
    refine (zq_getR2 (f := 642) (v := (mR m 642 a0)) dX10_init_70 fl_10_27 (by decide) rfl rfl (by first | rfl | simp only [zm_Is, zm_Rs, zm_As, zm_Os, zm_In0, zm_Rn0])).mpr ⟨g1, ?_⟩
    refine (zq_iload_n dX10_init_73 rfl).mpr ?_
    refine zq_new2 dX10_init_74 nw_10_25 rfl (fun m2 em2 => ?_)
    replace h := h m2 em2
    refine (zq_dupR dX10_init_77).mpr ?_
    obtain ⟨g5, h⟩ := h
    refine zq_special2 (n := 0) dX10_init_78 mr_10_41 zn_31 rfl rfl g5 (Nat.le_of_ble_eq_true rfl) ?_
    refine h.mono (fun r m3 h => ?_)
    obtain ⟨rfl, h⟩ := h
    refine ⟨rfl, ?_⟩
    obtain ⟨g6, h⟩ := h
    obtain ⟨g7, h⟩ := h
    obtain ⟨g8, h⟩ := h
    refine (zq_aast dX10_init_81).mpr ⟨⟨g7.1, g7.2, g8, g6⟩, ?_⟩
    refine (zq_iinc (l := [zR a0, zI (wr (a1 + 1))]) dX10_init_82 rfl rfl).mpr ?_
    refine (zq_goto (t := 63) dX10_init_85 rfl).mpr ?_
    exact h
theorem bX10_feed_0 {a0 : Nat} {a1 : Int} {a2 : Int} {a3 : Int} {a4 : Int} {a5 : Int} (h : (mC m a0 = 11) ∧ (mC m (mR m 640 a0) = 9) ∧ (((wr ((mI m 513 (mR m 640 a0)) + 20)) ≤ 1000 → zC xs xl d 82 [zR (mR m 640 a0), zI a1] m (fun r m3 => r = .inl none ∧ (mC m3 a0 = 11) ∧ (mC m3 (mR m3 640 a0) = 9) ∧ zC xs xl d 82 [zR (mR m3 640 a0), zI a2] m3 (fun r m6 => r = .inl none ∧ (mC m6 a0 = 11) ∧ (mC m6 (mR m6 640 a0) = 9) ∧ zC xs xl d 82 [zR (mR m6 640 a0), zI a3] m6 (fun r m10 => r = .inl none ∧ (mC m10 a0 = 11) ∧ (mC m10 (mR m10 640 a0) = 9) ∧ zC xs xl d 82 [zR (mR m10 640 a0), zI a4] m10 (fun r m14 => r = .inl none ∧ (mC m14 a0 = 11) ∧ (mC m14 (mR m14 640 a0) = 9) ∧ zC xs xl d 82 [zR (mR m14 640 a0), zI a5] m14 (fun r m18 => r = .inl none ∧ (mC m18 a0 = 11) ∧ (mC m18 (mR m18 640 a0) = 9) ∧ Q (.inl (some (zI (mI m18 513 (mR m18 640 a0))))) m18)))))) ∧ (¬ ((wr ((mI m 513 (mR m 640 a0)) + 20)) ≤ 1000) → Q (.inr 0) (nwX m)))) : zC xs xl (d + 1) 103 [zR a0, zI a1, zI a2, zI a3, zI a4, zI a5] m Q := by
  refine zk_103 ?_
  refine (zq_aload_n dX10_feed_0 rfl).mpr ?_
  obtain ⟨g1, h⟩ := h
  refine (zq_getR2 (f := 640) (v := (mR m 640 a0)) dX10_feed_1 fl_10_10 (by decide) rfl rfl (by first | rfl | simp only [zm_Is, zm_Rs, zm_As, zm_Os, zm_In0, zm_Rn0])).mpr ⟨g1, ?_⟩
  obtain ⟨g2, h⟩ := h
  refine (zq_getI2 (f := 513) (v := (mI m 513 (mR m 640 a0))) dX10_feed_4 fl_10_42 (by decide) rfl rfl (by first | rfl | simp only [zm_Is, zm_Rs, zm_As, zm_Os, zm_In0, zm_Rn0])).mpr ⟨g2, ?_⟩
  refine (zq_bipush (v := 20) dX10_feed_7 (by decide)).mpr ?_
  refine (zq_iadd dX10_feed_9).mpr ?_
  refine (zq_sipush (v := 1000) dX10_feed_10 (by decide)).mpr ?_
  refine (zq_icmp_le (t := 26) dX10_feed_13 rfl).mpr ⟨fun c => ?_, fun c => ?_⟩
  · replace h := h.1 c
    refine (zq_aload_n dX10_feed_26 rfl).mpr ?_
    refine (zq_getR2 (f := 640) (v := (mR m 640 a0)) dX10_feed_27 fl_10_10 (by decide) rfl rfl (by first | rfl | simp only [zm_Is, zm_Rs, zm_As, zm_Os, zm_In0, zm_Rn0])).mpr ⟨g1, ?_⟩
    refine (zq_iload_n dX10_feed_30 rfl).mpr ?_
    refine zq_virtualV (n := 1) dX10_feed_31 mr_10_53 zn_82 rfl rfl rfl (zrcv_R zo_82 (by decide) g2) (Nat.le_of_ble_eq_true rfl) ?_
    refine h.mono (fun r m3 h => ?_)
    obtain ⟨rfl, h⟩ := h
    refine ⟨rfl, ?_⟩
    refine (zq_aload_n dX10_feed_34 rfl).mpr ?_
    obtain ⟨g5, h⟩ := h
    refine (zq_getR2 (f := 640) (v := (mR m3 640 a0)) dX10_feed_35 fl_10_10 (by decide) rfl rfl (by first | rfl | simp only [zm_Is, zm_Rs, zm_As, zm_Os, zm_In0, zm_Rn0])).mpr ⟨g5, ?_⟩
    refine (zq_iload_n dX10_feed_38 rfl).mpr ?_
    obtain ⟨g8, h⟩ := h
    refine zq_virtualV (n := 1) dX10_feed_39 mr_10_53 zn_82 rfl rfl rfl (zrcv_R zo_82 (by decide) g8) (Nat.le_of_ble_eq_true rfl) ?_
    refine h.mono (fun r m6 h => ?_)
    obtain ⟨rfl, h⟩ := h
    refine ⟨rfl, ?_⟩
    refine (zq_aload_n dX10_feed_42 rfl).mpr ?_
    obtain ⟨g9, h⟩ := h
    refine (zq_getR2 (f := 640) (v := (mR m6 640 a0)) dX10_feed_43 fl_10_10 (by decide) rfl rfl (by first | rfl | simp only [zm_Is, zm_Rs, zm_As, zm_Os, zm_In0, zm_Rn0])).mpr ⟨g9, ?_⟩
    refine (zq_iload_n dX10_feed_46 rfl).mpr ?_
    obtain ⟨g12, h⟩ := h
    refine zq_virtualV (n := 1) dX10_feed_47 mr_10_53 zn_82 rfl rfl rfl (zrcv_R zo_82 (by decide) g12) (Nat.le_of_ble_eq_true rfl) ?_
    refine h.mono (fun r m10 h => ?_)
    obtain ⟨rfl, h⟩ := h
    refine ⟨rfl, ?_⟩
    refine (zq_aload_n dX10_feed_50 rfl).mpr ?_
    obtain ⟨g13, h⟩ := h
    refine (zq_getR2 (f := 640) (v := (mR m10 640 a0)) dX10_feed_51 fl_10_10 (by decide) rfl rfl (by first | rfl | simp only [zm_Is, zm_Rs, zm_As, zm_Os, zm_In0, zm_Rn0])).mpr ⟨g13, ?_⟩
    refine (zq_iload dX10_feed_54 rfl).mpr ?_
    obtain ⟨g16, h⟩ := h
    refine zq_virtualV (n := 1) dX10_feed_56 mr_10_53 zn_82 rfl rfl rfl (zrcv_R zo_82 (by decide) g16) (Nat.le_of_ble_eq_true rfl) ?_
    refine h.mono (fun r m14 h => ?_)
    obtain ⟨rfl, h⟩ := h
    refine ⟨rfl, ?_⟩
    refine (zq_aload_n dX10_feed_59 rfl).mpr ?_
    obtain ⟨g17, h⟩ := h
    refine (zq_getR2 (f := 640) (v := (mR m14 640 a0)) dX10_feed_60 fl_10_10 (by decide) rfl rfl (by first | rfl | simp only [zm_Is, zm_Rs, zm_As, zm_Os, zm_In0, zm_Rn0])).mpr ⟨g17, ?_⟩
    refine (zq_iload dX10_feed_63 rfl).mpr ?_
    obtain ⟨g20, h⟩ := h
    refine zq_virtualV (n := 1) dX10_feed_65 mr_10_53 zn_82 rfl rfl rfl (zrcv_R zo_82 (by decide) g20) (Nat.le_of_ble_eq_true rfl) ?_
    refine h.mono (fun r m18 h => ?_)
    obtain ⟨rfl, h⟩ := h
    refine ⟨rfl, ?_⟩
    refine (zq_aload_n dX10_feed_68 rfl).mpr ?_
    obtain ⟨g21, h⟩ := h
    refine (zq_getR2 (f := 640) (v := (mR m18 640 a0)) dX10_feed_69 fl_10_10 (by decide) rfl rfl (by first | rfl | simp only [zm_Is, zm_Rs, zm_As, zm_Os, zm_In0, zm_Rn0])).mpr ⟨g21, ?_⟩
    obtain ⟨g22, h⟩ := h
    refine (zq_getI2 (f := 513) (v := (mI m18 513 (mR m18 640 a0))) dX10_feed_72 fl_10_42 (by decide) rfl rfl (by first | rfl | simp only [zm_Is, zm_Rs, zm_As, zm_Os, zm_In0, zm_Rn0])).mpr ⟨g22, ?_⟩
    exact (zq_iret dX10_feed_75 rfl).mpr ⟨trivial, h⟩
  · replace h := h.2 c
    exact (zq_throw dX10_feed_16 nx_10_46 xr_10_46 dX10_feed_19 dX10_feed_20 dX10_feed_22 dX10_feed_25 (by decide)).mpr h
theorem bX10_trim_0 {a0 : Nat} {a1 : Int} (h : ((a1 < 0 → Q (.inr 1) (nwX m)) ∧ (¬ (a1 < 0) → (mC m a0 = 11) ∧ (mC m (mR m 640 a0) = 9) ∧ ((a1 ≤ (mI m 513 (mR m 640 a0)) → Q (.inl (some (zI a1))) (sI m 513 (mR m 640 a0) a1)) ∧ (¬ (a1 ≤ (mI m 513 (mR m 640 a0))) → Q (.inr 1) (nwX m)))))) : zC xs xl (d + 1) 104 [zR a0, zI a1] m Q := by
  refine zk_104 ?_
  refine (zq_iload_n dX10_trim_0 rfl).mpr ?_
  refine (zq_if_lt (t := 15) dX10_trim_1 rfl).mpr ⟨fun c => ?_, fun c => ?_⟩
  · replace h := h.1 c
    exact (zq_throw dX10_trim_15 nx_10_57 xr_10_57 dX10_trim_18 dX10_trim_19 dX10_trim_21 dX10_trim_24 (by decide)).mpr h
  · replace h := h.2 c
    refine (zq_iload_n dX10_trim_4 rfl).mpr ?_
    refine (zq_aload_n dX10_trim_5 rfl).mpr ?_
    obtain ⟨g1, h⟩ := h
    refine (zq_getR2 (f := 640) (v := (mR m 640 a0)) dX10_trim_6 fl_10_10 (by decide) rfl rfl (by first | rfl | simp only [zm_Is, zm_Rs, zm_As, zm_Os, zm_In0, zm_Rn0])).mpr ⟨g1, ?_⟩
    obtain ⟨g2, h⟩ := h
    refine (zq_getI2 (f := 513) (v := (mI m 513 (mR m 640 a0))) dX10_trim_9 fl_10_42 (by decide) rfl rfl (by first | rfl | simp only [zm_Is, zm_Rs, zm_As, zm_Os, zm_In0, zm_Rn0])).mpr ⟨g2, ?_⟩
    refine (zq_icmp_le (t := 25) dX10_trim_12 rfl).mpr ⟨fun c => ?_, fun c => ?_⟩
    · replace h := h.1 c
      refine (zq_aload_n dX10_trim_25 rfl).mpr ?_
      refine (zq_getR2 (f := 640) (v := (mR m 640 a0)) dX10_trim_26 fl_10_10 (by decide) rfl rfl (by first | rfl | simp only [zm_Is, zm_Rs, zm_As, zm_Os, zm_In0, zm_Rn0])).mpr ⟨g1, ?_⟩
      refine (zq_iload_n dX10_trim_29 rfl).mpr ?_
      refine (zq_putI (f := 513) dX10_trim_30 fl_10_42 (by decide) rfl rfl rfl).mpr ⟨g2, ?_⟩
      refine (zq_iload_n dX10_trim_33 rfl).mpr ?_
      exact (zq_iret dX10_trim_34 rfl).mpr ⟨trivial, h⟩
    · replace h := h.2 c
      exact (zq_throw dX10_trim_15 nx_10_57 xr_10_57 dX10_trim_18 dX10_trim_19 dX10_trim_21 dX10_trim_24 (by decide)).mpr h
theorem bX10_compile_0 {a0 : Nat} {a1 : Int} (h : zC xs xl d 127 [zI a1, zI 6] m (fun r m1 => ∃ v2 : Int, r = .inl (some (zI v2)) ∧ ((v2 ≠ 0 → (∀ m3 : zM, m3 = nwO m1 3 5 → ((mz m1) ≠ 0) ∧ zC xs xl d 31 [zR (mz m1)] m3 (fun r m4 => r = .inl none ∧ (mC m4 a0 = 11) ∧ (mC m4 (mR m4 641 a0) = 2) ∧ zC xs xl d 3 [zR (mR m4 641 a0)] m4 (fun r m8 => ∃ v9 : Int, r = .inl (some (zI v9)) ∧ ((v9 ≠ 0 → zW xs xl d cX10_compile 10 (some .int) false [] 48 [zR a0, zI a1, zR (mz m1), zI v9] [] m8 Q) ∧ (¬ (v9 ≠ 0) → (mC m8 a0 = 11) ∧ (mC m8 (mR m8 641 a0) = 2) ∧ zC xs xl d 7 [zR (mR m8 641 a0), zR (mz m1)] m8 (fun r m12 => ∃ v13 : Int, r = .inl (some (zI v13)) ∧ zW xs xl d cX10_compile 10 (some .int) false [] 48 [zR a0, zI a1, zR (mz m1), zI v13] [] m12 Q))))))) ∧ (¬ (v2 ≠ 0) → Q (.inr 2) (nwX m1))))) : zC xs xl (d + 1) 105 [zR a0, zI a1] m Q := by
  refine zk_105 ?_
  refine (zq_iload_n dX10_compile_0 rfl).mpr ?_
  refine (zq_bipush (v := 6) dX10_compile_1 (by decide)).mpr ?_
  refine zq_staticI (n := 2) dX10_compile_3 mr_10_62 zn_127 rfl rfl (Nat.le_of_ble_eq_true rfl) (Nat.le_of_ble_eq_true rfl) ?_
  refine h.mono (fun r m1 h => ?_)
  obtain ⟨v2, rfl, h⟩ := h
  refine ⟨_, rfl, ?_⟩
  refine (zq_if_ne (t := 19) dX10_compile_6 rfl).mpr ⟨fun c => ?_, fun c => ?_⟩
  · replace h := h.1 c
    refine zq_new2 dX10_compile_19 nw_10_25 rfl (fun m3 em3 => ?_)
    replace h := h m3 em3
    refine (zq_dupR dX10_compile_22).mpr ?_
    obtain ⟨g6, h⟩ := h
    refine zq_special2 (n := 0) dX10_compile_23 mr_10_41 zn_31 rfl rfl g6 (Nat.le_of_ble_eq_true rfl) ?_
    refine h.mono (fun r m4 h => ?_)
    obtain ⟨rfl, h⟩ := h
    refine ⟨rfl, ?_⟩
    refine (zq_astore_n (l := [zR a0, zI a1, zR (mz m1), zU]) dX10_compile_26 (Nat.le_of_ble_eq_true rfl) rfl).mpr ?_
    refine (zq_aload_n dX10_compile_27 rfl).mpr ?_
    obtain ⟨g7, h⟩ := h
    refine (zq_getR2 (f := 641) (v := (mR m4 641 a0)) dX10_compile_28 fl_10_21 (by decide) rfl rfl (by first | rfl | simp only [zm_Is, zm_Rs, zm_As, zm_Os, zm_In0, zm_Rn0])).mpr ⟨g7, ?_⟩
    obtain ⟨g10, h⟩ := h
    refine zq_virtualI (n := 0) dX10_compile_31 mr_10_71 zn_3 rfl rfl rfl (zrcv_R zo_3 (by decide) g10) (Nat.le_of_ble_eq_true rfl) ?_
    refine h.mono (fun r m8 h => ?_)
    obtain ⟨v9, rfl, h⟩ := h
    refine ⟨_, rfl, ?_⟩
    refine (zq_istore_n (l := [zR a0, zI a1, zR (mz m1), zI v9]) dX10_compile_34 (Nat.le_of_ble_eq_true rfl) rfl).mpr ?_
    refine (zq_iload_n dX10_compile_35 rfl).mpr ?_
    refine (zq_if_ne (t := 48) dX10_compile_36 rfl).mpr ⟨fun c => ?_, fun c => ?_⟩
    · replace h := h.1 c
      exact h
    · replace h := h.2 c
      refine (zq_aload_n dX10_compile_39 rfl).mpr ?_
      obtain ⟨g11, h⟩ := h
      refine (zq_getR2 (f := 641) (v := (mR m8 641 a0)) dX10_compile_40 fl_10_21 (by decide) rfl rfl (by first | rfl | simp only [zm_Is, zm_Rs, zm_As, zm_Os, zm_In0, zm_Rn0])).mpr ⟨g11, ?_⟩
      refine (zq_aload_n dX10_compile_43 rfl).mpr ?_
      obtain ⟨g14, h⟩ := h
      refine zq_virtualI (n := 1) dX10_compile_44 mr_10_75 zn_7 rfl rfl rfl (zrcv_R zo_7 (by decide) g14) (Nat.le_of_ble_eq_true rfl) ?_
      refine h.mono (fun r m12 h => ?_)
      obtain ⟨v13, rfl, h⟩ := h
      refine ⟨_, rfl, ?_⟩
      refine (zq_istore_n (l := [zR a0, zI a1, zR (mz m1), zI v13]) dX10_compile_47 (Nat.le_of_ble_eq_true rfl) rfl).mpr ?_
      exact h
  · replace h := h.2 c
    exact (zq_throw dX10_compile_9 nx_10_66 xr_10_66 dX10_compile_12 dX10_compile_13 dX10_compile_15 dX10_compile_18 (by decide)).mpr h
theorem bX10_compile_48 {a0 : Nat} {a1 : Int} {a2 : Nat} {a3 : Int} (h : ((a3 ≠ 0 → (mC m a0 = 11) ∧ (mC m (mR m 640 a0) = 9) ∧ Q (.inl (some (zI a3))) (sI m 513 (mR m 640 a0) 0)) ∧ (¬ (a3 ≠ 0) → (mC m a0 = 11) ∧ (0 ≤ a1 ∧ a1 < mN m (mR m 642 a0)) ∧ (30 ≤ mC m (mR m 642 a0) ∧ mC m (mR m 642 a0) < 43) ∧ (mC m a2 + 29 = mC m (mR m 642 a0)) ∧ (mC m (mR m 640 a0) = 9) ∧ Q (.inl (some (zI a3))) (sI (sO m (mR m 642 a0) (Int.toNat a1) a2) 513 (mR m 640 a0) 0)))) : zW xs xl d cX10_compile 10 (some .int) false [] 48 [zR a0, zI a1, zR a2, zI a3] [] m Q := by
  refine (zq_iload_n dX10_compile_48 rfl).mpr ?_
  refine (zq_if_ne (t := 59) dX10_compile_49 rfl).mpr ⟨fun c => ?_, fun c => ?_⟩
  · replace h := h.1 c
    refine (zq_aload_n dX10_compile_59 rfl).mpr ?_
    obtain ⟨g1, h⟩ := h
    refine (zq_getR2 (f := 640) (v := (mR m 640 a0)) dX10_compile_60 fl_10_10 (by decide) rfl rfl (by first | rfl | simp only [zm_Is, zm_Rs, zm_As, zm_Os, zm_In0, zm_Rn0])).mpr ⟨g1, ?_⟩
    refine (zq_iconst (v := 0) dX10_compile_63 (by decide)).mpr ?_
    obtain ⟨g2, h⟩ := h
    refine (zq_putI (f := 513) dX10_compile_64 fl_10_42 (by decide) rfl rfl rfl).mpr ⟨g2, ?_⟩
    refine (zq_iload_n dX10_compile_67 rfl).mpr ?_
    exact (zq_iret dX10_compile_68 rfl).mpr ⟨trivial, h⟩
  · replace h := h.2 c
    refine (zq_aload_n dX10_compile_52 rfl).mpr ?_
    obtain ⟨g3, h⟩ := h
    refine (zq_getR2 (f := 642) (v := (mR m 642 a0)) dX10_compile_53 fl_10_27 (by decide) rfl rfl (by first | rfl | simp only [zm_Is, zm_Rs, zm_As, zm_Os, zm_In0, zm_Rn0])).mpr ⟨g3, ?_⟩
    refine (zq_iload_n dX10_compile_56 rfl).mpr ?_
    refine (zq_aload_n dX10_compile_57 rfl).mpr ?_
    obtain ⟨g4, h⟩ := h
    obtain ⟨g5, h⟩ := h
    obtain ⟨g6, h⟩ := h
    refine (zq_aast dX10_compile_58).mpr ⟨⟨g5.1, g5.2, g6, g4⟩, ?_⟩
    refine (zq_aload_n dX10_compile_59 rfl).mpr ?_
    refine (zq_getR2 (f := 640) (v := (mR m 640 a0)) dX10_compile_60 fl_10_10 (by decide) rfl rfl (by first | rfl | simp only [zm_Is, zm_Rs, zm_As, zm_Os, zm_In0, zm_Rn0])).mpr ⟨g3, ?_⟩
    refine (zq_iconst (v := 0) dX10_compile_63 (by decide)).mpr ?_
    obtain ⟨g7, h⟩ := h
    refine (zq_putI (f := 513) dX10_compile_64 fl_10_42 (by decide) rfl rfl rfl).mpr ⟨g7, ?_⟩
    refine (zq_iload_n dX10_compile_67 rfl).mpr ?_
    exact (zq_iret dX10_compile_68 rfl).mpr ⟨trivial, h⟩
theorem bX10_errorAt_0 {a0 : Nat} (h : (mC m a0 = 11) ∧ (mC m (mR m 641 a0) = 2) ∧ Q (.inl (some (zI (mI m 74 (mR m 641 a0))))) m) : zC xs xl (d + 1) 106 [zR a0] m Q := by
  refine zk_106 ?_
  refine (zq_aload_n dX10_errorAt_0 rfl).mpr ?_
  obtain ⟨g1, h⟩ := h
  refine (zq_getR2 (f := 641) (v := (mR m 641 a0)) dX10_errorAt_1 fl_10_21 (by decide) rfl rfl (by first | rfl | simp only [zm_Is, zm_Rs, zm_As, zm_Os, zm_In0, zm_Rn0])).mpr ⟨g1, ?_⟩
  obtain ⟨g2, h⟩ := h
  refine (zq_getI2 (f := 74) (v := (mI m 74 (mR m 641 a0))) dX10_errorAt_4 fl_10_79 (by decide) rfl rfl (by first | rfl | simp only [zm_Is, zm_Rs, zm_As, zm_Os, zm_In0, zm_Rn0])).mpr ⟨g2, ?_⟩
  exact (zq_iret dX10_errorAt_7 rfl).mpr ⟨trivial, h⟩
theorem bX10_plan_0 {a0 : Nat} {a1 : Int} {a2 : Int} (h : zC xs xl d 127 [zI a1, zI 6] m (fun r m1 => ∃ v2 : Int, r = .inl (some (zI v2)) ∧ ((v2 = 0 → Q (.inr 2) (nwX m1)) ∧ (¬ (v2 = 0) → zC xs xl d 127 [zI a2, zI 4] m1 (fun r m3 => ∃ v4 : Int, r = .inl (some (zI v4)) ∧ ((v4 ≠ 0 → (mC m3 a0 = 11) ∧ (29 ≤ mC m3 (mR m3 642 a0) ∧ mC m3 (mR m3 642 a0) < 43) ∧ (0 ≤ a1 ∧ a1 < mN m3 (mR m3 642 a0)) ∧ (mC m3 (mO m3 (mR m3 642 a0) (Int.toNat a1)) = 4) ∧ zC xs xl d 34 [zR (mO m3 (mR m3 642 a0) (Int.toNat a1)), zI a2] m3 (fun r m8 => ∃ v9 : Int, r = .inl (some (zI v9)) ∧ Q (.inl (some (zI v9))) m8)) ∧ (¬ (v4 ≠ 0) → Q (.inr 2) (nwX m3)))))))) : zC xs xl (d + 1) 107 [zR a0, zI a1, zI a2] m Q := by
  refine zk_107 ?_
  refine (zq_iload_n dX10_plan_0 rfl).mpr ?_
  refine (zq_bipush (v := 6) dX10_plan_1 (by decide)).mpr ?_
  refine zq_staticI (n := 2) dX10_plan_3 mr_10_62 zn_127 rfl rfl (Nat.le_of_ble_eq_true rfl) (Nat.le_of_ble_eq_true rfl) ?_
  refine h.mono (fun r m1 h => ?_)
  obtain ⟨v2, rfl, h⟩ := h
  refine ⟨_, rfl, ?_⟩
  refine (zq_if_eq (t := 17) dX10_plan_6 rfl).mpr ⟨fun c => ?_, fun c => ?_⟩
  · replace h := h.1 c
    exact (zq_throw dX10_plan_17 nx_10_66 xr_10_66 dX10_plan_20 dX10_plan_21 dX10_plan_23 dX10_plan_26 (by decide)).mpr h
  · replace h := h.2 c
    refine (zq_iload_n dX10_plan_9 rfl).mpr ?_
    refine (zq_iconst (v := 4) dX10_plan_10 (by decide)).mpr ?_
    refine zq_staticI (n := 2) dX10_plan_11 mr_10_62 zn_127 rfl rfl (Nat.le_of_ble_eq_true rfl) (Nat.le_of_ble_eq_true rfl) ?_
    refine h.mono (fun r m3 h => ?_)
    obtain ⟨v4, rfl, h⟩ := h
    refine ⟨_, rfl, ?_⟩
    refine (zq_if_ne (t := 27) dX10_plan_14 rfl).mpr ⟨fun c => ?_, fun c => ?_⟩
    · replace h := h.1 c
      refine (zq_aload_n dX10_plan_27 rfl).mpr ?_
      obtain ⟨g5, h⟩ := h
      refine (zq_getR2 (f := 642) (v := (mR m3 642 a0)) dX10_plan_28 fl_10_27 (by decide) rfl rfl (by first | rfl | simp only [zm_Is, zm_Rs, zm_As, zm_Os, zm_In0, zm_Rn0])).mpr ⟨g5, ?_⟩
      refine (zq_iload_n dX10_plan_31 rfl).mpr ?_
      obtain ⟨g6, h⟩ := h
      obtain ⟨g7, h⟩ := h
      refine (zq_aald2 (v := (mO m3 (mR m3 642 a0) (Int.toNat a1))) dX10_plan_32 (by first | rfl | simp only [zm_Is, zm_Rs, zm_As, zm_Os, zm_In0, zm_Rn0])).mpr ⟨⟨g6.1, g6.2, g7⟩, ?_⟩
      refine (zq_iload_n dX10_plan_33 rfl).mpr ?_
      obtain ⟨g10, h⟩ := h
      refine zq_virtualI (n := 1) dX10_plan_34 mr_10_84 zn_34 rfl rfl rfl (zrcv_R zo_34 (by decide) g10) (Nat.le_of_ble_eq_true rfl) ?_
      refine h.mono (fun r m8 h => ?_)
      obtain ⟨v9, rfl, h⟩ := h
      refine ⟨_, rfl, ?_⟩
      exact (zq_iret dX10_plan_37 rfl).mpr ⟨trivial, h⟩
    · replace h := h.2 c
      exact (zq_throw dX10_plan_17 nx_10_66 xr_10_66 dX10_plan_20 dX10_plan_21 dX10_plan_23 dX10_plan_26 (by decide)).mpr h
theorem bX10_addPlank_0 {a0 : Nat} {a1 : Int} {a2 : Int} {a3 : Int} (h : zC xs xl d 127 [zI a1, zI 4] m (fun r m1 => ∃ v2 : Int, r = .inl (some (zI v2)) ∧ ((v2 = 0 → Q (.inr 1) (nwX m1)) ∧ (¬ (v2 = 0) → ((a2 < 10 → Q (.inr 1) (nwX m1)) ∧ (¬ (a2 < 10) → ((300 < a2 → Q (.inr 1) (nwX m1)) ∧ (¬ (300 < a2) → ((a3 < 0 → Q (.inr 1) (nwX m1)) ∧ (¬ (a3 < 0) → ((a3 ≤ 100 → (mC m1 a0 = 11) ∧ (mC m1 (mR m1 643 a0) = 10) ∧ (mC m1 (mR m1 577 (mR m1 643 a0)) = 8) ∧ (((mI m1 449 (mR m1 577 (mR m1 643 a0))) < 60 → zC xs xl d 75 [zR (mR m1 577 (mR m1 643 a0)), zI a1, zI a2, zI a3] m1 (fun r m6 => ∃ v7 : Int, r = .inl (some (zI v7)) ∧ Q (.inl (some (zI v7))) m6)) ∧ (¬ ((mI m1 449 (mR m1 577 (mR m1 643 a0))) < 60) → Q (.inr 0) (nwX m1)))) ∧ (¬ (a3 ≤ 100) → Q (.inr 1) (nwX m1))))))))))))) : zC xs xl (d + 1) 108 [zR a0, zI a1, zI a2, zI a3] m Q := by
  refine zk_108 ?_
  refine (zq_iload_n dX10_addPlank_0 rfl).mpr ?_
  refine (zq_iconst (v := 4) dX10_addPlank_1 (by decide)).mpr ?_
  refine zq_staticI (n := 2) dX10_addPlank_2 mr_10_62 zn_127 rfl rfl (Nat.le_of_ble_eq_true rfl) (Nat.le_of_ble_eq_true rfl) ?_
  refine h.mono (fun r m1 h => ?_)
  obtain ⟨v2, rfl, h⟩ := h
  refine ⟨_, rfl, ?_⟩
  refine (zq_if_eq (t := 31) dX10_addPlank_5 rfl).mpr ⟨fun c => ?_, fun c => ?_⟩
  · replace h := h.1 c
    exact (zq_throw dX10_addPlank_31 nx_10_57 xr_10_57 dX10_addPlank_34 dX10_addPlank_35 dX10_addPlank_37 dX10_addPlank_40 (by decide)).mpr h
  · replace h := h.2 c
    refine (zq_iload_n dX10_addPlank_8 rfl).mpr ?_
    refine (zq_bipush (v := 10) dX10_addPlank_9 (by decide)).mpr ?_
    refine (zq_icmp_lt (t := 31) dX10_addPlank_11 rfl).mpr ⟨fun c => ?_, fun c => ?_⟩
    · replace h := h.1 c
      exact (zq_throw dX10_addPlank_31 nx_10_57 xr_10_57 dX10_addPlank_34 dX10_addPlank_35 dX10_addPlank_37 dX10_addPlank_40 (by decide)).mpr h
    · replace h := h.2 c
      refine (zq_iload_n dX10_addPlank_14 rfl).mpr ?_
      refine (zq_sipush (v := 300) dX10_addPlank_15 (by decide)).mpr ?_
      refine (zq_icmp_gt (t := 31) dX10_addPlank_18 rfl).mpr ⟨fun c => ?_, fun c => ?_⟩
      · replace h := h.1 c
        exact (zq_throw dX10_addPlank_31 nx_10_57 xr_10_57 dX10_addPlank_34 dX10_addPlank_35 dX10_addPlank_37 dX10_addPlank_40 (by decide)).mpr h
      · replace h := h.2 c
        refine (zq_iload_n dX10_addPlank_21 rfl).mpr ?_
        refine (zq_if_lt (t := 31) dX10_addPlank_22 rfl).mpr ⟨fun c => ?_, fun c => ?_⟩
        · replace h := h.1 c
          exact (zq_throw dX10_addPlank_31 nx_10_57 xr_10_57 dX10_addPlank_34 dX10_addPlank_35 dX10_addPlank_37 dX10_addPlank_40 (by decide)).mpr h
        · replace h := h.2 c
          refine (zq_iload_n dX10_addPlank_25 rfl).mpr ?_
          refine (zq_bipush (v := 100) dX10_addPlank_26 (by decide)).mpr ?_
          refine (zq_icmp_le (t := 41) dX10_addPlank_28 rfl).mpr ⟨fun c => ?_, fun c => ?_⟩
          · replace h := h.1 c
            refine (zq_aload_n dX10_addPlank_41 rfl).mpr ?_
            obtain ⟨g3, h⟩ := h
            refine (zq_getR2 (f := 643) (v := (mR m1 643 a0)) dX10_addPlank_42 fl_10_34 (by decide) rfl rfl (by first | rfl | simp only [zm_Is, zm_Rs, zm_As, zm_Os, zm_In0, zm_Rn0])).mpr ⟨g3, ?_⟩
            obtain ⟨g4, h⟩ := h
            refine (zq_getR2 (f := 577) (v := (mR m1 577 (mR m1 643 a0))) dX10_addPlank_45 fl_10_90 (by decide) rfl rfl (by first | rfl | simp only [zm_Is, zm_Rs, zm_As, zm_Os, zm_In0, zm_Rn0])).mpr ⟨g4, ?_⟩
            obtain ⟨g5, h⟩ := h
            refine (zq_getI2 (f := 449) (v := (mI m1 449 (mR m1 577 (mR m1 643 a0)))) dX10_addPlank_48 fl_10_94 (by decide) rfl rfl (by first | rfl | simp only [zm_Is, zm_Rs, zm_As, zm_Os, zm_In0, zm_Rn0])).mpr ⟨g5, ?_⟩
            refine (zq_bipush (v := 60) dX10_addPlank_51 (by decide)).mpr ?_
            refine (zq_icmp_lt (t := 66) dX10_addPlank_53 rfl).mpr ⟨fun c => ?_, fun c => ?_⟩
            · replace h := h.1 c
              refine (zq_aload_n dX10_addPlank_66 rfl).mpr ?_
              refine (zq_getR2 (f := 643) (v := (mR m1 643 a0)) dX10_addPlank_67 fl_10_34 (by decide) rfl rfl (by first | rfl | simp only [zm_Is, zm_Rs, zm_As, zm_Os, zm_In0, zm_Rn0])).mpr ⟨g3, ?_⟩
              refine (zq_getR2 (f := 577) (v := (mR m1 577 (mR m1 643 a0))) dX10_addPlank_70 fl_10_90 (by decide) rfl rfl (by first | rfl | simp only [zm_Is, zm_Rs, zm_As, zm_Os, zm_In0, zm_Rn0])).mpr ⟨g4, ?_⟩
              refine (zq_iload_n dX10_addPlank_73 rfl).mpr ?_
              refine (zq_iload_n dX10_addPlank_74 rfl).mpr ?_
              refine (zq_iload_n dX10_addPlank_75 rfl).mpr ?_
              refine zq_virtualI (n := 3) dX10_addPlank_76 mr_10_101 zn_75 rfl rfl rfl (zrcv_R zo_75 (by decide) g5) (Nat.le_of_ble_eq_true rfl) ?_
              refine h.mono (fun r m6 h => ?_)
              obtain ⟨v7, rfl, h⟩ := h
              refine ⟨_, rfl, ?_⟩
              exact (zq_iret dX10_addPlank_79 rfl).mpr ⟨trivial, h⟩
            · replace h := h.2 c
              exact (zq_throw dX10_addPlank_56 nx_10_46 xr_10_46 dX10_addPlank_59 dX10_addPlank_60 dX10_addPlank_62 dX10_addPlank_65 (by decide)).mpr h
          · replace h := h.2 c
            exact (zq_throw dX10_addPlank_31 nx_10_57 xr_10_57 dX10_addPlank_34 dX10_addPlank_35 dX10_addPlank_37 dX10_addPlank_40 (by decide)).mpr h
theorem bX10_addKnot_0 {a0 : Nat} {a1 : Int} {a2 : Int} (h : (mC m a0 = 11) ∧ (mC m (mR m 643 a0) = 10) ∧ (mC m (mR m 577 (mR m 643 a0)) = 8) ∧ zC xs xl d 127 [zI a1, zI (mI m 449 (mR m 577 (mR m 643 a0)))] m (fun r m4 => ∃ v5 : Int, r = .inl (some (zI v5)) ∧ ((v5 ≠ 0 → (mC m4 a0 = 11) ∧ (mC m4 (mR m4 643 a0) = 10) ∧ (mC m4 (mR m4 577 (mR m4 643 a0)) = 8) ∧ (29 ≤ mC m4 (mR m4 448 (mR m4 577 (mR m4 643 a0))) ∧ mC m4 (mR m4 448 (mR m4 577 (mR m4 643 a0))) < 43) ∧ (0 ≤ a1 ∧ a1 < mN m4 (mR m4 448 (mR m4 577 (mR m4 643 a0)))) ∧ (mC m4 (mO m4 (mR m4 448 (mR m4 577 (mR m4 643 a0))) (Int.toNat a1)) = 5) ∧ zC xs xl d 127 [zI a2, zI (mI m4 257 (mO m4 (mR m4 448 (mR m4 577 (mR m4 643 a0))) (Int.toNat a1)))] m4 (fun r m12 => ∃ v13 : Int, r = .inl (some (zI v13)) ∧ ((v13 ≠ 0 → (mC m12 (mO m4 (mR m4 448 (mR m4 577 (mR m4 643 a0))) (Int.toNat a1)) = 5) ∧ ((8 ≤ (mI m12 259 (mO m4 (mR m4 448 (mR m4 577 (mR m4 643 a0))) (Int.toNat a1))) → Q (.inr 0) (nwX m12)) ∧ (¬ (8 ≤ (mI m12 259 (mO m4 (mR m4 448 (mR m4 577 (mR m4 643 a0))) (Int.toNat a1)))) → zC xs xl d 37 [zR (mO m4 (mR m4 448 (mR m4 577 (mR m4 643 a0))) (Int.toNat a1)), zI a2] m12 (fun r m15 => ∃ v16 : Int, r = .inl (some (zI v16)) ∧ ((v16 = 0 → (mC m15 (mO m4 (mR m4 448 (mR m4 577 (mR m4 643 a0))) (Int.toNat a1)) = 5) ∧ zC xs xl d 38 [zR (mO m4 (mR m4 448 (mR m4 577 (mR m4 643 a0))) (Int.toNat a1)), zI a2] m15 (fun r m17 => r = .inl none ∧ (mC m17 (mO m4 (mR m4 448 (mR m4 577 (mR m4 643 a0))) (Int.toNat a1)) = 5) ∧ Q (.inl (some (zI (mI m17 259 (mO m4 (mR m4 448 (mR m4 577 (mR m4 643 a0))) (Int.toNat a1)))))) m17)) ∧ (¬ (v16 = 0) → Q (.inr 0) (nwX m15))))))) ∧ (¬ (v13 ≠ 0) → Q (.inr 1) (nwX m12))))) ∧ (¬ (v5 ≠ 0) → Q (.inr 2) (nwX m4))))) : zC xs xl (d + 1) 109 [zR a0, zI a1, zI a2] m Q := by
  refine zk_109 ?_
  refine (zq_iload_n dX10_addKnot_0 rfl).mpr ?_
  refine (zq_aload_n dX10_addKnot_1 rfl).mpr ?_
  obtain ⟨g1, h⟩ := h
  refine (zq_getR2 (f := 643) (v := (mR m 643 a0)) dX10_addKnot_2 fl_10_34 (by decide) rfl rfl (by first | rfl | simp only [zm_Is, zm_Rs, zm_As, zm_Os, zm_In0, zm_Rn0])).mpr ⟨g1, ?_⟩
  obtain ⟨g2, h⟩ := h
  refine (zq_getR2 (f := 577) (v := (mR m 577 (mR m 643 a0))) dX10_addKnot_5 fl_10_90 (by decide) rfl rfl (by first | rfl | simp only [zm_Is, zm_Rs, zm_As, zm_Os, zm_In0, zm_Rn0])).mpr ⟨g2, ?_⟩
  obtain ⟨g3, h⟩ := h
  refine (zq_getI2 (f := 449) (v := (mI m 449 (mR m 577 (mR m 643 a0)))) dX10_addKnot_8 fl_10_94 (by decide) rfl rfl (by first | rfl | simp only [zm_Is, zm_Rs, zm_As, zm_Os, zm_In0, zm_Rn0])).mpr ⟨g3, ?_⟩
  refine zq_staticI (n := 2) dX10_addKnot_11 mr_10_62 zn_127 rfl rfl (Nat.le_of_ble_eq_true rfl) (Nat.le_of_ble_eq_true rfl) ?_
  refine h.mono (fun r m4 h => ?_)
  obtain ⟨v5, rfl, h⟩ := h
  refine ⟨_, rfl, ?_⟩
  refine (zq_if_ne (t := 27) dX10_addKnot_14 rfl).mpr ⟨fun c => ?_, fun c => ?_⟩
  · replace h := h.1 c
    refine (zq_aload_n dX10_addKnot_27 rfl).mpr ?_
    obtain ⟨g6, h⟩ := h
    refine (zq_getR2 (f := 643) (v := (mR m4 643 a0)) dX10_addKnot_28 fl_10_34 (by decide) rfl rfl (by first | rfl | simp only [zm_Is, zm_Rs, zm_As, zm_Os, zm_In0, zm_Rn0])).mpr ⟨g6, ?_⟩
    obtain ⟨g7, h⟩ := h
    refine (zq_getR2 (f := 577) (v := (mR m4 577 (mR m4 643 a0))) dX10_addKnot_31 fl_10_90 (by decide) rfl rfl (by first | rfl | simp only [zm_Is, zm_Rs, zm_As, zm_Os, zm_In0, zm_Rn0])).mpr ⟨g7, ?_⟩
    obtain ⟨g8, h⟩ := h
    refine (zq_getR2 (f := 448) (v := (mR m4 448 (mR m4 577 (mR m4 643 a0)))) dX10_addKnot_34 fl_10_107 (by decide) rfl rfl (by first | rfl | simp only [zm_Is, zm_Rs, zm_As, zm_Os, zm_In0, zm_Rn0])).mpr ⟨g8, ?_⟩
    refine (zq_iload_n dX10_addKnot_37 rfl).mpr ?_
    obtain ⟨g9, h⟩ := h
    obtain ⟨g10, h⟩ := h
    refine (zq_aald2 (v := (mO m4 (mR m4 448 (mR m4 577 (mR m4 643 a0))) (Int.toNat a1))) dX10_addKnot_38 (by first | rfl | simp only [zm_Is, zm_Rs, zm_As, zm_Os, zm_In0, zm_Rn0])).mpr ⟨⟨g9.1, g9.2, g10⟩, ?_⟩
    refine (zq_astore_n (l := [zR a0, zI a1, zI a2, zR (mO m4 (mR m4 448 (mR m4 577 (mR m4 643 a0))) (Int.toNat a1))]) dX10_addKnot_39 (Nat.le_of_ble_eq_true rfl) rfl).mpr ?_
    refine (zq_iload_n dX10_addKnot_40 rfl).mpr ?_
    refine (zq_aload_n dX10_addKnot_41 rfl).mpr ?_
    obtain ⟨g11, h⟩ := h
    refine (zq_getI2 (f := 257) (v := (mI m4 257 (mO m4 (mR m4 448 (mR m4 577 (mR m4 643 a0))) (Int.toNat a1)))) dX10_addKnot_42 fl_10_111 (by decide) rfl rfl (by first | rfl | simp only [zm_Is, zm_Rs, zm_As, zm_Os, zm_In0, zm_Rn0])).mpr ⟨g11, ?_⟩
    refine zq_staticI (n := 2) dX10_addKnot_45 mr_10_62 zn_127 rfl rfl (Nat.le_of_ble_eq_true rfl) (Nat.le_of_ble_eq_true rfl) ?_
    refine h.mono (fun r m12 h => ?_)
    obtain ⟨v13, rfl, h⟩ := h
    refine ⟨_, rfl, ?_⟩
    refine (zq_if_ne (t := 61) dX10_addKnot_48 rfl).mpr ⟨fun c => ?_, fun c => ?_⟩
    · replace h := h.1 c
      refine (zq_aload_n dX10_addKnot_61 rfl).mpr ?_
      obtain ⟨g14, h⟩ := h
      refine (zq_getI2 (f := 259) (v := (mI m12 259 (mO m4 (mR m4 448 (mR m4 577 (mR m4 643 a0))) (Int.toNat a1)))) dX10_addKnot_62 fl_10_116 (by decide) rfl rfl (by first | rfl | simp only [zm_Is, zm_Rs, zm_As, zm_Os, zm_In0, zm_Rn0])).mpr ⟨g14, ?_⟩
      refine (zq_bipush (v := 8) dX10_addKnot_65 (by decide)).mpr ?_
      refine (zq_icmp_ge (t := 78) dX10_addKnot_67 rfl).mpr ⟨fun c => ?_, fun c => ?_⟩
      · replace h := h.1 c
        exact (zq_throw dX10_addKnot_78 nx_10_46 xr_10_46 dX10_addKnot_81 dX10_addKnot_82 dX10_addKnot_84 dX10_addKnot_87 (by decide)).mpr h
      · replace h := h.2 c
        refine (zq_aload_n dX10_addKnot_70 rfl).mpr ?_
        refine (zq_iload_n dX10_addKnot_71 rfl).mpr ?_
        refine zq_virtualI (n := 1) dX10_addKnot_72 mr_10_119 zn_37 rfl rfl rfl (zrcv_R zo_37 (by decide) g14) (Nat.le_of_ble_eq_true rfl) ?_
        refine h.mono (fun r m15 h => ?_)
        obtain ⟨v16, rfl, h⟩ := h
        refine ⟨_, rfl, ?_⟩
        refine (zq_if_eq (t := 88) dX10_addKnot_75 rfl).mpr ⟨fun c => ?_, fun c => ?_⟩
        · replace h := h.1 c
          refine (zq_aload_n dX10_addKnot_88 rfl).mpr ?_
          refine (zq_iload_n dX10_addKnot_89 rfl).mpr ?_
          obtain ⟨g19, h⟩ := h
          refine zq_virtualV (n := 1) dX10_addKnot_90 mr_10_125 zn_38 rfl rfl rfl (zrcv_R zo_38 (by decide) g19) (Nat.le_of_ble_eq_true rfl) ?_
          refine h.mono (fun r m17 h => ?_)
          obtain ⟨rfl, h⟩ := h
          refine ⟨rfl, ?_⟩
          refine (zq_aload_n dX10_addKnot_93 rfl).mpr ?_
          obtain ⟨g20, h⟩ := h
          refine (zq_getI2 (f := 259) (v := (mI m17 259 (mO m4 (mR m4 448 (mR m4 577 (mR m4 643 a0))) (Int.toNat a1)))) dX10_addKnot_94 fl_10_116 (by decide) rfl rfl (by first | rfl | simp only [zm_Is, zm_Rs, zm_As, zm_Os, zm_In0, zm_Rn0])).mpr ⟨g20, ?_⟩
          exact (zq_iret dX10_addKnot_97 rfl).mpr ⟨trivial, h⟩
        · replace h := h.2 c
          exact (zq_throw dX10_addKnot_78 nx_10_46 xr_10_46 dX10_addKnot_81 dX10_addKnot_82 dX10_addKnot_84 dX10_addKnot_87 (by decide)).mpr h
    · replace h := h.2 c
      exact (zq_throw dX10_addKnot_51 nx_10_57 xr_10_57 dX10_addKnot_54 dX10_addKnot_55 dX10_addKnot_57 dX10_addKnot_60 (by decide)).mpr h
  · replace h := h.2 c
    exact (zq_throw dX10_addKnot_17 nx_10_66 xr_10_66 dX10_addKnot_20 dX10_addKnot_21 dX10_addKnot_23 dX10_addKnot_26 (by decide)).mpr h
theorem bX10_plank_0 {a0 : Nat} {a1 : Int} {a2 : Int} (h : (mC m a0 = 11) ∧ (mC m (mR m 643 a0) = 10) ∧ (mC m (mR m 577 (mR m 643 a0)) = 8) ∧ zC xs xl d 127 [zI a1, zI (mI m 449 (mR m 577 (mR m 643 a0)))] m (fun r m4 => ∃ v5 : Int, r = .inl (some (zI v5)) ∧ ((v5 = 0 → Q (.inr 2) (nwX m4)) ∧ (¬ (v5 = 0) → zC xs xl d 127 [zI a2, zI 5] m4 (fun r m6 => ∃ v7 : Int, r = .inl (some (zI v7)) ∧ ((v7 ≠ 0 → (mC m6 a0 = 11) ∧ (mC m6 (mR m6 643 a0) = 10) ∧ (mC m6 (mR m6 577 (mR m6 643 a0)) = 8) ∧ (29 ≤ mC m6 (mR m6 448 (mR m6 577 (mR m6 643 a0))) ∧ mC m6 (mR m6 448 (mR m6 577 (mR m6 643 a0))) < 43) ∧ (0 ≤ a1 ∧ a1 < mN m6 (mR m6 448 (mR m6 577 (mR m6 643 a0)))) ∧ (mC m6 (mO m6 (mR m6 448 (mR m6 577 (mR m6 643 a0))) (Int.toNat a1)) = 5) ∧ zC xs xl d 43 [zR (mO m6 (mR m6 448 (mR m6 577 (mR m6 643 a0))) (Int.toNat a1)), zI a2] m6 (fun r m13 => ∃ v14 : Int, r = .inl (some (zI v14)) ∧ Q (.inl (some (zI v14))) m13)) ∧ (¬ (v7 ≠ 0) → Q (.inr 2) (nwX m6)))))))) : zC xs xl (d + 1) 110 [zR a0, zI a1, zI a2] m Q := by
  refine zk_110 ?_
  refine (zq_iload_n dX10_plank_0 rfl).mpr ?_
  refine (zq_aload_n dX10_plank_1 rfl).mpr ?_
  obtain ⟨g1, h⟩ := h
  refine (zq_getR2 (f := 643) (v := (mR m 643 a0)) dX10_plank_2 fl_10_34 (by decide) rfl rfl (by first | rfl | simp only [zm_Is, zm_Rs, zm_As, zm_Os, zm_In0, zm_Rn0])).mpr ⟨g1, ?_⟩
  obtain ⟨g2, h⟩ := h
  refine (zq_getR2 (f := 577) (v := (mR m 577 (mR m 643 a0))) dX10_plank_5 fl_10_90 (by decide) rfl rfl (by first | rfl | simp only [zm_Is, zm_Rs, zm_As, zm_Os, zm_In0, zm_Rn0])).mpr ⟨g2, ?_⟩
  obtain ⟨g3, h⟩ := h
  refine (zq_getI2 (f := 449) (v := (mI m 449 (mR m 577 (mR m 643 a0)))) dX10_plank_8 fl_10_94 (by decide) rfl rfl (by first | rfl | simp only [zm_Is, zm_Rs, zm_As, zm_Os, zm_In0, zm_Rn0])).mpr ⟨g3, ?_⟩
  refine zq_staticI (n := 2) dX10_plank_11 mr_10_62 zn_127 rfl rfl (Nat.le_of_ble_eq_true rfl) (Nat.le_of_ble_eq_true rfl) ?_
  refine h.mono (fun r m4 h => ?_)
  obtain ⟨v5, rfl, h⟩ := h
  refine ⟨_, rfl, ?_⟩
  refine (zq_if_eq (t := 25) dX10_plank_14 rfl).mpr ⟨fun c => ?_, fun c => ?_⟩
  · replace h := h.1 c
    exact (zq_throw dX10_plank_25 nx_10_66 xr_10_66 dX10_plank_28 dX10_plank_29 dX10_plank_31 dX10_plank_34 (by decide)).mpr h
  · replace h := h.2 c
    refine (zq_iload_n dX10_plank_17 rfl).mpr ?_
    refine (zq_iconst (v := 5) dX10_plank_18 (by decide)).mpr ?_
    refine zq_staticI (n := 2) dX10_plank_19 mr_10_62 zn_127 rfl rfl (Nat.le_of_ble_eq_true rfl) (Nat.le_of_ble_eq_true rfl) ?_
    refine h.mono (fun r m6 h => ?_)
    obtain ⟨v7, rfl, h⟩ := h
    refine ⟨_, rfl, ?_⟩
    refine (zq_if_ne (t := 35) dX10_plank_22 rfl).mpr ⟨fun c => ?_, fun c => ?_⟩
    · replace h := h.1 c
      refine (zq_aload_n dX10_plank_35 rfl).mpr ?_
      obtain ⟨g8, h⟩ := h
      refine (zq_getR2 (f := 643) (v := (mR m6 643 a0)) dX10_plank_36 fl_10_34 (by decide) rfl rfl (by first | rfl | simp only [zm_Is, zm_Rs, zm_As, zm_Os, zm_In0, zm_Rn0])).mpr ⟨g8, ?_⟩
      obtain ⟨g9, h⟩ := h
      refine (zq_getR2 (f := 577) (v := (mR m6 577 (mR m6 643 a0))) dX10_plank_39 fl_10_90 (by decide) rfl rfl (by first | rfl | simp only [zm_Is, zm_Rs, zm_As, zm_Os, zm_In0, zm_Rn0])).mpr ⟨g9, ?_⟩
      obtain ⟨g10, h⟩ := h
      refine (zq_getR2 (f := 448) (v := (mR m6 448 (mR m6 577 (mR m6 643 a0)))) dX10_plank_42 fl_10_107 (by decide) rfl rfl (by first | rfl | simp only [zm_Is, zm_Rs, zm_As, zm_Os, zm_In0, zm_Rn0])).mpr ⟨g10, ?_⟩
      refine (zq_iload_n dX10_plank_45 rfl).mpr ?_
      obtain ⟨g11, h⟩ := h
      obtain ⟨g12, h⟩ := h
      refine (zq_aald2 (v := (mO m6 (mR m6 448 (mR m6 577 (mR m6 643 a0))) (Int.toNat a1))) dX10_plank_46 (by first | rfl | simp only [zm_Is, zm_Rs, zm_As, zm_Os, zm_In0, zm_Rn0])).mpr ⟨⟨g11.1, g11.2, g12⟩, ?_⟩
      refine (zq_iload_n dX10_plank_47 rfl).mpr ?_
      obtain ⟨g15, h⟩ := h
      refine zq_virtualI (n := 1) dX10_plank_48 mr_10_130 zn_43 rfl rfl rfl (zrcv_R zo_43 (by decide) g15) (Nat.le_of_ble_eq_true rfl) ?_
      refine h.mono (fun r m13 h => ?_)
      obtain ⟨v14, rfl, h⟩ := h
      refine ⟨_, rfl, ?_⟩
      exact (zq_iret dX10_plank_51 rfl).mpr ⟨trivial, h⟩
    · replace h := h.2 c
      exact (zq_throw dX10_plank_25 nx_10_66 xr_10_66 dX10_plank_28 dX10_plank_29 dX10_plank_31 dX10_plank_34 (by decide)).mpr h
theorem bX10_find_0 {a0 : Nat} {a1 : Int} {a2 : Int} {a3 : Int} (h : zC xs xl d 127 [zI a1, zI 4] m (fun r m1 => ∃ v2 : Int, r = .inl (some (zI v2)) ∧ ((v2 = 0 → Q (.inr 1) (nwX m1)) ∧ (¬ (v2 = 0) → ((a2 < 10 → Q (.inr 1) (nwX m1)) ∧ (¬ (a2 < 10) → ((a2 ≤ 200 → (mC m1 a0 = 11) ∧ (mC m1 (mR m1 643 a0) = 10) ∧ (mC m1 (mR m1 577 (mR m1 643 a0)) = 8) ∧ zC xs xl d 76 [zR (mR m1 577 (mR m1 643 a0)), zI a1, zI a2] m1 (fun r m5 => ∃ v6 : Int, r = .inl (some (zI v6)) ∧ ((v6 < 0 → Q (.inl (some (zI v6))) m5) ∧ (¬ (v6 < 0) → ((a3 ≠ 0 → (mC m5 a0 = 11) ∧ (mC m5 (mR m5 643 a0) = 10) ∧ (mC m5 (mR m5 577 (mR m5 643 a0)) = 8) ∧ (29 ≤ mC m5 (mR m5 448 (mR m5 577 (mR m5 643 a0))) ∧ mC m5 (mR m5 448 (mR m5 577 (mR m5 643 a0))) < 43) ∧ (0 ≤ v6 ∧ v6 < mN m5 (mR m5 448 (mR m5 577 (mR m5 643 a0)))) ∧ (mC m5 (mO m5 (mR m5 448 (mR m5 577 (mR m5 643 a0))) (Int.toNat v6)) = 5) ∧ zC xs xl d 39 [zR (mO m5 (mR m5 448 (mR m5 577 (mR m5 643 a0))) (Int.toNat v6)), zI a2] m5 (fun r m13 => ∃ v14 : Int, r = .inl (some (zI v14)) ∧ Q (.inl (some (zI v14))) m13)) ∧ (¬ (a3 ≠ 0) → Q (.inl (some (zI v6))) m5)))))) ∧ (¬ (a2 ≤ 200) → Q (.inr 1) (nwX m1))))))))) : zC xs xl (d + 1) 111 [zR a0, zI a1, zI a2, zI a3] m Q := by
  refine zk_111 ?_
  refine (zq_iload_n dX10_find_0 rfl).mpr ?_
  refine (zq_iconst (v := 4) dX10_find_1 (by decide)).mpr ?_
  refine zq_staticI (n := 2) dX10_find_2 mr_10_62 zn_127 rfl rfl (Nat.le_of_ble_eq_true rfl) (Nat.le_of_ble_eq_true rfl) ?_
  refine h.mono (fun r m1 h => ?_)
  obtain ⟨v2, rfl, h⟩ := h
  refine ⟨_, rfl, ?_⟩
  refine (zq_if_eq (t := 21) dX10_find_5 rfl).mpr ⟨fun c => ?_, fun c => ?_⟩
  · replace h := h.1 c
    exact (zq_throw dX10_find_21 nx_10_57 xr_10_57 dX10_find_24 dX10_find_25 dX10_find_27 dX10_find_30 (by decide)).mpr h
  · replace h := h.2 c
    refine (zq_iload_n dX10_find_8 rfl).mpr ?_
    refine (zq_bipush (v := 10) dX10_find_9 (by decide)).mpr ?_
    refine (zq_icmp_lt (t := 21) dX10_find_11 rfl).mpr ⟨fun c => ?_, fun c => ?_⟩
    · replace h := h.1 c
      exact (zq_throw dX10_find_21 nx_10_57 xr_10_57 dX10_find_24 dX10_find_25 dX10_find_27 dX10_find_30 (by decide)).mpr h
    · replace h := h.2 c
      refine (zq_iload_n dX10_find_14 rfl).mpr ?_
      refine (zq_sipush (v := 200) dX10_find_15 (by decide)).mpr ?_
      refine (zq_icmp_le (t := 31) dX10_find_18 rfl).mpr ⟨fun c => ?_, fun c => ?_⟩
      · replace h := h.1 c
        refine (zq_aload_n dX10_find_31 rfl).mpr ?_
        obtain ⟨g3, h⟩ := h
        refine (zq_getR2 (f := 643) (v := (mR m1 643 a0)) dX10_find_32 fl_10_34 (by decide) rfl rfl (by first | rfl | simp only [zm_Is, zm_Rs, zm_As, zm_Os, zm_In0, zm_Rn0])).mpr ⟨g3, ?_⟩
        obtain ⟨g4, h⟩ := h
        refine (zq_getR2 (f := 577) (v := (mR m1 577 (mR m1 643 a0))) dX10_find_35 fl_10_90 (by decide) rfl rfl (by first | rfl | simp only [zm_Is, zm_Rs, zm_As, zm_Os, zm_In0, zm_Rn0])).mpr ⟨g4, ?_⟩
        refine (zq_iload_n dX10_find_38 rfl).mpr ?_
        refine (zq_iload_n dX10_find_39 rfl).mpr ?_
        obtain ⟨g7, h⟩ := h
        refine zq_virtualI (n := 2) dX10_find_40 mr_10_133 zn_76 rfl rfl rfl (zrcv_R zo_76 (by decide) g7) (Nat.le_of_ble_eq_true rfl) ?_
        refine h.mono (fun r m5 h => ?_)
        obtain ⟨v6, rfl, h⟩ := h
        refine ⟨_, rfl, ?_⟩
        refine (zq_istore (l := [zR a0, zI a1, zI a2, zI a3, zI v6]) dX10_find_43 (Nat.le_of_ble_eq_true rfl) rfl).mpr ?_
        refine (zq_iload dX10_find_45 rfl).mpr ?_
        refine (zq_if_lt (t := 54) dX10_find_47 rfl).mpr ⟨fun c => ?_, fun c => ?_⟩
        · replace h := h.1 c
          refine (zq_iload dX10_find_54 rfl).mpr ?_
          exact (zq_iret dX10_find_56 rfl).mpr ⟨trivial, h⟩
        · replace h := h.2 c
          refine (zq_iload_n dX10_find_50 rfl).mpr ?_
          refine (zq_if_ne (t := 57) dX10_find_51 rfl).mpr ⟨fun c => ?_, fun c => ?_⟩
          · replace h := h.1 c
            refine (zq_aload_n dX10_find_57 rfl).mpr ?_
            obtain ⟨g8, h⟩ := h
            refine (zq_getR2 (f := 643) (v := (mR m5 643 a0)) dX10_find_58 fl_10_34 (by decide) rfl rfl (by first | rfl | simp only [zm_Is, zm_Rs, zm_As, zm_Os, zm_In0, zm_Rn0])).mpr ⟨g8, ?_⟩
            obtain ⟨g9, h⟩ := h
            refine (zq_getR2 (f := 577) (v := (mR m5 577 (mR m5 643 a0))) dX10_find_61 fl_10_90 (by decide) rfl rfl (by first | rfl | simp only [zm_Is, zm_Rs, zm_As, zm_Os, zm_In0, zm_Rn0])).mpr ⟨g9, ?_⟩
            obtain ⟨g10, h⟩ := h
            refine (zq_getR2 (f := 448) (v := (mR m5 448 (mR m5 577 (mR m5 643 a0)))) dX10_find_64 fl_10_107 (by decide) rfl rfl (by first | rfl | simp only [zm_Is, zm_Rs, zm_As, zm_Os, zm_In0, zm_Rn0])).mpr ⟨g10, ?_⟩
            refine (zq_iload dX10_find_67 rfl).mpr ?_
            obtain ⟨g11, h⟩ := h
            obtain ⟨g12, h⟩ := h
            refine (zq_aald2 (v := (mO m5 (mR m5 448 (mR m5 577 (mR m5 643 a0))) (Int.toNat v6))) dX10_find_69 (by first | rfl | simp only [zm_Is, zm_Rs, zm_As, zm_Os, zm_In0, zm_Rn0])).mpr ⟨⟨g11.1, g11.2, g12⟩, ?_⟩
            refine (zq_iload_n dX10_find_70 rfl).mpr ?_
            obtain ⟨g15, h⟩ := h
            refine zq_virtualI (n := 1) dX10_find_71 mr_10_137 zn_39 rfl rfl rfl (zrcv_R zo_39 (by decide) g15) (Nat.le_of_ble_eq_true rfl) ?_
            refine h.mono (fun r m13 h => ?_)
            obtain ⟨v14, rfl, h⟩ := h
            refine ⟨_, rfl, ?_⟩
            exact (zq_iret dX10_find_74 rfl).mpr ⟨trivial, h⟩
          · replace h := h.2 c
            refine (zq_iload dX10_find_54 rfl).mpr ?_
            exact (zq_iret dX10_find_56 rfl).mpr ⟨trivial, h⟩
      · replace h := h.2 c
        exact (zq_throw dX10_find_21 nx_10_57 xr_10_57 dX10_find_24 dX10_find_25 dX10_find_27 dX10_find_30 (by decide)).mpr h
theorem bX10_addFrame_0 {a0 : Nat} {a1 : Int} (h : zC xs xl d 127 [zI a1, zI 5] m (fun r m1 => ∃ v2 : Int, r = .inl (some (zI v2)) ∧ ((v2 ≠ 0 → (mC m1 a0 = 11) ∧ (mC m1 (mR m1 643 a0) = 10) ∧ (mC m1 (mR m1 578 (mR m1 643 a0)) = 20) ∧ (0 ≤ a1 ∧ a1 < mN m1 (mR m1 578 (mR m1 643 a0))) ∧ (((mA m1 (mR m1 578 (mR m1 643 a0)) (Int.toNat a1)) < 4 → (mC m1 (mR m1 579 (mR m1 643 a0)) = 20) ∧ (0 ≤ a1 ∧ a1 < mN m1 (mR m1 579 (mR m1 643 a0))) ∧ Q (.inl (some (zI (mA (sA (sA m1 (mR m1 578 (mR m1 643 a0)) (Int.toNat a1) (wr ((mA m1 (mR m1 578 (mR m1 643 a0)) (Int.toNat a1)) + 1))) (mR m1 579 (mR m1 643 a0)) (Int.toNat a1) (wr ((mA (sA m1 (mR m1 578 (mR m1 643 a0)) (Int.toNat a1) (wr ((mA m1 (mR m1 578 (mR m1 643 a0)) (Int.toNat a1)) + 1))) (mR m1 579 (mR m1 643 a0)) (Int.toNat a1)) + 1))) (mR m1 578 (mR m1 643 a0)) (Int.toNat a1))))) (sA (sA m1 (mR m1 578 (mR m1 643 a0)) (Int.toNat a1) (wr ((mA m1 (mR m1 578 (mR m1 643 a0)) (Int.toNat a1)) + 1))) (mR m1 579 (mR m1 643 a0)) (Int.toNat a1) (wr ((mA (sA m1 (mR m1 578 (mR m1 643 a0)) (Int.toNat a1) (wr ((mA m1 (mR m1 578 (mR m1 643 a0)) (Int.toNat a1)) + 1))) (mR m1 579 (mR m1 643 a0)) (Int.toNat a1)) + 1)))) ∧ (¬ ((mA m1 (mR m1 578 (mR m1 643 a0)) (Int.toNat a1)) < 4) → Q (.inr 0) (nwX m1)))) ∧ (¬ (v2 ≠ 0) → Q (.inr 1) (nwX m1))))) : zC xs xl (d + 1) 112 [zR a0, zI a1] m Q := by
  refine zk_112 ?_
  refine (zq_iload_n dX10_addFrame_0 rfl).mpr ?_
  refine (zq_iconst (v := 5) dX10_addFrame_1 (by decide)).mpr ?_
  refine zq_staticI (n := 2) dX10_addFrame_2 mr_10_62 zn_127 rfl rfl (Nat.le_of_ble_eq_true rfl) (Nat.le_of_ble_eq_true rfl) ?_
  refine h.mono (fun r m1 h => ?_)
  obtain ⟨v2, rfl, h⟩ := h
  refine ⟨_, rfl, ?_⟩
  refine (zq_if_ne (t := 18) dX10_addFrame_5 rfl).mpr ⟨fun c => ?_, fun c => ?_⟩
  · replace h := h.1 c
    refine (zq_aload_n dX10_addFrame_18 rfl).mpr ?_
    obtain ⟨g3, h⟩ := h
    refine (zq_getR2 (f := 643) (v := (mR m1 643 a0)) dX10_addFrame_19 fl_10_34 (by decide) rfl rfl (by first | rfl | simp only [zm_Is, zm_Rs, zm_As, zm_Os, zm_In0, zm_Rn0])).mpr ⟨g3, ?_⟩
    obtain ⟨g4, h⟩ := h
    refine (zq_getR2 (f := 578) (v := (mR m1 578 (mR m1 643 a0))) dX10_addFrame_22 fl_10_142 (by decide) rfl rfl (by first | rfl | simp only [zm_Is, zm_Rs, zm_As, zm_Os, zm_In0, zm_Rn0])).mpr ⟨g4, ?_⟩
    refine (zq_iload_n dX10_addFrame_25 rfl).mpr ?_
    obtain ⟨g5, h⟩ := h
    obtain ⟨g6, h⟩ := h
    refine (zq_iald2 (v := (mA m1 (mR m1 578 (mR m1 643 a0)) (Int.toNat a1))) dX10_addFrame_26 (by first | rfl | simp only [zm_Is, zm_Rs, zm_As, zm_Os, zm_In0, zm_Rn0])).mpr ⟨⟨g5, g6⟩, ?_⟩
    refine (zq_iconst (v := 4) dX10_addFrame_27 (by decide)).mpr ?_
    refine (zq_icmp_lt (t := 41) dX10_addFrame_28 rfl).mpr ⟨fun c => ?_, fun c => ?_⟩
    · replace h := h.1 c
      refine (zq_aload_n dX10_addFrame_41 rfl).mpr ?_
      refine (zq_getR2 (f := 643) (v := (mR m1 643 a0)) dX10_addFrame_42 fl_10_34 (by decide) rfl rfl (by first | rfl | simp only [zm_Is, zm_Rs, zm_As, zm_Os, zm_In0, zm_Rn0])).mpr ⟨g3, ?_⟩
      refine (zq_getR2 (f := 578) (v := (mR m1 578 (mR m1 643 a0))) dX10_addFrame_45 fl_10_142 (by decide) rfl rfl (by first | rfl | simp only [zm_Is, zm_Rs, zm_As, zm_Os, zm_In0, zm_Rn0])).mpr ⟨g4, ?_⟩
      refine (zq_iload_n dX10_addFrame_48 rfl).mpr ?_
      refine (zq_dup2IR dX10_addFrame_49).mpr ?_
      refine (zq_iald2 (v := (mA m1 (mR m1 578 (mR m1 643 a0)) (Int.toNat a1))) dX10_addFrame_50 (by first | rfl | simp only [zm_Is, zm_Rs, zm_As, zm_Os, zm_In0, zm_Rn0])).mpr ⟨⟨g5, g6⟩, ?_⟩
      refine (zq_iconst (v := 1) dX10_addFrame_51 (by decide)).mpr ?_
      refine (zq_iadd dX10_addFrame_52).mpr ?_
      refine (zq_iast dX10_addFrame_53).mpr ⟨⟨g5, g6⟩, ?_⟩
      refine (zq_aload_n dX10_addFrame_54 rfl).mpr ?_
      refine (zq_getR2 (f := 643) (v := (mR m1 643 a0)) dX10_addFrame_55 fl_10_34 (by decide) rfl rfl (by first | rfl | simp only [zm_Is, zm_Rs, zm_As, zm_Os, zm_In0, zm_Rn0])).mpr ⟨g3, ?_⟩
      refine (zq_getR2 (f := 579) (v := (mR m1 579 (mR m1 643 a0))) dX10_addFrame_58 fl_10_148 (by decide) rfl rfl (by first | rfl | simp only [zm_Is, zm_Rs, zm_As, zm_Os, zm_In0, zm_Rn0])).mpr ⟨g4, ?_⟩
      refine (zq_iload_n dX10_addFrame_61 rfl).mpr ?_
      refine (zq_dup2IR dX10_addFrame_62).mpr ?_
      obtain ⟨g7, h⟩ := h
      obtain ⟨g8, h⟩ := h
      refine (zq_iald2 (v := (mA (sA m1 (mR m1 578 (mR m1 643 a0)) (Int.toNat a1) (wr ((mA m1 (mR m1 578 (mR m1 643 a0)) (Int.toNat a1)) + 1))) (mR m1 579 (mR m1 643 a0)) (Int.toNat a1))) dX10_addFrame_63 (by first | rfl | simp only [zm_Is, zm_Rs, zm_As, zm_Os, zm_In0, zm_Rn0])).mpr ⟨⟨g7, g8⟩, ?_⟩
      refine (zq_iconst (v := 1) dX10_addFrame_64 (by decide)).mpr ?_
      refine (zq_iadd dX10_addFrame_65).mpr ?_
      refine (zq_iast dX10_addFrame_66).mpr ⟨⟨g7, g8⟩, ?_⟩
      refine (zq_aload_n dX10_addFrame_67 rfl).mpr ?_
      refine (zq_getR2 (f := 643) (v := (mR m1 643 a0)) dX10_addFrame_68 fl_10_34 (by decide) rfl rfl (by first | rfl | simp only [zm_Is, zm_Rs, zm_As, zm_Os, zm_In0, zm_Rn0])).mpr ⟨g3, ?_⟩
      refine (zq_getR2 (f := 578) (v := (mR m1 578 (mR m1 643 a0))) dX10_addFrame_71 fl_10_142 (by decide) rfl rfl (by first | rfl | simp only [zm_Is, zm_Rs, zm_As, zm_Os, zm_In0, zm_Rn0])).mpr ⟨g4, ?_⟩
      refine (zq_iload_n dX10_addFrame_74 rfl).mpr ?_
      refine (zq_iald2 (v := (mA (sA (sA m1 (mR m1 578 (mR m1 643 a0)) (Int.toNat a1) (wr ((mA m1 (mR m1 578 (mR m1 643 a0)) (Int.toNat a1)) + 1))) (mR m1 579 (mR m1 643 a0)) (Int.toNat a1) (wr ((mA (sA m1 (mR m1 578 (mR m1 643 a0)) (Int.toNat a1) (wr ((mA m1 (mR m1 578 (mR m1 643 a0)) (Int.toNat a1)) + 1))) (mR m1 579 (mR m1 643 a0)) (Int.toNat a1)) + 1))) (mR m1 578 (mR m1 643 a0)) (Int.toNat a1))) dX10_addFrame_75 (by first | rfl | simp only [zm_Is, zm_Rs, zm_As, zm_Os, zm_In0, zm_Rn0])).mpr ⟨⟨g5, g6⟩, ?_⟩
      exact (zq_iret dX10_addFrame_76 rfl).mpr ⟨trivial, h⟩
    · replace h := h.2 c
      exact (zq_throw dX10_addFrame_31 nx_10_46 xr_10_46 dX10_addFrame_34 dX10_addFrame_35 dX10_addFrame_37 dX10_addFrame_40 (by decide)).mpr h
  · replace h := h.2 c
    exact (zq_throw dX10_addFrame_8 nx_10_57 xr_10_57 dX10_addFrame_11 dX10_addFrame_12 dX10_addFrame_14 dX10_addFrame_17 (by decide)).mpr h
theorem bX10_frames_0 {a0 : Nat} {a1 : Int} {a2 : Int} (h : zC xs xl d 127 [zI a1, zI 5] m (fun r m1 => ∃ v2 : Int, r = .inl (some (zI v2)) ∧ ((v2 = 0 → Q (.inr 2) (nwX m1)) ∧ (¬ (v2 = 0) → zC xs xl d 127 [zI a2, zI 3] m1 (fun r m3 => ∃ v4 : Int, r = .inl (some (zI v4)) ∧ ((v4 ≠ 0 → (mC m3 a0 = 11) ∧ (mC m3 (mR m3 643 a0) = 10) ∧ zC xs xl d 99 [zR (mR m3 643 a0), zI a1, zI a2] m3 (fun r m6 => ∃ v7 : Int, r = .inl (some (zI v7)) ∧ Q (.inl (some (zI v7))) m6)) ∧ (¬ (v4 ≠ 0) → Q (.inr 2) (nwX m3)))))))) : zC xs xl (d + 1) 113 [zR a0, zI a1, zI a2] m Q := by
  refine zk_113 ?_
  refine (zq_iload_n dX10_frames_0 rfl).mpr ?_
  refine (zq_iconst (v := 5) dX10_frames_1 (by decide)).mpr ?_
  refine zq_staticI (n := 2) dX10_frames_2 mr_10_62 zn_127 rfl rfl (Nat.le_of_ble_eq_true rfl) (Nat.le_of_ble_eq_true rfl) ?_
  refine h.mono (fun r m1 h => ?_)
  obtain ⟨v2, rfl, h⟩ := h
  refine ⟨_, rfl, ?_⟩
  refine (zq_if_eq (t := 16) dX10_frames_5 rfl).mpr ⟨fun c => ?_, fun c => ?_⟩
  · replace h := h.1 c
    exact (zq_throw dX10_frames_16 nx_10_66 xr_10_66 dX10_frames_19 dX10_frames_20 dX10_frames_22 dX10_frames_25 (by decide)).mpr h
  · replace h := h.2 c
    refine (zq_iload_n dX10_frames_8 rfl).mpr ?_
    refine (zq_iconst (v := 3) dX10_frames_9 (by decide)).mpr ?_
    refine zq_staticI (n := 2) dX10_frames_10 mr_10_62 zn_127 rfl rfl (Nat.le_of_ble_eq_true rfl) (Nat.le_of_ble_eq_true rfl) ?_
    refine h.mono (fun r m3 h => ?_)
    obtain ⟨v4, rfl, h⟩ := h
    refine ⟨_, rfl, ?_⟩
    refine (zq_if_ne (t := 26) dX10_frames_13 rfl).mpr ⟨fun c => ?_, fun c => ?_⟩
    · replace h := h.1 c
      refine (zq_aload_n dX10_frames_26 rfl).mpr ?_
      obtain ⟨g5, h⟩ := h
      refine (zq_getR2 (f := 643) (v := (mR m3 643 a0)) dX10_frames_27 fl_10_34 (by decide) rfl rfl (by first | rfl | simp only [zm_Is, zm_Rs, zm_As, zm_Os, zm_In0, zm_Rn0])).mpr ⟨g5, ?_⟩
      refine (zq_iload_n dX10_frames_30 rfl).mpr ?_
      refine (zq_iload_n dX10_frames_31 rfl).mpr ?_
      obtain ⟨g8, h⟩ := h
      refine zq_virtualI (n := 2) dX10_frames_32 mr_10_153 zn_99 rfl rfl rfl (zrcv_R zo_99 (by decide) g8) (Nat.le_of_ble_eq_true rfl) ?_
      refine h.mono (fun r m6 h => ?_)
      obtain ⟨v7, rfl, h⟩ := h
      refine ⟨_, rfl, ?_⟩
      exact (zq_iret dX10_frames_35 rfl).mpr ⟨trivial, h⟩
    · replace h := h.2 c
      exact (zq_throw dX10_frames_16 nx_10_66 xr_10_66 dX10_frames_19 dX10_frames_20 dX10_frames_22 dX10_frames_25 (by decide)).mpr h
theorem bX10_addSlip_0 {a0 : Nat} (h : (mC m a0 = 11) ∧ (mC m (mR m 643 a0) = 10) ∧ (((mI m 581 (mR m 643 a0)) < 6 → Q (.inl (some (zI (wr ((wr ((mI m 581 (mR m 643 a0)) + 1)) - 1))))) (sI m 581 (mR m 643 a0) (wr ((mI m 581 (mR m 643 a0)) + 1)))) ∧ (¬ ((mI m 581 (mR m 643 a0)) < 6) → Q (.inr 0) (nwX m)))) : zC xs xl (d + 1) 114 [zR a0] m Q := by
  refine zk_114 ?_
  refine (zq_aload_n dX10_addSlip_0 rfl).mpr ?_
  obtain ⟨g1, h⟩ := h
  refine (zq_getR2 (f := 643) (v := (mR m 643 a0)) dX10_addSlip_1 fl_10_34 (by decide) rfl rfl (by first | rfl | simp only [zm_Is, zm_Rs, zm_As, zm_Os, zm_In0, zm_Rn0])).mpr ⟨g1, ?_⟩
  obtain ⟨g2, h⟩ := h
  refine (zq_getI2 (f := 581) (v := (mI m 581 (mR m 643 a0))) dX10_addSlip_4 fl_10_156 (by decide) rfl rfl (by first | rfl | simp only [zm_Is, zm_Rs, zm_As, zm_Os, zm_In0, zm_Rn0])).mpr ⟨g2, ?_⟩
  refine (zq_bipush (v := 6) dX10_addSlip_7 (by decide)).mpr ?_
  refine (zq_icmp_lt (t := 22) dX10_addSlip_9 rfl).mpr ⟨fun c => ?_, fun c => ?_⟩
  · replace h := h.1 c
    refine (zq_aload_n dX10_addSlip_22 rfl).mpr ?_
    refine (zq_getR2 (f := 643) (v := (mR m 643 a0)) dX10_addSlip_23 fl_10_34 (by decide) rfl rfl (by first | rfl | simp only [zm_Is, zm_Rs, zm_As, zm_Os, zm_In0, zm_Rn0])).mpr ⟨g1, ?_⟩
    refine (zq_dupR dX10_addSlip_26).mpr ?_
    refine (zq_getI2 (f := 581) (v := (mI m 581 (mR m 643 a0))) dX10_addSlip_27 fl_10_156 (by decide) rfl rfl (by first | rfl | simp only [zm_Is, zm_Rs, zm_As, zm_Os, zm_In0, zm_Rn0])).mpr ⟨g2, ?_⟩
    refine (zq_iconst (v := 1) dX10_addSlip_30 (by decide)).mpr ?_
    refine (zq_iadd dX10_addSlip_31).mpr ?_
    refine (zq_putI (f := 581) dX10_addSlip_32 fl_10_156 (by decide) rfl rfl rfl).mpr ⟨g2, ?_⟩
    refine (zq_aload_n dX10_addSlip_35 rfl).mpr ?_
    refine (zq_getR2 (f := 643) (v := (mR m 643 a0)) dX10_addSlip_36 fl_10_34 (by decide) rfl rfl (by first | rfl | simp only [zm_Is, zm_Rs, zm_As, zm_Os, zm_In0, zm_Rn0])).mpr ⟨g1, ?_⟩
    refine (zq_getI2 (f := 581) (v := (wr ((mI m 581 (mR m 643 a0)) + 1))) dX10_addSlip_39 fl_10_156 (by decide) rfl rfl (by first | rfl | simp only [zm_Is, zm_Rs, zm_As, zm_Os, zm_In0, zm_Rn0])).mpr ⟨g2, ?_⟩
    refine (zq_iconst (v := 1) dX10_addSlip_42 (by decide)).mpr ?_
    refine (zq_isub dX10_addSlip_43).mpr ?_
    exact (zq_iret dX10_addSlip_44 rfl).mpr ⟨trivial, h⟩
  · replace h := h.2 c
    exact (zq_throw dX10_addSlip_12 nx_10_46 xr_10_46 dX10_addSlip_15 dX10_addSlip_16 dX10_addSlip_18 dX10_addSlip_21 (by decide)).mpr h
theorem bX10_start_0 {a0 : Nat} {a1 : Int} {a2 : Int} {a3 : Int} (h : (mC m a0 = 11) ∧ (mC m (mR m 643 a0) = 10) ∧ zC xs xl d 127 [zI a1, zI (mI m 581 (mR m 643 a0))] m (fun r m3 => ∃ v4 : Int, r = .inl (some (zI v4)) ∧ ((v4 ≠ 0 → zC xs xl d 127 [zI a2, zI 6] m3 (fun r m5 => ∃ v6 : Int, r = .inl (some (zI v6)) ∧ ((v6 = 0 → Q (.inr 1) (nwX m5)) ∧ (¬ (v6 = 0) → ((a3 < 0 → Q (.inr 1) (nwX m5)) ∧ (¬ (a3 < 0) → ((a3 ≤ 60 → (mC m5 a0 = 11) ∧ (29 ≤ mC m5 (mR m5 642 a0) ∧ mC m5 (mR m5 642 a0) < 43) ∧ (0 ≤ a2 ∧ a2 < mN m5 (mR m5 642 a0)) ∧ (mC m5 (mO m5 (mR m5 642 a0) (Int.toNat a2)) = 4) ∧ (((mI m5 193 (mO m5 (mR m5 642 a0) (Int.toNat a2))) = 0 → Q (.inr 0) (nwX m5)) ∧ (¬ ((mI m5 193 (mO m5 (mR m5 642 a0) (Int.toNat a2))) = 0) → (mC m5 (mR m5 643 a0) = 10) ∧ (29 ≤ mC m5 (mR m5 580 (mR m5 643 a0)) ∧ mC m5 (mR m5 580 (mR m5 643 a0)) < 43) ∧ (0 ≤ a1 ∧ a1 < mN m5 (mR m5 580 (mR m5 643 a0))) ∧ (mC m5 (mO m5 (mR m5 580 (mR m5 643 a0)) (Int.toNat a1)) = 7) ∧ (((mI m5 384 (mO m5 (mR m5 580 (mR m5 643 a0)) (Int.toNat a1))) = 0 → zC xs xl d 58 [zR (mO m5 (mR m5 580 (mR m5 643 a0)) (Int.toNat a1)), zR (mO m5 (mR m5 642 a0) (Int.toNat a2)), zI a2, zI a3, zI (mI m5 576 (mR m5 643 a0))] m5 (fun r m15 => r = .inl none ∧ (mC m15 a0 = 11) ∧ (mC m15 (mR m15 643 a0) = 10) ∧ zC xs xl d 96 [zR (mR m15 643 a0)] m15 (fun r m18 => ∃ v19 : Int, r = .inl (some (zI v19)) ∧ Q (.inl (some (zI v19))) m18))) ∧ (¬ ((mI m5 384 (mO m5 (mR m5 580 (mR m5 643 a0)) (Int.toNat a1))) = 0) → Q (.inr 0) (nwX m5)))))) ∧ (¬ (a3 ≤ 60) → Q (.inr 1) (nwX m5))))))))) ∧ (¬ (v4 ≠ 0) → Q (.inr 2) (nwX m3))))) : zC xs xl (d + 1) 115 [zR a0, zI a1, zI a2, zI a3] m Q := by
  refine zk_115 ?_
  refine (zq_iload_n dX10_start_0 rfl).mpr ?_
  refine (zq_aload_n dX10_start_1 rfl).mpr ?_
  obtain ⟨g1, h⟩ := h
  refine (zq_getR2 (f := 643) (v := (mR m 643 a0)) dX10_start_2 fl_10_34 (by decide) rfl rfl (by first | rfl | simp only [zm_Is, zm_Rs, zm_As, zm_Os, zm_In0, zm_Rn0])).mpr ⟨g1, ?_⟩
  obtain ⟨g2, h⟩ := h
  refine (zq_getI2 (f := 581) (v := (mI m 581 (mR m 643 a0))) dX10_start_5 fl_10_156 (by decide) rfl rfl (by first | rfl | simp only [zm_Is, zm_Rs, zm_As, zm_Os, zm_In0, zm_Rn0])).mpr ⟨g2, ?_⟩
  refine zq_staticI (n := 2) dX10_start_8 mr_10_62 zn_127 rfl rfl (Nat.le_of_ble_eq_true rfl) (Nat.le_of_ble_eq_true rfl) ?_
  refine h.mono (fun r m3 h => ?_)
  obtain ⟨v4, rfl, h⟩ := h
  refine ⟨_, rfl, ?_⟩
  refine (zq_if_ne (t := 24) dX10_start_11 rfl).mpr ⟨fun c => ?_, fun c => ?_⟩
  · replace h := h.1 c
    refine (zq_iload_n dX10_start_24 rfl).mpr ?_
    refine (zq_bipush (v := 6) dX10_start_25 (by decide)).mpr ?_
    refine zq_staticI (n := 2) dX10_start_27 mr_10_62 zn_127 rfl rfl (Nat.le_of_ble_eq_true rfl) (Nat.le_of_ble_eq_true rfl) ?_
    refine h.mono (fun r m5 h => ?_)
    obtain ⟨v6, rfl, h⟩ := h
    refine ⟨_, rfl, ?_⟩
    refine (zq_if_eq (t := 43) dX10_start_30 rfl).mpr ⟨fun c => ?_, fun c => ?_⟩
    · replace h := h.1 c
      exact (zq_throw dX10_start_43 nx_10_57 xr_10_57 dX10_start_46 dX10_start_47 dX10_start_49 dX10_start_52 (by decide)).mpr h
    · replace h := h.2 c
      refine (zq_iload_n dX10_start_33 rfl).mpr ?_
      refine (zq_if_lt (t := 43) dX10_start_34 rfl).mpr ⟨fun c => ?_, fun c => ?_⟩
      · replace h := h.1 c
        exact (zq_throw dX10_start_43 nx_10_57 xr_10_57 dX10_start_46 dX10_start_47 dX10_start_49 dX10_start_52 (by decide)).mpr h
      · replace h := h.2 c
        refine (zq_iload_n dX10_start_37 rfl).mpr ?_
        refine (zq_bipush (v := 60) dX10_start_38 (by decide)).mpr ?_
        refine (zq_icmp_le (t := 53) dX10_start_40 rfl).mpr ⟨fun c => ?_, fun c => ?_⟩
        · replace h := h.1 c
          refine (zq_aload_n dX10_start_53 rfl).mpr ?_
          obtain ⟨g7, h⟩ := h
          refine (zq_getR2 (f := 642) (v := (mR m5 642 a0)) dX10_start_54 fl_10_27 (by decide) rfl rfl (by first | rfl | simp only [zm_Is, zm_Rs, zm_As, zm_Os, zm_In0, zm_Rn0])).mpr ⟨g7, ?_⟩
          refine (zq_iload_n dX10_start_57 rfl).mpr ?_
          obtain ⟨g8, h⟩ := h
          obtain ⟨g9, h⟩ := h
          refine (zq_aald2 (v := (mO m5 (mR m5 642 a0) (Int.toNat a2))) dX10_start_58 (by first | rfl | simp only [zm_Is, zm_Rs, zm_As, zm_Os, zm_In0, zm_Rn0])).mpr ⟨⟨g8.1, g8.2, g9⟩, ?_⟩
          obtain ⟨g10, h⟩ := h
          refine (zq_getI2 (f := 193) (v := (mI m5 193 (mO m5 (mR m5 642 a0) (Int.toNat a2)))) dX10_start_59 fl_10_165 (by decide) rfl rfl (by first | rfl | simp only [zm_Is, zm_Rs, zm_As, zm_Os, zm_In0, zm_Rn0])).mpr ⟨g10, ?_⟩
          refine (zq_if_eq (t := 80) dX10_start_62 rfl).mpr ⟨fun c => ?_, fun c => ?_⟩
          · replace h := h.1 c
            exact (zq_throw dX10_start_80 nx_10_46 xr_10_46 dX10_start_83 dX10_start_84 dX10_start_86 dX10_start_89 (by decide)).mpr h
          · replace h := h.2 c
            refine (zq_aload_n dX10_start_65 rfl).mpr ?_
            refine (zq_getR2 (f := 643) (v := (mR m5 643 a0)) dX10_start_66 fl_10_34 (by decide) rfl rfl (by first | rfl | simp only [zm_Is, zm_Rs, zm_As, zm_Os, zm_In0, zm_Rn0])).mpr ⟨g7, ?_⟩
            obtain ⟨g11, h⟩ := h
            refine (zq_getR2 (f := 580) (v := (mR m5 580 (mR m5 643 a0))) dX10_start_69 fl_10_168 (by decide) rfl rfl (by first | rfl | simp only [zm_Is, zm_Rs, zm_As, zm_Os, zm_In0, zm_Rn0])).mpr ⟨g11, ?_⟩
            refine (zq_iload_n dX10_start_72 rfl).mpr ?_
            obtain ⟨g12, h⟩ := h
            obtain ⟨g13, h⟩ := h
            refine (zq_aald2 (v := (mO m5 (mR m5 580 (mR m5 643 a0)) (Int.toNat a1))) dX10_start_73 (by first | rfl | simp only [zm_Is, zm_Rs, zm_As, zm_Os, zm_In0, zm_Rn0])).mpr ⟨⟨g12.1, g12.2, g13⟩, ?_⟩
            obtain ⟨g14, h⟩ := h
            refine (zq_getI2 (f := 384) (v := (mI m5 384 (mO m5 (mR m5 580 (mR m5 643 a0)) (Int.toNat a1)))) dX10_start_74 fl_10_172 (by decide) rfl rfl (by first | rfl | simp only [zm_Is, zm_Rs, zm_As, zm_Os, zm_In0, zm_Rn0])).mpr ⟨g14, ?_⟩
            refine (zq_if_eq (t := 90) dX10_start_77 rfl).mpr ⟨fun c => ?_, fun c => ?_⟩
            · replace h := h.1 c
              refine (zq_aload_n dX10_start_90 rfl).mpr ?_
              refine (zq_getR2 (f := 643) (v := (mR m5 643 a0)) dX10_start_91 fl_10_34 (by decide) rfl rfl (by first | rfl | simp only [zm_Is, zm_Rs, zm_As, zm_Os, zm_In0, zm_Rn0])).mpr ⟨g7, ?_⟩
              refine (zq_getR2 (f := 580) (v := (mR m5 580 (mR m5 643 a0))) dX10_start_94 fl_10_168 (by decide) rfl rfl (by first | rfl | simp only [zm_Is, zm_Rs, zm_As, zm_Os, zm_In0, zm_Rn0])).mpr ⟨g11, ?_⟩
              refine (zq_iload_n dX10_start_97 rfl).mpr ?_
              refine (zq_aald2 (v := (mO m5 (mR m5 580 (mR m5 643 a0)) (Int.toNat a1))) dX10_start_98 (by first | rfl | simp only [zm_Is, zm_Rs, zm_As, zm_Os, zm_In0, zm_Rn0])).mpr ⟨⟨g12.1, g12.2, g13⟩, ?_⟩
              refine (zq_aload_n dX10_start_99 rfl).mpr ?_
              refine (zq_getR2 (f := 642) (v := (mR m5 642 a0)) dX10_start_100 fl_10_27 (by decide) rfl rfl (by first | rfl | simp only [zm_Is, zm_Rs, zm_As, zm_Os, zm_In0, zm_Rn0])).mpr ⟨g7, ?_⟩
              refine (zq_iload_n dX10_start_103 rfl).mpr ?_
              refine (zq_aald2 (v := (mO m5 (mR m5 642 a0) (Int.toNat a2))) dX10_start_104 (by first | rfl | simp only [zm_Is, zm_Rs, zm_As, zm_Os, zm_In0, zm_Rn0])).mpr ⟨⟨g8.1, g8.2, g9⟩, ?_⟩
              refine (zq_iload_n dX10_start_105 rfl).mpr ?_
              refine (zq_iload_n dX10_start_106 rfl).mpr ?_
              refine (zq_aload_n dX10_start_107 rfl).mpr ?_
              refine (zq_getR2 (f := 643) (v := (mR m5 643 a0)) dX10_start_108 fl_10_34 (by decide) rfl rfl (by first | rfl | simp only [zm_Is, zm_Rs, zm_As, zm_Os, zm_In0, zm_Rn0])).mpr ⟨g7, ?_⟩
              refine (zq_getI2 (f := 576) (v := (mI m5 576 (mR m5 643 a0))) dX10_start_111 fl_10_180 (by decide) rfl rfl (by first | rfl | simp only [zm_Is, zm_Rs, zm_As, zm_Os, zm_In0, zm_Rn0])).mpr ⟨g11, ?_⟩
              refine zq_virtualV (n := 4) dX10_start_114 mr_10_183 zn_58 rfl rfl rfl (zrcv_R zo_58 (by decide) g14) (Nat.le_of_ble_eq_true rfl) ?_
              refine h.mono (fun r m15 h => ?_)
              obtain ⟨rfl, h⟩ := h
              refine ⟨rfl, ?_⟩
              refine (zq_aload_n dX10_start_117 rfl).mpr ?_
              obtain ⟨g17, h⟩ := h
              refine (zq_getR2 (f := 643) (v := (mR m15 643 a0)) dX10_start_118 fl_10_34 (by decide) rfl rfl (by first | rfl | simp only [zm_Is, zm_Rs, zm_As, zm_Os, zm_In0, zm_Rn0])).mpr ⟨g17, ?_⟩
              obtain ⟨g20, h⟩ := h
              refine zq_virtualI (n := 0) dX10_start_121 mr_10_187 zn_96 rfl rfl rfl (zrcv_R zo_96 (by decide) g20) (Nat.le_of_ble_eq_true rfl) ?_
              refine h.mono (fun r m18 h => ?_)
              obtain ⟨v19, rfl, h⟩ := h
              refine ⟨_, rfl, ?_⟩
              exact (zq_iret dX10_start_124 rfl).mpr ⟨trivial, h⟩
            · replace h := h.2 c
              exact (zq_throw dX10_start_80 nx_10_46 xr_10_46 dX10_start_83 dX10_start_84 dX10_start_86 dX10_start_89 (by decide)).mpr h
        · replace h := h.2 c
          exact (zq_throw dX10_start_43 nx_10_57 xr_10_57 dX10_start_46 dX10_start_47 dX10_start_49 dX10_start_52 (by decide)).mpr h
  · replace h := h.2 c
    exact (zq_throw dX10_start_14 nx_10_66 xr_10_66 dX10_start_17 dX10_start_18 dX10_start_20 dX10_start_23 (by decide)).mpr h
theorem bX10_lend_0 {a0 : Nat} {a1 : Int} {a2 : Int} {a3 : Int} (h : (mC m a0 = 11) ∧ (mC m (mR m 643 a0) = 10) ∧ zC xs xl d 127 [zI a1, zI (mI m 581 (mR m 643 a0))] m (fun r m3 => ∃ v4 : Int, r = .inl (some (zI v4)) ∧ ((v4 = 0 → Q (.inr 2) (nwX m3)) ∧ (¬ (v4 = 0) → (mC m3 a0 = 11) ∧ (mC m3 (mR m3 643 a0) = 10) ∧ zC xs xl d 127 [zI a2, zI (mI m3 581 (mR m3 643 a0))] m3 (fun r m7 => ∃ v8 : Int, r = .inl (some (zI v8)) ∧ ((v8 ≠ 0 → ((a1 = a2 → Q (.inr 1) (nwX m7)) ∧ (¬ (a1 = a2) → zC xs xl d 127 [zI a3, zI 5] m7 (fun r m9 => ∃ v10 : Int, r = .inl (some (zI v10)) ∧ ((v10 ≠ 0 → (mC m9 a0 = 11) ∧ (mC m9 (mR m9 643 a0) = 10) ∧ (29 ≤ mC m9 (mR m9 580 (mR m9 643 a0)) ∧ mC m9 (mR m9 580 (mR m9 643 a0)) < 43) ∧ (0 ≤ a1 ∧ a1 < mN m9 (mR m9 580 (mR m9 643 a0))) ∧ (0 ≤ a2 ∧ a2 < mN m9 (mR m9 580 (mR m9 643 a0))) ∧ (mC m9 (mO m9 (mR m9 580 (mR m9 643 a0)) (Int.toNat a1)) = 7) ∧ zC xs xl d 65 [zR (mO m9 (mR m9 580 (mR m9 643 a0)) (Int.toNat a1)), zI a3] m9 (fun r m16 => ∃ v17 : Int, r = .inl (some (zI v17)) ∧ ((v17 = 0 → Q (.inr 0) (nwX m16)) ∧ (¬ (v17 = 0) → (mC m16 (mO m9 (mR m9 580 (mR m9 643 a0)) (Int.toNat a1)) = 7) ∧ (((mI m16 399 (mO m9 (mR m9 580 (mR m9 643 a0)) (Int.toNat a1))) ≠ 0 → Q (.inr 0) (nwX m16)) ∧ (¬ ((mI m16 399 (mO m9 (mR m9 580 (mR m9 643 a0)) (Int.toNat a1))) ≠ 0) → (mC m16 (mO m9 (mR m9 580 (mR m9 643 a0)) (Int.toNat a2)) = 7) ∧ (((mI m16 397 (mO m9 (mR m9 580 (mR m9 643 a0)) (Int.toNat a2))) = a3 → zC xs xl d 66 [zR (mO m9 (mR m9 580 (mR m9 643 a0)) (Int.toNat a1)), zI a3] m16 (fun r m21 => r = .inl none ∧ (mC m21 (mO m9 (mR m9 580 (mR m9 643 a0)) (Int.toNat a2)) = 7) ∧ zC xs xl d 67 [zR (mO m9 (mR m9 580 (mR m9 643 a0)) (Int.toNat a2)), zI a3] m21 (fun r m23 => r = .inl none ∧ (mC m23 a0 = 11) ∧ (mC m23 (mR m23 643 a0) = 10) ∧ (mC m23 (mO m9 (mR m9 580 (mR m9 643 a0)) (Int.toNat a1)) = 7) ∧ zC xs xl d 68 [zR (mO m9 (mR m9 580 (mR m9 643 a0)) (Int.toNat a1)), zI a3, zI (mI m23 576 (mR m23 643 a0)), zI 1] m23 (fun r m28 => r = .inl none ∧ (mC m28 a0 = 11) ∧ (mC m28 (mR m28 643 a0) = 10) ∧ zC xs xl d 97 [zR (mR m28 643 a0)] m28 (fun r m32 => ∃ v33 : Int, r = .inl (some (zI v33)) ∧ Q (.inl (some (zI v33))) m32))))) ∧ (¬ ((mI m16 397 (mO m9 (mR m9 580 (mR m9 643 a0)) (Int.toNat a2))) = a3) → Q (.inr 0) (nwX m16))))))))) ∧ (¬ (v10 ≠ 0) → Q (.inr 1) (nwX m9))))))) ∧ (¬ (v8 ≠ 0) → Q (.inr 2) (nwX m7)))))))) : zC xs xl (d + 1) 116 [zR a0, zI a1, zI a2, zI a3] m Q := by
  refine zk_116 ?_
  refine (zq_iload_n dX10_lend_0 rfl).mpr ?_
  refine (zq_aload_n dX10_lend_1 rfl).mpr ?_
  obtain ⟨g1, h⟩ := h
  refine (zq_getR2 (f := 643) (v := (mR m 643 a0)) dX10_lend_2 fl_10_34 (by decide) rfl rfl (by first | rfl | simp only [zm_Is, zm_Rs, zm_As, zm_Os, zm_In0, zm_Rn0])).mpr ⟨g1, ?_⟩
  obtain ⟨g2, h⟩ := h
  refine (zq_getI2 (f := 581) (v := (mI m 581 (mR m 643 a0))) dX10_lend_5 fl_10_156 (by decide) rfl rfl (by first | rfl | simp only [zm_Is, zm_Rs, zm_As, zm_Os, zm_In0, zm_Rn0])).mpr ⟨g2, ?_⟩
  refine zq_staticI (n := 2) dX10_lend_8 mr_10_62 zn_127 rfl rfl (Nat.le_of_ble_eq_true rfl) (Nat.le_of_ble_eq_true rfl) ?_
  refine h.mono (fun r m3 h => ?_)
  obtain ⟨v4, rfl, h⟩ := h
  refine ⟨_, rfl, ?_⟩
  refine (zq_if_eq (t := 28) dX10_lend_11 rfl).mpr ⟨fun c => ?_, fun c => ?_⟩
  · replace h := h.1 c
    exact (zq_throw dX10_lend_28 nx_10_66 xr_10_66 dX10_lend_31 dX10_lend_32 dX10_lend_34 dX10_lend_37 (by decide)).mpr h
  · replace h := h.2 c
    refine (zq_iload_n dX10_lend_14 rfl).mpr ?_
    refine (zq_aload_n dX10_lend_15 rfl).mpr ?_
    obtain ⟨g5, h⟩ := h
    refine (zq_getR2 (f := 643) (v := (mR m3 643 a0)) dX10_lend_16 fl_10_34 (by decide) rfl rfl (by first | rfl | simp only [zm_Is, zm_Rs, zm_As, zm_Os, zm_In0, zm_Rn0])).mpr ⟨g5, ?_⟩
    obtain ⟨g6, h⟩ := h
    refine (zq_getI2 (f := 581) (v := (mI m3 581 (mR m3 643 a0))) dX10_lend_19 fl_10_156 (by decide) rfl rfl (by first | rfl | simp only [zm_Is, zm_Rs, zm_As, zm_Os, zm_In0, zm_Rn0])).mpr ⟨g6, ?_⟩
    refine zq_staticI (n := 2) dX10_lend_22 mr_10_62 zn_127 rfl rfl (Nat.le_of_ble_eq_true rfl) (Nat.le_of_ble_eq_true rfl) ?_
    refine h.mono (fun r m7 h => ?_)
    obtain ⟨v8, rfl, h⟩ := h
    refine ⟨_, rfl, ?_⟩
    refine (zq_if_ne (t := 38) dX10_lend_25 rfl).mpr ⟨fun c => ?_, fun c => ?_⟩
    · replace h := h.1 c
      refine (zq_iload_n dX10_lend_38 rfl).mpr ?_
      refine (zq_iload_n dX10_lend_39 rfl).mpr ?_
      refine (zq_icmp_eq (t := 51) dX10_lend_40 rfl).mpr ⟨fun c => ?_, fun c => ?_⟩
      · replace h := h.1 c
        exact (zq_throw dX10_lend_51 nx_10_57 xr_10_57 dX10_lend_54 dX10_lend_55 dX10_lend_57 dX10_lend_60 (by decide)).mpr h
      · replace h := h.2 c
        refine (zq_iload_n dX10_lend_43 rfl).mpr ?_
        refine (zq_iconst (v := 5) dX10_lend_44 (by decide)).mpr ?_
        refine zq_staticI (n := 2) dX10_lend_45 mr_10_62 zn_127 rfl rfl (Nat.le_of_ble_eq_true rfl) (Nat.le_of_ble_eq_true rfl) ?_
        refine h.mono (fun r m9 h => ?_)
        obtain ⟨v10, rfl, h⟩ := h
        refine ⟨_, rfl, ?_⟩
        refine (zq_if_ne (t := 61) dX10_lend_48 rfl).mpr ⟨fun c => ?_, fun c => ?_⟩
        · replace h := h.1 c
          refine (zq_aload_n dX10_lend_61 rfl).mpr ?_
          obtain ⟨g11, h⟩ := h
          refine (zq_getR2 (f := 643) (v := (mR m9 643 a0)) dX10_lend_62 fl_10_34 (by decide) rfl rfl (by first | rfl | simp only [zm_Is, zm_Rs, zm_As, zm_Os, zm_In0, zm_Rn0])).mpr ⟨g11, ?_⟩
          obtain ⟨g12, h⟩ := h
          refine (zq_getR2 (f := 580) (v := (mR m9 580 (mR m9 643 a0))) dX10_lend_65 fl_10_168 (by decide) rfl rfl (by first | rfl | simp only [zm_Is, zm_Rs, zm_As, zm_Os, zm_In0, zm_Rn0])).mpr ⟨g12, ?_⟩
          refine (zq_iload_n dX10_lend_68 rfl).mpr ?_
          obtain ⟨g13, h⟩ := h
          obtain ⟨g14, h⟩ := h
          refine (zq_aald2 (v := (mO m9 (mR m9 580 (mR m9 643 a0)) (Int.toNat a1))) dX10_lend_69 (by first | rfl | simp only [zm_Is, zm_Rs, zm_As, zm_Os, zm_In0, zm_Rn0])).mpr ⟨⟨g13.1, g13.2, g14⟩, ?_⟩
          refine (zq_astore (l := [zR a0, zI a1, zI a2, zI a3, zR (mO m9 (mR m9 580 (mR m9 643 a0)) (Int.toNat a1)), zU]) dX10_lend_70 (Nat.le_of_ble_eq_true rfl) rfl).mpr ?_
          refine (zq_aload_n dX10_lend_72 rfl).mpr ?_
          refine (zq_getR2 (f := 643) (v := (mR m9 643 a0)) dX10_lend_73 fl_10_34 (by decide) rfl rfl (by first | rfl | simp only [zm_Is, zm_Rs, zm_As, zm_Os, zm_In0, zm_Rn0])).mpr ⟨g11, ?_⟩
          refine (zq_getR2 (f := 580) (v := (mR m9 580 (mR m9 643 a0))) dX10_lend_76 fl_10_168 (by decide) rfl rfl (by first | rfl | simp only [zm_Is, zm_Rs, zm_As, zm_Os, zm_In0, zm_Rn0])).mpr ⟨g12, ?_⟩
          refine (zq_iload_n dX10_lend_79 rfl).mpr ?_
          obtain ⟨g15, h⟩ := h
          refine (zq_aald2 (v := (mO m9 (mR m9 580 (mR m9 643 a0)) (Int.toNat a2))) dX10_lend_80 (by first | rfl | simp only [zm_Is, zm_Rs, zm_As, zm_Os, zm_In0, zm_Rn0])).mpr ⟨⟨g13.1, g13.2, g15⟩, ?_⟩
          refine (zq_astore (l := [zR a0, zI a1, zI a2, zI a3, zR (mO m9 (mR m9 580 (mR m9 643 a0)) (Int.toNat a1)), zR (mO m9 (mR m9 580 (mR m9 643 a0)) (Int.toNat a2))]) dX10_lend_81 (Nat.le_of_ble_eq_true rfl) rfl).mpr ?_
          refine (zq_aload dX10_lend_83 rfl).mpr ?_
          refine (zq_iload_n dX10_lend_85 rfl).mpr ?_
          obtain ⟨g18, h⟩ := h
          refine zq_virtualI (n := 1) dX10_lend_86 mr_10_192 zn_65 rfl rfl rfl (zrcv_R zo_65 (by decide) g18) (Nat.le_of_ble_eq_true rfl) ?_
          refine h.mono (fun r m16 h => ?_)
          obtain ⟨v17, rfl, h⟩ := h
          refine ⟨_, rfl, ?_⟩
          refine (zq_if_eq (t := 109) dX10_lend_89 rfl).mpr ⟨fun c => ?_, fun c => ?_⟩
          · replace h := h.1 c
            exact (zq_throw dX10_lend_109 nx_10_46 xr_10_46 dX10_lend_112 dX10_lend_113 dX10_lend_115 dX10_lend_118 (by decide)).mpr h
          · replace h := h.2 c
            refine (zq_aload dX10_lend_92 rfl).mpr ?_
            obtain ⟨g19, h⟩ := h
            refine (zq_getI2 (f := 399) (v := (mI m16 399 (mO m9 (mR m9 580 (mR m9 643 a0)) (Int.toNat a1)))) dX10_lend_94 fl_10_195 (by decide) rfl rfl (by first | rfl | simp only [zm_Is, zm_Rs, zm_As, zm_Os, zm_In0, zm_Rn0])).mpr ⟨g19, ?_⟩
            refine (zq_if_ne (t := 109) dX10_lend_97 rfl).mpr ⟨fun c => ?_, fun c => ?_⟩
            · replace h := h.1 c
              exact (zq_throw dX10_lend_109 nx_10_46 xr_10_46 dX10_lend_112 dX10_lend_113 dX10_lend_115 dX10_lend_118 (by decide)).mpr h
            · replace h := h.2 c
              refine (zq_aload dX10_lend_100 rfl).mpr ?_
              obtain ⟨g20, h⟩ := h
              refine (zq_getI2 (f := 397) (v := (mI m16 397 (mO m9 (mR m9 580 (mR m9 643 a0)) (Int.toNat a2)))) dX10_lend_102 fl_10_198 (by decide) rfl rfl (by first | rfl | simp only [zm_Is, zm_Rs, zm_As, zm_Os, zm_In0, zm_Rn0])).mpr ⟨g20, ?_⟩
              refine (zq_iload_n dX10_lend_105 rfl).mpr ?_
              refine (zq_icmp_eq (t := 119) dX10_lend_106 rfl).mpr ⟨fun c => ?_, fun c => ?_⟩
              · replace h := h.1 c
                refine (zq_aload dX10_lend_119 rfl).mpr ?_
                refine (zq_iload_n dX10_lend_121 rfl).mpr ?_
                refine zq_virtualV (n := 1) dX10_lend_122 mr_10_203 zn_66 rfl rfl rfl (zrcv_R zo_66 (by decide) g19) (Nat.le_of_ble_eq_true rfl) ?_
                refine h.mono (fun r m21 h => ?_)
                obtain ⟨rfl, h⟩ := h
                refine ⟨rfl, ?_⟩
                refine (zq_aload dX10_lend_125 rfl).mpr ?_
                refine (zq_iload_n dX10_lend_127 rfl).mpr ?_
                obtain ⟨g25, h⟩ := h
                refine zq_virtualV (n := 1) dX10_lend_128 mr_10_206 zn_67 rfl rfl rfl (zrcv_R zo_67 (by decide) g25) (Nat.le_of_ble_eq_true rfl) ?_
                refine h.mono (fun r m23 h => ?_)
                obtain ⟨rfl, h⟩ := h
                refine ⟨rfl, ?_⟩
                refine (zq_aload dX10_lend_131 rfl).mpr ?_
                refine (zq_iload_n dX10_lend_133 rfl).mpr ?_
                refine (zq_aload_n dX10_lend_134 rfl).mpr ?_
                obtain ⟨g26, h⟩ := h
                refine (zq_getR2 (f := 643) (v := (mR m23 643 a0)) dX10_lend_135 fl_10_34 (by decide) rfl rfl (by first | rfl | simp only [zm_Is, zm_Rs, zm_As, zm_Os, zm_In0, zm_Rn0])).mpr ⟨g26, ?_⟩
                obtain ⟨g27, h⟩ := h
                refine (zq_getI2 (f := 576) (v := (mI m23 576 (mR m23 643 a0))) dX10_lend_138 fl_10_180 (by decide) rfl rfl (by first | rfl | simp only [zm_Is, zm_Rs, zm_As, zm_Os, zm_In0, zm_Rn0])).mpr ⟨g27, ?_⟩
                refine (zq_iconst (v := 1) dX10_lend_141 (by decide)).mpr ?_
                obtain ⟨g30, h⟩ := h
                refine zq_virtualV (n := 3) dX10_lend_142 mr_10_209 zn_68 rfl rfl rfl (zrcv_R zo_68 (by decide) g30) (Nat.le_of_ble_eq_true rfl) ?_
                refine h.mono (fun r m28 h => ?_)
                obtain ⟨rfl, h⟩ := h
                refine ⟨rfl, ?_⟩
                refine (zq_aload_n dX10_lend_145 rfl).mpr ?_
                obtain ⟨g31, h⟩ := h
                refine (zq_getR2 (f := 643) (v := (mR m28 643 a0)) dX10_lend_146 fl_10_34 (by decide) rfl rfl (by first | rfl | simp only [zm_Is, zm_Rs, zm_As, zm_Os, zm_In0, zm_Rn0])).mpr ⟨g31, ?_⟩
                obtain ⟨g34, h⟩ := h
                refine zq_virtualI (n := 0) dX10_lend_149 mr_10_213 zn_97 rfl rfl rfl (zrcv_R zo_97 (by decide) g34) (Nat.le_of_ble_eq_true rfl) ?_
                refine h.mono (fun r m32 h => ?_)
                obtain ⟨v33, rfl, h⟩ := h
                refine ⟨_, rfl, ?_⟩
                exact (zq_iret dX10_lend_152 rfl).mpr ⟨trivial, h⟩
              · replace h := h.2 c
                exact (zq_throw dX10_lend_109 nx_10_46 xr_10_46 dX10_lend_112 dX10_lend_113 dX10_lend_115 dX10_lend_118 (by decide)).mpr h
        · replace h := h.2 c
          exact (zq_throw dX10_lend_51 nx_10_57 xr_10_57 dX10_lend_54 dX10_lend_55 dX10_lend_57 dX10_lend_60 (by decide)).mpr h
    · replace h := h.2 c
      exact (zq_throw dX10_lend_28 nx_10_66 xr_10_66 dX10_lend_31 dX10_lend_32 dX10_lend_34 dX10_lend_37 (by decide)).mpr h
theorem bX10_slip_0 {a0 : Nat} {a1 : Int} {a2 : Int} (h : (mC m a0 = 11) ∧ (mC m (mR m 643 a0) = 10) ∧ zC xs xl d 127 [zI a1, zI (mI m 581 (mR m 643 a0))] m (fun r m3 => ∃ v4 : Int, r = .inl (some (zI v4)) ∧ ((v4 = 0 → Q (.inr 2) (nwX m3)) ∧ (¬ (v4 = 0) → zC xs xl d 127 [zI a2, zI 15] m3 (fun r m5 => ∃ v6 : Int, r = .inl (some (zI v6)) ∧ ((v6 ≠ 0 → (mC m5 a0 = 11) ∧ (mC m5 (mR m5 643 a0) = 10) ∧ (29 ≤ mC m5 (mR m5 580 (mR m5 643 a0)) ∧ mC m5 (mR m5 580 (mR m5 643 a0)) < 43) ∧ (0 ≤ a1 ∧ a1 < mN m5 (mR m5 580 (mR m5 643 a0))) ∧ (mC m5 (mO m5 (mR m5 580 (mR m5 643 a0)) (Int.toNat a1)) = 7) ∧ zC xs xl d 72 [zR (mO m5 (mR m5 580 (mR m5 643 a0)) (Int.toNat a1)), zI a2] m5 (fun r m11 => ∃ v12 : Int, r = .inl (some (zI v12)) ∧ Q (.inl (some (zI v12))) m11)) ∧ (¬ (v6 ≠ 0) → Q (.inr 2) (nwX m5)))))))) : zC xs xl (d + 1) 117 [zR a0, zI a1, zI a2] m Q := by
  refine zk_117 ?_
  refine (zq_iload_n dX10_slip_0 rfl).mpr ?_
  refine (zq_aload_n dX10_slip_1 rfl).mpr ?_
  obtain ⟨g1, h⟩ := h
  refine (zq_getR2 (f := 643) (v := (mR m 643 a0)) dX10_slip_2 fl_10_34 (by decide) rfl rfl (by first | rfl | simp only [zm_Is, zm_Rs, zm_As, zm_Os, zm_In0, zm_Rn0])).mpr ⟨g1, ?_⟩
  obtain ⟨g2, h⟩ := h
  refine (zq_getI2 (f := 581) (v := (mI m 581 (mR m 643 a0))) dX10_slip_5 fl_10_156 (by decide) rfl rfl (by first | rfl | simp only [zm_Is, zm_Rs, zm_As, zm_Os, zm_In0, zm_Rn0])).mpr ⟨g2, ?_⟩
  refine zq_staticI (n := 2) dX10_slip_8 mr_10_62 zn_127 rfl rfl (Nat.le_of_ble_eq_true rfl) (Nat.le_of_ble_eq_true rfl) ?_
  refine h.mono (fun r m3 h => ?_)
  obtain ⟨v4, rfl, h⟩ := h
  refine ⟨_, rfl, ?_⟩
  refine (zq_if_eq (t := 23) dX10_slip_11 rfl).mpr ⟨fun c => ?_, fun c => ?_⟩
  · replace h := h.1 c
    exact (zq_throw dX10_slip_23 nx_10_66 xr_10_66 dX10_slip_26 dX10_slip_27 dX10_slip_29 dX10_slip_32 (by decide)).mpr h
  · replace h := h.2 c
    refine (zq_iload_n dX10_slip_14 rfl).mpr ?_
    refine (zq_bipush (v := 15) dX10_slip_15 (by decide)).mpr ?_
    refine zq_staticI (n := 2) dX10_slip_17 mr_10_62 zn_127 rfl rfl (Nat.le_of_ble_eq_true rfl) (Nat.le_of_ble_eq_true rfl) ?_
    refine h.mono (fun r m5 h => ?_)
    obtain ⟨v6, rfl, h⟩ := h
    refine ⟨_, rfl, ?_⟩
    refine (zq_if_ne (t := 33) dX10_slip_20 rfl).mpr ⟨fun c => ?_, fun c => ?_⟩
    · replace h := h.1 c
      refine (zq_aload_n dX10_slip_33 rfl).mpr ?_
      obtain ⟨g7, h⟩ := h
      refine (zq_getR2 (f := 643) (v := (mR m5 643 a0)) dX10_slip_34 fl_10_34 (by decide) rfl rfl (by first | rfl | simp only [zm_Is, zm_Rs, zm_As, zm_Os, zm_In0, zm_Rn0])).mpr ⟨g7, ?_⟩
      obtain ⟨g8, h⟩ := h
      refine (zq_getR2 (f := 580) (v := (mR m5 580 (mR m5 643 a0))) dX10_slip_37 fl_10_168 (by decide) rfl rfl (by first | rfl | simp only [zm_Is, zm_Rs, zm_As, zm_Os, zm_In0, zm_Rn0])).mpr ⟨g8, ?_⟩
      refine (zq_iload_n dX10_slip_40 rfl).mpr ?_
      obtain ⟨g9, h⟩ := h
      obtain ⟨g10, h⟩ := h
      refine (zq_aald2 (v := (mO m5 (mR m5 580 (mR m5 643 a0)) (Int.toNat a1))) dX10_slip_41 (by first | rfl | simp only [zm_Is, zm_Rs, zm_As, zm_Os, zm_In0, zm_Rn0])).mpr ⟨⟨g9.1, g9.2, g10⟩, ?_⟩
      refine (zq_iload_n dX10_slip_42 rfl).mpr ?_
      obtain ⟨g13, h⟩ := h
      refine zq_virtualI (n := 1) dX10_slip_43 mr_10_218 zn_72 rfl rfl rfl (zrcv_R zo_72 (by decide) g13) (Nat.le_of_ble_eq_true rfl) ?_
      refine h.mono (fun r m11 h => ?_)
      obtain ⟨v12, rfl, h⟩ := h
      refine ⟨_, rfl, ?_⟩
      exact (zq_iret dX10_slip_46 rfl).mpr ⟨trivial, h⟩
    · replace h := h.2 c
      exact (zq_throw dX10_slip_23 nx_10_66 xr_10_66 dX10_slip_26 dX10_slip_27 dX10_slip_29 dX10_slip_32 (by decide)).mpr h
theorem bX10_bend_0 {a0 : Nat} {a1 : Int} {a2 : Int} {a3 : Int} (h : (mC m a0 = 11) ∧ (mC m (mR m 643 a0) = 10) ∧ zC xs xl d 127 [zI a1, zI (mI m 581 (mR m 643 a0))] m (fun r m3 => ∃ v4 : Int, r = .inl (some (zI v4)) ∧ ((v4 = 0 → Q (.inr 2) (nwX m3)) ∧ (¬ (v4 = 0) → zC xs xl d 127 [zI a2, zI 3] m3 (fun r m5 => ∃ v6 : Int, r = .inl (some (zI v6)) ∧ ((v6 ≠ 0 → (mC m5 a0 = 11) ∧ (mC m5 (mR m5 643 a0) = 10) ∧ (29 ≤ mC m5 (mR m5 580 (mR m5 643 a0)) ∧ mC m5 (mR m5 580 (mR m5 643 a0)) < 43) ∧ (0 ≤ a1 ∧ a1 < mN m5 (mR m5 580 (mR m5 643 a0))) ∧ (mC m5 (mO m5 (mR m5 580 (mR m5 643 a0)) (Int.toNat a1)) = 7) ∧ ((a3 = 0 → (mC m5 (mR m5 395 (mO m5 (mR m5 580 (mR m5 643 a0)) (Int.toNat a1))) = 3) ∧ (mC m5 (mR m5 133 (mR m5 395 (mO m5 (mR m5 580 (mR m5 643 a0)) (Int.toNat a1)))) = 20) ∧ (0 ≤ a2 ∧ a2 < mN m5 (mR m5 133 (mR m5 395 (mO m5 (mR m5 580 (mR m5 643 a0)) (Int.toNat a1))))) ∧ Q (.inl (some (zI (mA m5 (mR m5 133 (mR m5 395 (mO m5 (mR m5 580 (mR m5 643 a0)) (Int.toNat a1)))) (Int.toNat a2))))) m5) ∧ (¬ (a3 = 0) → (mC m5 (mR m5 395 (mO m5 (mR m5 580 (mR m5 643 a0)) (Int.toNat a1))) = 3) ∧ (mC m5 (mR m5 134 (mR m5 395 (mO m5 (mR m5 580 (mR m5 643 a0)) (Int.toNat a1)))) = 20) ∧ (0 ≤ a2 ∧ a2 < mN m5 (mR m5 134 (mR m5 395 (mO m5 (mR m5 580 (mR m5 643 a0)) (Int.toNat a1))))) ∧ Q (.inl (some (zI (mA m5 (mR m5 134 (mR m5 395 (mO m5 (mR m5 580 (mR m5 643 a0)) (Int.toNat a1)))) (Int.toNat a2))))) m5))) ∧ (¬ (v6 ≠ 0) → Q (.inr 2) (nwX m5)))))))) : zC xs xl (d + 1) 118 [zR a0, zI a1, zI a2, zI a3] m Q := by
  refine zk_118 ?_
  refine (zq_iload_n dX10_bend_0 rfl).mpr ?_
  refine (zq_aload_n dX10_bend_1 rfl).mpr ?_
  obtain ⟨g1, h⟩ := h
  refine (zq_getR2 (f := 643) (v := (mR m 643 a0)) dX10_bend_2 fl_10_34 (by decide) rfl rfl (by first | rfl | simp only [zm_Is, zm_Rs, zm_As, zm_Os, zm_In0, zm_Rn0])).mpr ⟨g1, ?_⟩
  obtain ⟨g2, h⟩ := h
  refine (zq_getI2 (f := 581) (v := (mI m 581 (mR m 643 a0))) dX10_bend_5 fl_10_156 (by decide) rfl rfl (by first | rfl | simp only [zm_Is, zm_Rs, zm_As, zm_Os, zm_In0, zm_Rn0])).mpr ⟨g2, ?_⟩
  refine zq_staticI (n := 2) dX10_bend_8 mr_10_62 zn_127 rfl rfl (Nat.le_of_ble_eq_true rfl) (Nat.le_of_ble_eq_true rfl) ?_
  refine h.mono (fun r m3 h => ?_)
  obtain ⟨v4, rfl, h⟩ := h
  refine ⟨_, rfl, ?_⟩
  refine (zq_if_eq (t := 22) dX10_bend_11 rfl).mpr ⟨fun c => ?_, fun c => ?_⟩
  · replace h := h.1 c
    exact (zq_throw dX10_bend_22 nx_10_66 xr_10_66 dX10_bend_25 dX10_bend_26 dX10_bend_28 dX10_bend_31 (by decide)).mpr h
  · replace h := h.2 c
    refine (zq_iload_n dX10_bend_14 rfl).mpr ?_
    refine (zq_iconst (v := 3) dX10_bend_15 (by decide)).mpr ?_
    refine zq_staticI (n := 2) dX10_bend_16 mr_10_62 zn_127 rfl rfl (Nat.le_of_ble_eq_true rfl) (Nat.le_of_ble_eq_true rfl) ?_
    refine h.mono (fun r m5 h => ?_)
    obtain ⟨v6, rfl, h⟩ := h
    refine ⟨_, rfl, ?_⟩
    refine (zq_if_ne (t := 32) dX10_bend_19 rfl).mpr ⟨fun c => ?_, fun c => ?_⟩
    · replace h := h.1 c
      refine (zq_aload_n dX10_bend_32 rfl).mpr ?_
      obtain ⟨g7, h⟩ := h
      refine (zq_getR2 (f := 643) (v := (mR m5 643 a0)) dX10_bend_33 fl_10_34 (by decide) rfl rfl (by first | rfl | simp only [zm_Is, zm_Rs, zm_As, zm_Os, zm_In0, zm_Rn0])).mpr ⟨g7, ?_⟩
      obtain ⟨g8, h⟩ := h
      refine (zq_getR2 (f := 580) (v := (mR m5 580 (mR m5 643 a0))) dX10_bend_36 fl_10_168 (by decide) rfl rfl (by first | rfl | simp only [zm_Is, zm_Rs, zm_As, zm_Os, zm_In0, zm_Rn0])).mpr ⟨g8, ?_⟩
      refine (zq_iload_n dX10_bend_39 rfl).mpr ?_
      obtain ⟨g9, h⟩ := h
      obtain ⟨g10, h⟩ := h
      refine (zq_aald2 (v := (mO m5 (mR m5 580 (mR m5 643 a0)) (Int.toNat a1))) dX10_bend_40 (by first | rfl | simp only [zm_Is, zm_Rs, zm_As, zm_Os, zm_In0, zm_Rn0])).mpr ⟨⟨g9.1, g9.2, g10⟩, ?_⟩
      obtain ⟨g11, h⟩ := h
      refine (zq_getR2 (f := 395) (v := (mR m5 395 (mO m5 (mR m5 580 (mR m5 643 a0)) (Int.toNat a1)))) dX10_bend_41 fl_10_221 (by decide) rfl rfl (by first | rfl | simp only [zm_Is, zm_Rs, zm_As, zm_Os, zm_In0, zm_Rn0])).mpr ⟨g11, ?_⟩
      refine (zq_astore (l := [zR a0, zI a1, zI a2, zI a3, zR (mR m5 395 (mO m5 (mR m5 580 (mR m5 643 a0)) (Int.toNat a1)))]) dX10_bend_44 (Nat.le_of_ble_eq_true rfl) rfl).mpr ?_
      refine (zq_iload_n dX10_bend_46 rfl).mpr ?_
      refine (zq_if_eq (t := 60) dX10_bend_47 rfl).mpr ⟨fun c => ?_, fun c => ?_⟩
      · replace h := h.1 c
        refine (zq_aload dX10_bend_60 rfl).mpr ?_
        obtain ⟨g12, h⟩ := h
        refine (zq_getR2 (f := 133) (v := (mR m5 133 (mR m5 395 (mO m5 (mR m5 580 (mR m5 643 a0)) (Int.toNat a1))))) dX10_bend_62 fl_10_230 (by decide) rfl rfl (by first | rfl | simp only [zm_Is, zm_Rs, zm_As, zm_Os, zm_In0, zm_Rn0])).mpr ⟨g12, ?_⟩
        refine (zq_iload_n dX10_bend_65 rfl).mpr ?_
        obtain ⟨g13, h⟩ := h
        obtain ⟨g14, h⟩ := h
        refine (zq_iald2 (v := (mA m5 (mR m5 133 (mR m5 395 (mO m5 (mR m5 580 (mR m5 643 a0)) (Int.toNat a1)))) (Int.toNat a2))) dX10_bend_66 (by first | rfl | simp only [zm_Is, zm_Rs, zm_As, zm_Os, zm_In0, zm_Rn0])).mpr ⟨⟨g13, g14⟩, ?_⟩
        exact (zq_iret dX10_bend_67 rfl).mpr ⟨trivial, h⟩
      · replace h := h.2 c
        refine (zq_aload dX10_bend_50 rfl).mpr ?_
        obtain ⟨g15, h⟩ := h
        refine (zq_getR2 (f := 134) (v := (mR m5 134 (mR m5 395 (mO m5 (mR m5 580 (mR m5 643 a0)) (Int.toNat a1))))) dX10_bend_52 fl_10_225 (by decide) rfl rfl (by first | rfl | simp only [zm_Is, zm_Rs, zm_As, zm_Os, zm_In0, zm_Rn0])).mpr ⟨g15, ?_⟩
        refine (zq_iload_n dX10_bend_55 rfl).mpr ?_
        obtain ⟨g16, h⟩ := h
        obtain ⟨g17, h⟩ := h
        refine (zq_iald2 (v := (mA m5 (mR m5 134 (mR m5 395 (mO m5 (mR m5 580 (mR m5 643 a0)) (Int.toNat a1)))) (Int.toNat a2))) dX10_bend_56 (by first | rfl | simp only [zm_Is, zm_Rs, zm_As, zm_Os, zm_In0, zm_Rn0])).mpr ⟨⟨g16, g17⟩, ?_⟩
        refine (zq_goto (t := 67) dX10_bend_57 rfl).mpr ?_
        exact (zq_iret dX10_bend_67 rfl).mpr ⟨trivial, h⟩
    · replace h := h.2 c
      exact (zq_throw dX10_bend_22 nx_10_66 xr_10_66 dX10_bend_25 dX10_bend_26 dX10_bend_28 dX10_bend_31 (by decide)).mpr h
theorem bX10_stuck_0 {a0 : Nat} (h : (mC m a0 = 11) ∧ (mC m (mR m 643 a0) = 10) ∧ zC xs xl d 95 [zR (mR m 643 a0)] m (fun r m2 => ∃ v3 : Int, r = .inl (some (zI v3)) ∧ Q (.inl (some (zI v3))) m2)) : zC xs xl (d + 1) 119 [zR a0] m Q := by
  refine zk_119 ?_
  refine (zq_aload_n dX10_stuck_0 rfl).mpr ?_
  obtain ⟨g1, h⟩ := h
  refine (zq_getR2 (f := 643) (v := (mR m 643 a0)) dX10_stuck_1 fl_10_34 (by decide) rfl rfl (by first | rfl | simp only [zm_Is, zm_Rs, zm_As, zm_Os, zm_In0, zm_Rn0])).mpr ⟨g1, ?_⟩
  obtain ⟨g4, h⟩ := h
  refine zq_virtualI (n := 0) dX10_stuck_4 mr_10_233 zn_95 rfl rfl rfl (zrcv_R zo_95 (by decide) g4) (Nat.le_of_ble_eq_true rfl) ?_
  refine h.mono (fun r m2 h => ?_)
  obtain ⟨v3, rfl, h⟩ := h
  refine ⟨_, rfl, ?_⟩
  exact (zq_iret dX10_stuck_7 rfl).mpr ⟨trivial, h⟩
end ZB3
