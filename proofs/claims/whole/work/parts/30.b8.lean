section ZB8
variable {xs : Nat → Int} {xl d : Nat} {m : zM} {Q : zRes → zM → Prop}
theorem bX12_actionForm_0 {a0 : Nat} (h : (mC m a0 = 13) ∧ zC xs xl d 171 [zR a0, zI (mI m 776 a0), zE 1] m (fun r m2 => ∃ v3 : Int, r = .inl (some (zI v3)) ∧ ((v3 ≠ (-1) → (mC m2 a0 = 13) ∧ ((1 < v3 → zW xs xl d cX12_actionForm 12 (some .boolean) false [] 61 [zR a0, zI v3, zU] [] (sI m2 776 a0 (wr ((mI m2 776 a0) + 1))) Q) ∧ (¬ (1 < v3) → zC xs xl d 171 [zR a0, zI (wr ((mI m2 776 a0) + 1)), zE 2] (sI m2 776 a0 (wr ((mI m2 776 a0) + 1))) (fun r m5 => ∃ v6 : Int, r = .inl (some (zI v6)) ∧ ((v6 = (-1) → (mC m5 a0 = 13) ∧ zC xs xl d 173 [zR a0, zI 0] m5 (fun r m7 => ∃ v8 : Int, r = .inl (some (zI v8)) ∧ ((v8 = 0 → Q (.inl (some (zI 0))) m7) ∧ (¬ (v8 = 0) → zW xs xl d cX12_actionForm 12 (some .boolean) false [] 61 [zR a0, zI v3, zU] [] m7 Q)))) ∧ (¬ (v6 = (-1)) → (mC m5 a0 = 13) ∧ zC xs xl d 173 [zR a0, zI 1] m5 (fun r m10 => ∃ v11 : Int, r = .inl (some (zI v11)) ∧ ((v11 = 0 → Q (.inl (some (zI 0))) m10) ∧ (¬ (v11 = 0) → zW xs xl d cX12_actionForm 12 (some .boolean) false [] 61 [zR a0, zI v3, zU] [] m10 Q))))))))) ∧ (¬ (v3 ≠ (-1)) → Q (.inl (some (zI 0))) m2)))) : zC xs xl (d + 1) 176 [zR a0] m Q := by
  refine zk_176 ?_
  refine (zq_aload_n dX12_actionForm_0 rfl).mpr ?_
  refine (zq_aload_n dX12_actionForm_1 rfl).mpr ?_
  obtain ⟨g1, h⟩ := h
  refine (zq_getI2 (f := 776) (v := (mI m 776 a0)) dX12_actionForm_2 fl_12_82 (by decide) rfl rfl (by first | rfl | simp only [zm_Is, zm_Rs, zm_As, zm_Os, zm_In0, zm_Rn0])).mpr ⟨g1, ?_⟩
  refine (zq_gets dX12_actionForm_5 sl_12_104).mpr ?_
  refine zq_virtualI (n := 2) dX12_actionForm_8 mr_12_108 zn_171 rfl rfl rfl (zrcv_R zo_171 (by decide) g1) (Nat.le_of_ble_eq_true rfl) ?_
  refine h.mono (fun r m2 h => ?_)
  obtain ⟨v3, rfl, h⟩ := h
  refine ⟨_, rfl, ?_⟩
  refine (zq_istore_n dX12_actionForm_11 (by simp) rfl).mpr ?_
  refine (zq_iload_n dX12_actionForm_12 rfl).mpr ?_
  refine (zq_iconst dX12_actionForm_13 (by decide)).mpr ?_
  refine (zq_icmp_ne (t := 19) dX12_actionForm_14 rfl).mpr ⟨fun c => ?_, fun c => ?_⟩
  · replace h := h.1 c
    refine (zq_aload_n dX12_actionForm_19 rfl).mpr ?_
    refine (zq_dupR dX12_actionForm_20).mpr ?_
    obtain ⟨g4, h⟩ := h
    refine (zq_getI2 (f := 776) (v := (mI m2 776 a0)) dX12_actionForm_21 fl_12_82 (by decide) rfl rfl (by first | rfl | simp only [zm_Is, zm_Rs, zm_As, zm_Os, zm_In0, zm_Rn0])).mpr ⟨g4, ?_⟩
    refine (zq_iconst dX12_actionForm_24 (by decide)).mpr ?_
    refine (zq_iadd dX12_actionForm_25).mpr ?_
    refine (zq_putI (f := 776) dX12_actionForm_26 fl_12_82 (by decide) rfl rfl rfl).mpr ⟨g4, ?_⟩
    refine (zq_iload_n dX12_actionForm_29 rfl).mpr ?_
    refine (zq_iconst dX12_actionForm_30 (by decide)).mpr ?_
    refine (zq_icmp_gt (t := 61) dX12_actionForm_31 rfl).mpr ⟨fun c => ?_, fun c => ?_⟩
    · replace h := h.1 c
      exact h
    · replace h := h.2 c
      refine (zq_aload_n dX12_actionForm_34 rfl).mpr ?_
      refine (zq_aload_n dX12_actionForm_35 rfl).mpr ?_
      refine (zq_aload_n dX12_actionForm_36 rfl).mpr ?_
      refine (zq_getI2 (f := 776) (v := (wr ((mI m2 776 a0) + 1))) dX12_actionForm_37 fl_12_82 (by decide) rfl rfl (by first | rfl | simp only [zm_Is, zm_Rs, zm_As, zm_Os, zm_In0, zm_Rn0])).mpr ⟨g4, ?_⟩
      refine (zq_gets dX12_actionForm_40 sl_12_112).mpr ?_
      refine zq_virtualI (n := 2) dX12_actionForm_43 mr_12_108 zn_171 rfl rfl rfl (zrcv_R zo_171 (by decide) g4) (Nat.le_of_ble_eq_true rfl) ?_
      refine h.mono (fun r m5 h => ?_)
      obtain ⟨v6, rfl, h⟩ := h
      refine ⟨_, rfl, ?_⟩
      refine (zq_iconst dX12_actionForm_46 (by decide)).mpr ?_
      refine (zq_icmp_eq (t := 54) dX12_actionForm_47 rfl).mpr ⟨fun c => ?_, fun c => ?_⟩
      · replace h := h.1 c
        refine (zq_iconst dX12_actionForm_54 (by decide)).mpr ?_
        obtain ⟨g9, h⟩ := h
        refine zq_virtualI (n := 1) dX12_actionForm_55 mr_12_95 zn_173 rfl rfl rfl (zrcv_R zo_173 (by decide) g9) (Nat.le_of_ble_eq_true rfl) ?_
        refine h.mono (fun r m7 h => ?_)
        obtain ⟨v8, rfl, h⟩ := h
        refine ⟨_, rfl, ?_⟩
        refine (zq_if_eq (t := 93) dX12_actionForm_58 rfl).mpr ⟨fun c => ?_, fun c => ?_⟩
        · replace h := h.1 c
          refine (zq_iconst dX12_actionForm_93 (by decide)).mpr ?_
          exact (zq_iret dX12_actionForm_94 rfl).mpr ⟨by decide, h⟩
        · replace h := h.2 c
          exact h
      · replace h := h.2 c
        refine (zq_iconst dX12_actionForm_50 (by decide)).mpr ?_
        refine (zq_goto (t := 55) dX12_actionForm_51 rfl).mpr ?_
        obtain ⟨g12, h⟩ := h
        refine zq_virtualI (n := 1) dX12_actionForm_55 mr_12_95 zn_173 rfl rfl rfl (zrcv_R zo_173 (by decide) g12) (Nat.le_of_ble_eq_true rfl) ?_
        refine h.mono (fun r m10 h => ?_)
        obtain ⟨v11, rfl, h⟩ := h
        refine ⟨_, rfl, ?_⟩
        refine (zq_if_eq (t := 93) dX12_actionForm_58 rfl).mpr ⟨fun c => ?_, fun c => ?_⟩
        · replace h := h.1 c
          refine (zq_iconst dX12_actionForm_93 (by decide)).mpr ?_
          exact (zq_iret dX12_actionForm_94 rfl).mpr ⟨by decide, h⟩
        · replace h := h.2 c
          exact h
  · replace h := h.2 c
    refine (zq_iconst dX12_actionForm_17 (by decide)).mpr ?_
    exact (zq_iret dX12_actionForm_18 rfl).mpr ⟨by decide, h⟩
theorem bX12_actionForm_61 {a0 : Nat} {a1 : Int} {a2 : zV} (h : ((a1 ≠ 2 → zW xs xl d cX12_actionForm 12 (some .boolean) false [] 97 [zR a0, zI a1, zI 0] [] m Q) ∧ (¬ (a1 ≠ 2) → (mC m a0 = 13) ∧ zC xs xl d 171 [zR a0, zI (mI m 776 a0), zE 3] m (fun r m2 => ∃ v3 : Int, r = .inl (some (zI v3)) ∧ ((v3 = (-1) → (mC m2 a0 = 13) ∧ zC xs xl d 173 [zR a0, zI 0] m2 (fun r m4 => ∃ v5 : Int, r = .inl (some (zI v5)) ∧ ((v5 ≠ 0 → zW xs xl d cX12_actionForm 12 (some .boolean) false [] 97 [zR a0, zI a1, zI 0] [] m4 Q) ∧ (¬ (v5 ≠ 0) → Q (.inl (some (zI 0))) m4)))) ∧ (¬ (v3 = (-1)) → (mC m2 a0 = 13) ∧ zC xs xl d 173 [zR a0, zI 1] m2 (fun r m7 => ∃ v8 : Int, r = .inl (some (zI v8)) ∧ ((v8 ≠ 0 → zW xs xl d cX12_actionForm 12 (some .boolean) false [] 97 [zR a0, zI a1, zI 0] [] m7 Q) ∧ (¬ (v8 ≠ 0) → Q (.inl (some (zI 0))) m7))))))))) : zW xs xl d cX12_actionForm 12 (some .boolean) false [] 61 [zR a0, zI a1, a2] [] m Q := by
  refine (zq_iload_n dX12_actionForm_61 rfl).mpr ?_
  refine (zq_iconst dX12_actionForm_62 (by decide)).mpr ?_
  refine (zq_icmp_ne (t := 95) dX12_actionForm_63 rfl).mpr ⟨fun c => ?_, fun c => ?_⟩
  · replace h := h.1 c
    refine (zq_iconst dX12_actionForm_95 (by decide)).mpr ?_
    refine (zq_istore_n dX12_actionForm_96 (by simp) rfl).mpr ?_
    exact h
  · replace h := h.2 c
    refine (zq_aload_n dX12_actionForm_66 rfl).mpr ?_
    refine (zq_aload_n dX12_actionForm_67 rfl).mpr ?_
    refine (zq_aload_n dX12_actionForm_68 rfl).mpr ?_
    obtain ⟨g1, h⟩ := h
    refine (zq_getI2 (f := 776) (v := (mI m 776 a0)) dX12_actionForm_69 fl_12_82 (by decide) rfl rfl (by first | rfl | simp only [zm_Is, zm_Rs, zm_As, zm_Os, zm_In0, zm_Rn0])).mpr ⟨g1, ?_⟩
    refine (zq_gets dX12_actionForm_72 sl_12_115).mpr ?_
    refine zq_virtualI (n := 2) dX12_actionForm_75 mr_12_108 zn_171 rfl rfl rfl (zrcv_R zo_171 (by decide) g1) (Nat.le_of_ble_eq_true rfl) ?_
    refine h.mono (fun r m2 h => ?_)
    obtain ⟨v3, rfl, h⟩ := h
    refine ⟨_, rfl, ?_⟩
    refine (zq_iconst dX12_actionForm_78 (by decide)).mpr ?_
    refine (zq_icmp_eq (t := 86) dX12_actionForm_79 rfl).mpr ⟨fun c => ?_, fun c => ?_⟩
    · replace h := h.1 c
      refine (zq_iconst dX12_actionForm_86 (by decide)).mpr ?_
      obtain ⟨g6, h⟩ := h
      refine zq_virtualI (n := 1) dX12_actionForm_87 mr_12_95 zn_173 rfl rfl rfl (zrcv_R zo_173 (by decide) g6) (Nat.le_of_ble_eq_true rfl) ?_
      refine h.mono (fun r m4 h => ?_)
      obtain ⟨v5, rfl, h⟩ := h
      refine ⟨_, rfl, ?_⟩
      refine (zq_if_ne (t := 95) dX12_actionForm_90 rfl).mpr ⟨fun c => ?_, fun c => ?_⟩
      · replace h := h.1 c
        refine (zq_iconst dX12_actionForm_95 (by decide)).mpr ?_
        refine (zq_istore_n dX12_actionForm_96 (by simp) rfl).mpr ?_
        exact h
      · replace h := h.2 c
        refine (zq_iconst dX12_actionForm_93 (by decide)).mpr ?_
        exact (zq_iret dX12_actionForm_94 rfl).mpr ⟨by decide, h⟩
    · replace h := h.2 c
      refine (zq_iconst dX12_actionForm_82 (by decide)).mpr ?_
      refine (zq_goto (t := 87) dX12_actionForm_83 rfl).mpr ?_
      obtain ⟨g9, h⟩ := h
      refine zq_virtualI (n := 1) dX12_actionForm_87 mr_12_95 zn_173 rfl rfl rfl (zrcv_R zo_173 (by decide) g9) (Nat.le_of_ble_eq_true rfl) ?_
      refine h.mono (fun r m7 h => ?_)
      obtain ⟨v8, rfl, h⟩ := h
      refine ⟨_, rfl, ?_⟩
      refine (zq_if_ne (t := 95) dX12_actionForm_90 rfl).mpr ⟨fun c => ?_, fun c => ?_⟩
      · replace h := h.1 c
        refine (zq_iconst dX12_actionForm_95 (by decide)).mpr ?_
        refine (zq_istore_n dX12_actionForm_96 (by simp) rfl).mpr ?_
        exact h
      · replace h := h.2 c
        refine (zq_iconst dX12_actionForm_93 (by decide)).mpr ?_
        exact (zq_iret dX12_actionForm_94 rfl).mpr ⟨by decide, h⟩
theorem bX12_actionForm_97 {a0 : Nat} {a1 : Int} {a2 : Int} (h : (zXk 5 = 1 ∧ 0 ≤ a1 ∧ a1 < zXN xl 5) ∧ (((zXI xs 5 (a1).toNat) ≤ a2 → Q (.inl (some (zI 1))) m) ∧ (¬ ((zXI xs 5 (a1).toNat) ≤ a2) → (mC m a0 = 13) ∧ (mC m (mR m 773 a0) = 20) ∧ (0 ≤ (mI m 776 a0) ∧ (mI m 776 a0) < mN m (mR m 773 a0)) ∧ (((mA m (mR m 773 a0) (Int.toNat (mI m 776 a0))) ≠ 2 → zC xs xl d 173 [zR a0, zI 0] m (fun r m5 => ∃ v6 : Int, r = .inl (some (zI v6)) ∧ ((v6 ≠ 0 → zW xs xl d cX12_actionForm 12 (some .boolean) false [] 97 [zR a0, zI a1, zI (wr (a2 + 1))] [] m5 Q) ∧ (¬ (v6 ≠ 0) → Q (.inl (some (zI 0))) m5)))) ∧ (¬ ((mA m (mR m 773 a0) (Int.toNat (mI m 776 a0))) ≠ 2) → zC xs xl d 173 [zR a0, zI 1] m (fun r m7 => ∃ v8 : Int, r = .inl (some (zI v8)) ∧ ((v8 ≠ 0 → zW xs xl d cX12_actionForm 12 (some .boolean) false [] 97 [zR a0, zI a1, zI (wr (a2 + 1))] [] m7 Q) ∧ (¬ (v8 ≠ 0) → Q (.inl (some (zI 0))) m7)))))))) : zW xs xl d cX12_actionForm 12 (some .boolean) false [] 97 [zR a0, zI a1, zI a2] [] m Q := by
  refine (zq_iload_n dX12_actionForm_97 rfl).mpr ?_
  refine (zq_gets dX12_actionForm_98 sl_12_118).mpr ?_
  refine (zq_iload_n dX12_actionForm_101 rfl).mpr ?_
  obtain ⟨g1, h⟩ := h
  refine (zq_ialdE dX12_actionForm_102).mpr ⟨g1, ?_⟩
  refine (zq_icmp_ge (t := 139) dX12_actionForm_103 rfl).mpr ⟨fun c => ?_, fun c => ?_⟩
  · replace h := h.1 c
    refine (zq_iconst dX12_actionForm_139 (by decide)).mpr ?_
    exact (zq_iret dX12_actionForm_140 rfl).mpr ⟨by decide, h⟩
  · replace h := h.2 c
    refine (zq_aload_n dX12_actionForm_106 rfl).mpr ?_
    refine (zq_aload_n dX12_actionForm_107 rfl).mpr ?_
    obtain ⟨g2, h⟩ := h
    refine (zq_getR2 (f := 773) (v := (mR m 773 a0)) dX12_actionForm_108 fl_12_17 (by decide) rfl rfl (by first | rfl | simp only [zm_Is, zm_Rs, zm_As, zm_Os, zm_In0, zm_Rn0])).mpr ⟨g2, ?_⟩
    refine (zq_aload_n dX12_actionForm_111 rfl).mpr ?_
    refine (zq_getI2 (f := 776) (v := (mI m 776 a0)) dX12_actionForm_112 fl_12_82 (by decide) rfl rfl (by first | rfl | simp only [zm_Is, zm_Rs, zm_As, zm_Os, zm_In0, zm_Rn0])).mpr ⟨g2, ?_⟩
    obtain ⟨g3, h⟩ := h
    obtain ⟨g4, h⟩ := h
    refine (zq_iald2 (v := (mA m (mR m 773 a0) (Int.toNat (mI m 776 a0)))) dX12_actionForm_115 (by first | rfl | simp only [zm_Is, zm_Rs, zm_As, zm_Os, zm_In0, zm_Rn0])).mpr ⟨⟨g3, g4⟩, ?_⟩
    refine (zq_iconst dX12_actionForm_116 (by decide)).mpr ?_
    refine (zq_icmp_ne (t := 124) dX12_actionForm_117 rfl).mpr ⟨fun c => ?_, fun c => ?_⟩
    · replace h := h.1 c
      refine (zq_iconst dX12_actionForm_124 (by decide)).mpr ?_
      refine zq_virtualI (n := 1) dX12_actionForm_125 mr_12_95 zn_173 rfl rfl rfl (zrcv_R zo_173 (by decide) g2) (Nat.le_of_ble_eq_true rfl) ?_
      refine h.mono (fun r m5 h => ?_)
      obtain ⟨v6, rfl, h⟩ := h
      refine ⟨_, rfl, ?_⟩
      refine (zq_if_ne (t := 133) dX12_actionForm_128 rfl).mpr ⟨fun c => ?_, fun c => ?_⟩
      · replace h := h.1 c
        refine (zq_iinc dX12_actionForm_133 rfl rfl).mpr ?_
        refine (zq_goto (t := 97) dX12_actionForm_136 rfl).mpr ?_
        exact h
      · replace h := h.2 c
        refine (zq_iconst dX12_actionForm_131 (by decide)).mpr ?_
        exact (zq_iret dX12_actionForm_132 rfl).mpr ⟨by decide, h⟩
    · replace h := h.2 c
      refine (zq_iconst dX12_actionForm_120 (by decide)).mpr ?_
      refine (zq_goto (t := 125) dX12_actionForm_121 rfl).mpr ?_
      refine zq_virtualI (n := 1) dX12_actionForm_125 mr_12_95 zn_173 rfl rfl rfl (zrcv_R zo_173 (by decide) g2) (Nat.le_of_ble_eq_true rfl) ?_
      refine h.mono (fun r m7 h => ?_)
      obtain ⟨v8, rfl, h⟩ := h
      refine ⟨_, rfl, ?_⟩
      refine (zq_if_ne (t := 133) dX12_actionForm_128 rfl).mpr ⟨fun c => ?_, fun c => ?_⟩
      · replace h := h.1 c
        refine (zq_iinc dX12_actionForm_133 rfl rfl).mpr ?_
        refine (zq_goto (t := 97) dX12_actionForm_136 rfl).mpr ?_
        exact h
      · replace h := h.2 c
        refine (zq_iconst dX12_actionForm_131 (by decide)).mpr ?_
        exact (zq_iret dX12_actionForm_132 rfl).mpr ⟨by decide, h⟩
theorem bX12_wrong_0 {a0 : Nat} {a1 : Int} {a2 : Int} (h : (mC m a0 = 13) ∧ (mC m (mR m 774 a0) = 20) ∧ (0 ≤ a2 ∧ a2 < mN m (mR m 774 a0)) ∧ Q (.inl (some (zI 0))) (sI (sI m 772 a0 a1) 771 a0 (mA m (mR m 774 a0) (Int.toNat a2)))) : zC xs xl (d + 1) 177 [zR a0, zI a1, zI a2] m Q := by
  refine zk_177 ?_
  refine (zq_aload_n dX12_wrong_0 rfl).mpr ?_
  refine (zq_iload_n dX12_wrong_1 rfl).mpr ?_
  obtain ⟨g1, h⟩ := h
  refine (zq_putI (f := 772) dX12_wrong_2 fl_12_121 (by decide) rfl rfl rfl).mpr ⟨g1, ?_⟩
  refine (zq_aload_n dX12_wrong_5 rfl).mpr ?_
  refine (zq_aload_n dX12_wrong_6 rfl).mpr ?_
  refine (zq_getR2 (f := 774) (v := (mR m 774 a0)) dX12_wrong_7 fl_12_20 (by decide) rfl rfl (by first | rfl | simp only [zm_Is, zm_Rs, zm_As, zm_Os, zm_In0, zm_Rn0])).mpr ⟨g1, ?_⟩
  refine (zq_iload_n dX12_wrong_10 rfl).mpr ?_
  obtain ⟨g2, h⟩ := h
  obtain ⟨g3, h⟩ := h
  refine (zq_iald2 (v := (mA m (mR m 774 a0) (Int.toNat a2))) dX12_wrong_11 (by first | rfl | simp only [zm_Is, zm_Rs, zm_As, zm_Os, zm_In0, zm_Rn0])).mpr ⟨⟨g2, g3⟩, ?_⟩
  refine (zq_putI (f := 771) dX12_wrong_12 fl_12_13 (by decide) rfl rfl rfl).mpr ⟨g1, ?_⟩
  refine (zq_iconst dX12_wrong_15 (by decide)).mpr ?_
  exact (zq_iret dX12_wrong_16 rfl).mpr ⟨by decide, h⟩
theorem bX12_go_0 {a0 : Nat} {a1 : Int} {a2 : Int} (h : (mC m a0 = 13) ∧ zW xs xl d cX12_go 12 (some .boolean) false [] 5 [zR a0, zI a1, zI a2] [] (sI m 776 a0 a1) Q) : zC xs xl (d + 1) 178 [zR a0, zI a1, zI a2] m Q := by
  refine zk_178 ?_
  refine (zq_aload_n dX12_go_0 rfl).mpr ?_
  refine (zq_iload_n dX12_go_1 rfl).mpr ?_
  obtain ⟨g1, h⟩ := h
  refine (zq_putI (f := 776) dX12_go_2 fl_12_82 (by decide) rfl rfl rfl).mpr ⟨g1, ?_⟩
  exact h
theorem bX12_go_5 {a0 : Nat} {a1 : Int} {a2 : Int} (h : (mC m a0 = 13) ∧ (mC m (mR m 773 a0) = 20) ∧ (0 ≤ (mI m 776 a0) ∧ (mI m 776 a0) < mN m (mR m 773 a0)) ∧ (((mA m (mR m 773 a0) (Int.toNat (mI m 776 a0))) = 0 → Q (.inl (some (zI 1))) m) ∧ (¬ ((mA m (mR m 773 a0) (Int.toNat (mI m 776 a0))) = 0) → zC xs xl d 170 [zR a0, zI (mI m 776 a0), zE 29] m (fun r m4 => ∃ v5 : Int, r = .inl (some (zI v5)) ∧ ((v5 ≠ 0 → Q (.inl (some (zI 1))) m4) ∧ (¬ (v5 ≠ 0) → (mC m4 a0 = 13) ∧ zC xs xl d 170 [zR a0, zI (mI m4 776 a0), zE 31] m4 (fun r m7 => ∃ v8 : Int, r = .inl (some (zI v8)) ∧ ((v8 = 0 → (mC m7 a0 = 13) ∧ zC xs xl d 181 [zR a0] m7 (fun r m9 => ∃ v10 : Int, r = .inl (some (zI v10)) ∧ ((v10 ≠ 0 → zW xs xl d cX12_go 12 (some .boolean) false [] 5 [zR a0, zI a1, zI a2] [] m9 Q) ∧ (¬ (v10 ≠ 0) → Q (.inl (some (zI 0))) m9)))) ∧ (¬ (v8 = 0) → (mC m7 a0 = 13) ∧ zC xs xl d 179 [zR a0, zI a2] m7 (fun r m12 => ∃ v13 : Int, r = .inl (some (zI v13)) ∧ ((v13 = 0 → Q (.inl (some (zI 0))) m12) ∧ (¬ (v13 = 0) → zW xs xl d cX12_go 12 (some .boolean) false [] 5 [zR a0, zI a1, zI a2] [] m12 Q)))))))))))) : zW xs xl d cX12_go 12 (some .boolean) false [] 5 [zR a0, zI a1, zI a2] [] m Q := by
  refine (zq_aload_n dX12_go_5 rfl).mpr ?_
  obtain ⟨g1, h⟩ := h
  refine (zq_getR2 (f := 773) (v := (mR m 773 a0)) dX12_go_6 fl_12_17 (by decide) rfl rfl (by first | rfl | simp only [zm_Is, zm_Rs, zm_As, zm_Os, zm_In0, zm_Rn0])).mpr ⟨g1, ?_⟩
  refine (zq_aload_n dX12_go_9 rfl).mpr ?_
  refine (zq_getI2 (f := 776) (v := (mI m 776 a0)) dX12_go_10 fl_12_82 (by decide) rfl rfl (by first | rfl | simp only [zm_Is, zm_Rs, zm_As, zm_Os, zm_In0, zm_Rn0])).mpr ⟨g1, ?_⟩
  obtain ⟨g2, h⟩ := h
  obtain ⟨g3, h⟩ := h
  refine (zq_iald2 (v := (mA m (mR m 773 a0) (Int.toNat (mI m 776 a0)))) dX12_go_13 (by first | rfl | simp only [zm_Is, zm_Rs, zm_As, zm_Os, zm_In0, zm_Rn0])).mpr ⟨⟨g2, g3⟩, ?_⟩
  refine (zq_if_eq (t := 63) dX12_go_14 rfl).mpr ⟨fun c => ?_, fun c => ?_⟩
  · replace h := h.1 c
    refine (zq_iconst dX12_go_63 (by decide)).mpr ?_
    exact (zq_iret dX12_go_64 rfl).mpr ⟨by decide, h⟩
  · replace h := h.2 c
    refine (zq_aload_n dX12_go_17 rfl).mpr ?_
    refine (zq_aload_n dX12_go_18 rfl).mpr ?_
    refine (zq_getI2 (f := 776) (v := (mI m 776 a0)) dX12_go_19 fl_12_82 (by decide) rfl rfl (by first | rfl | simp only [zm_Is, zm_Rs, zm_As, zm_Os, zm_In0, zm_Rn0])).mpr ⟨g1, ?_⟩
    refine (zq_ldc dX12_go_22 ck_12_89).mpr ?_
    refine zq_virtualI (n := 2) dX12_go_24 mr_12_78 zn_170 rfl rfl rfl (zrcv_R zo_170 (by decide) g1) (Nat.le_of_ble_eq_true rfl) ?_
    refine h.mono (fun r m4 h => ?_)
    obtain ⟨v5, rfl, h⟩ := h
    refine ⟨_, rfl, ?_⟩
    refine (zq_if_ne (t := 63) dX12_go_27 rfl).mpr ⟨fun c => ?_, fun c => ?_⟩
    · replace h := h.1 c
      refine (zq_iconst dX12_go_63 (by decide)).mpr ?_
      exact (zq_iret dX12_go_64 rfl).mpr ⟨by decide, h⟩
    · replace h := h.2 c
      refine (zq_aload_n dX12_go_30 rfl).mpr ?_
      refine (zq_aload_n dX12_go_31 rfl).mpr ?_
      obtain ⟨g6, h⟩ := h
      refine (zq_getI2 (f := 776) (v := (mI m4 776 a0)) dX12_go_32 fl_12_82 (by decide) rfl rfl (by first | rfl | simp only [zm_Is, zm_Rs, zm_As, zm_Os, zm_In0, zm_Rn0])).mpr ⟨g6, ?_⟩
      refine (zq_ldc dX12_go_35 ck_12_93).mpr ?_
      refine zq_virtualI (n := 2) dX12_go_37 mr_12_78 zn_170 rfl rfl rfl (zrcv_R zo_170 (by decide) g6) (Nat.le_of_ble_eq_true rfl) ?_
      refine h.mono (fun r m7 h => ?_)
      obtain ⟨v8, rfl, h⟩ := h
      refine ⟨_, rfl, ?_⟩
      refine (zq_if_eq (t := 54) dX12_go_40 rfl).mpr ⟨fun c => ?_, fun c => ?_⟩
      · replace h := h.1 c
        refine (zq_aload_n dX12_go_54 rfl).mpr ?_
        obtain ⟨g11, h⟩ := h
        refine zq_virtualI (n := 0) dX12_go_55 mr_12_127 zn_181 rfl rfl rfl (zrcv_R zo_181 (by decide) g11) (Nat.le_of_ble_eq_true rfl) ?_
        refine h.mono (fun r m9 h => ?_)
        obtain ⟨v10, rfl, h⟩ := h
        refine ⟨_, rfl, ?_⟩
        refine (zq_if_ne (t := 5) dX12_go_58 rfl).mpr ⟨fun c => ?_, fun c => ?_⟩
        · replace h := h.1 c
          exact h
        · replace h := h.2 c
          refine (zq_iconst dX12_go_61 (by decide)).mpr ?_
          exact (zq_iret dX12_go_62 rfl).mpr ⟨by decide, h⟩
      · replace h := h.2 c
        refine (zq_aload_n dX12_go_43 rfl).mpr ?_
        refine (zq_iload_n dX12_go_44 rfl).mpr ?_
        obtain ⟨g14, h⟩ := h
        refine zq_virtualI (n := 1) dX12_go_45 mr_12_124 zn_179 rfl rfl rfl (zrcv_R zo_179 (by decide) g14) (Nat.le_of_ble_eq_true rfl) ?_
        refine h.mono (fun r m12 h => ?_)
        obtain ⟨v13, rfl, h⟩ := h
        refine ⟨_, rfl, ?_⟩
        refine (zq_if_eq (t := 61) dX12_go_48 rfl).mpr ⟨fun c => ?_, fun c => ?_⟩
        · replace h := h.1 c
          refine (zq_iconst dX12_go_61 (by decide)).mpr ?_
          exact (zq_iret dX12_go_62 rfl).mpr ⟨by decide, h⟩
        · replace h := h.2 c
          refine (zq_goto (t := 5) dX12_go_51 rfl).mpr ?_
          exact h
theorem bX12_goTimes_0 {a0 : Nat} {a1 : Int} (h : ((a1 ≠ 3 → (mC m a0 = 13) ∧ zC xs xl d 172 [zR a0, zI (wr ((mI m 776 a0) + 1))] m (fun r m2 => ∃ v3 : Int, r = .inl (some (zI v3)) ∧ zC xs xl d 163 [zI v3, zI 1, zI 9] m2 (fun r m4 => ∃ v5 : Int, r = .inl (some (zI v5)) ∧ ((v5 ≠ 0 → (mC m4 a0 = 13) ∧ zC xs xl d 172 [zR a0, zI (wr ((mI m 776 a0) + 1))] m4 (fun r m6 => ∃ v7 : Int, r = .inl (some (zI v7)) ∧ zW xs xl d cX12_goTimes 12 (some .boolean) false [] 52 [zR a0, zI a1, zI (wr ((mI m 776 a0) + 1)), zI v7, zI 0] [] m6 Q)) ∧ (¬ (v5 ≠ 0) → (mC m4 a0 = 13) ∧ zC xs xl d 177 [zR a0, zI 2, zI (wr ((mI m 776 a0) + 1))] m4 (fun r m9 => ∃ v10 : Int, r = .inl (some (zI v10)) ∧ (v10 = 0 ∨ v10 = 1) ∧ Q (.inl (some (zI v10))) m9)))))) ∧ (¬ (a1 ≠ 3) → (mC m a0 = 13) ∧ zC xs xl d 177 [zR a0, zI 4, zI (mI m 776 a0)] m (fun r m14 => ∃ v15 : Int, r = .inl (some (zI v15)) ∧ (v15 = 0 ∨ v15 = 1) ∧ Q (.inl (some (zI v15))) m14)))) : zC xs xl (d + 1) 179 [zR a0, zI a1] m Q := by
  refine zk_179 ?_
  refine (zq_iload_n dX12_goTimes_0 rfl).mpr ?_
  refine (zq_iconst dX12_goTimes_1 (by decide)).mpr ?_
  refine (zq_icmp_ne (t := 15) dX12_goTimes_2 rfl).mpr ⟨fun c => ?_, fun c => ?_⟩
  · replace h := h.1 c
    refine (zq_aload_n dX12_goTimes_15 rfl).mpr ?_
    obtain ⟨g1, h⟩ := h
    refine (zq_getI2 (f := 776) (v := (mI m 776 a0)) dX12_goTimes_16 fl_12_82 (by decide) rfl rfl (by first | rfl | simp only [zm_Is, zm_Rs, zm_As, zm_Os, zm_In0, zm_Rn0])).mpr ⟨g1, ?_⟩
    refine (zq_iconst dX12_goTimes_19 (by decide)).mpr ?_
    refine (zq_iadd dX12_goTimes_20).mpr ?_
    refine (zq_istore_n dX12_goTimes_21 (by simp) rfl).mpr ?_
    refine (zq_aload_n dX12_goTimes_22 rfl).mpr ?_
    refine (zq_iload_n dX12_goTimes_23 rfl).mpr ?_
    refine zq_virtualI (n := 1) dX12_goTimes_24 mr_12_134 zn_172 rfl rfl rfl (zrcv_R zo_172 (by decide) g1) (Nat.le_of_ble_eq_true rfl) ?_
    refine h.mono (fun r m2 h => ?_)
    obtain ⟨v3, rfl, h⟩ := h
    refine ⟨_, rfl, ?_⟩
    refine (zq_iconst dX12_goTimes_27 (by decide)).mpr ?_
    refine (zq_bipush dX12_goTimes_28 (by decide)).mpr ?_
    refine zq_staticI (n := 3) dX12_goTimes_30 mr_12_55 zn_163 rfl rfl (Nat.le_of_ble_eq_true rfl) (Nat.le_of_ble_eq_true rfl) ?_
    refine h.mono (fun r m4 h => ?_)
    obtain ⟨v5, rfl, h⟩ := h
    refine ⟨_, rfl, ?_⟩
    refine (zq_if_ne (t := 43) dX12_goTimes_33 rfl).mpr ⟨fun c => ?_, fun c => ?_⟩
    · replace h := h.1 c
      refine (zq_aload_n dX12_goTimes_43 rfl).mpr ?_
      refine (zq_iload_n dX12_goTimes_44 rfl).mpr ?_
      obtain ⟨g8, h⟩ := h
      refine zq_virtualI (n := 1) dX12_goTimes_45 mr_12_134 zn_172 rfl rfl rfl (zrcv_R zo_172 (by decide) g8) (Nat.le_of_ble_eq_true rfl) ?_
      refine h.mono (fun r m6 h => ?_)
      obtain ⟨v7, rfl, h⟩ := h
      refine ⟨_, rfl, ?_⟩
      refine (zq_istore_n dX12_goTimes_48 (by simp) rfl).mpr ?_
      refine (zq_iconst dX12_goTimes_49 (by decide)).mpr ?_
      refine (zq_istore dX12_goTimes_50 (by simp) rfl).mpr ?_
      exact h
    · replace h := h.2 c
      refine (zq_aload_n dX12_goTimes_36 rfl).mpr ?_
      refine (zq_iconst dX12_goTimes_37 (by decide)).mpr ?_
      refine (zq_iload_n dX12_goTimes_38 rfl).mpr ?_
      obtain ⟨g11, h⟩ := h
      refine zq_virtualI (n := 2) dX12_goTimes_39 mr_12_130 zn_177 rfl rfl rfl (zrcv_R zo_177 (by decide) g11) (Nat.le_of_ble_eq_true rfl) ?_
      refine h.mono (fun r m9 h => ?_)
      obtain ⟨v10, rfl, h⟩ := h
      refine ⟨_, rfl, ?_⟩
      obtain ⟨g12, h⟩ := h
      exact (zq_iret dX12_goTimes_42 rfl).mpr ⟨g12, h⟩
  · replace h := h.2 c
    refine (zq_aload_n dX12_goTimes_5 rfl).mpr ?_
    refine (zq_iconst dX12_goTimes_6 (by decide)).mpr ?_
    refine (zq_aload_n dX12_goTimes_7 rfl).mpr ?_
    obtain ⟨g13, h⟩ := h
    refine (zq_getI2 (f := 776) (v := (mI m 776 a0)) dX12_goTimes_8 fl_12_82 (by decide) rfl rfl (by first | rfl | simp only [zm_Is, zm_Rs, zm_As, zm_Os, zm_In0, zm_Rn0])).mpr ⟨g13, ?_⟩
    refine zq_virtualI (n := 2) dX12_goTimes_11 mr_12_130 zn_177 rfl rfl rfl (zrcv_R zo_177 (by decide) g13) (Nat.le_of_ble_eq_true rfl) ?_
    refine h.mono (fun r m14 h => ?_)
    obtain ⟨v15, rfl, h⟩ := h
    refine ⟨_, rfl, ?_⟩
    obtain ⟨g16, h⟩ := h
    exact (zq_iret dX12_goTimes_14 rfl).mpr ⟨g16, h⟩
theorem bX12_goTimes_52 {a0 : Nat} {a1 : Int} {a2 : Int} {a3 : Int} {a4 : Int} (h : ((a3 ≤ a4 → (mC m a0 = 13) ∧ Q (.inl (some (zI 1))) (sI m 776 a0 (wr ((mI m 776 a0) + 1)))) ∧ (¬ (a3 ≤ a4) → (mC m a0 = 13) ∧ zC xs xl d 178 [zR a0, zI (wr (a2 + 2)), zI (wr (a1 + 1))] m (fun r m2 => ∃ v3 : Int, r = .inl (some (zI v3)) ∧ ((v3 ≠ 0 → zW xs xl d cX12_goTimes 12 (some .boolean) false [] 52 [zR a0, zI a1, zI a2, zI a3, zI (wr (a4 + 1))] [] m2 Q) ∧ (¬ (v3 ≠ 0) → Q (.inl (some (zI 0))) m2)))))) : zW xs xl d cX12_goTimes 12 (some .boolean) false [] 52 [zR a0, zI a1, zI a2, zI a3, zI a4] [] m Q := by
  refine (zq_iload dX12_goTimes_52 rfl).mpr ?_
  refine (zq_iload_n dX12_goTimes_54 rfl).mpr ?_
  refine (zq_icmp_ge (t := 79) dX12_goTimes_55 rfl).mpr ⟨fun c => ?_, fun c => ?_⟩
  · replace h := h.1 c
    refine (zq_aload_n dX12_goTimes_79 rfl).mpr ?_
    refine (zq_dupR dX12_goTimes_80).mpr ?_
    obtain ⟨g1, h⟩ := h
    refine (zq_getI2 (f := 776) (v := (mI m 776 a0)) dX12_goTimes_81 fl_12_82 (by decide) rfl rfl (by first | rfl | simp only [zm_Is, zm_Rs, zm_As, zm_Os, zm_In0, zm_Rn0])).mpr ⟨g1, ?_⟩
    refine (zq_iconst dX12_goTimes_84 (by decide)).mpr ?_
    refine (zq_iadd dX12_goTimes_85).mpr ?_
    refine (zq_putI (f := 776) dX12_goTimes_86 fl_12_82 (by decide) rfl rfl rfl).mpr ⟨g1, ?_⟩
    refine (zq_iconst dX12_goTimes_89 (by decide)).mpr ?_
    exact (zq_iret dX12_goTimes_90 rfl).mpr ⟨by decide, h⟩
  · replace h := h.2 c
    refine (zq_aload_n dX12_goTimes_58 rfl).mpr ?_
    refine (zq_iload_n dX12_goTimes_59 rfl).mpr ?_
    refine (zq_iconst dX12_goTimes_60 (by decide)).mpr ?_
    refine (zq_iadd dX12_goTimes_61).mpr ?_
    refine (zq_iload_n dX12_goTimes_62 rfl).mpr ?_
    refine (zq_iconst dX12_goTimes_63 (by decide)).mpr ?_
    refine (zq_iadd dX12_goTimes_64).mpr ?_
    obtain ⟨g4, h⟩ := h
    refine zq_virtualI (n := 2) dX12_goTimes_65 mr_12_137 zn_178 rfl rfl rfl (zrcv_R zo_178 (by decide) g4) (Nat.le_of_ble_eq_true rfl) ?_
    refine h.mono (fun r m2 h => ?_)
    obtain ⟨v3, rfl, h⟩ := h
    refine ⟨_, rfl, ?_⟩
    refine (zq_if_ne (t := 73) dX12_goTimes_68 rfl).mpr ⟨fun c => ?_, fun c => ?_⟩
    · replace h := h.1 c
      refine (zq_iinc dX12_goTimes_73 rfl rfl).mpr ?_
      refine (zq_goto (t := 52) dX12_goTimes_76 rfl).mpr ?_
      exact h
    · replace h := h.2 c
      refine (zq_iconst dX12_goTimes_71 (by decide)).mpr ?_
      exact (zq_iret dX12_goTimes_72 rfl).mpr ⟨by decide, h⟩
theorem bX12_isMisplaced_0 {a0 : Nat} {a1 : Int} {a2 : Int} (h : ((a1 ≠ 0 → ((a1 ≠ 1 → ((a1 ≠ 2 → (mC m a0 = 13) ∧ (((mI m 781 a0) = 0 → Q (.inl (some (zI 1))) m) ∧ (¬ ((mI m 781 a0) = 0) → ((a1 ≠ 6 → zW xs xl d cX12_isMisplaced 12 (some .boolean) false [] 74 [zR a0, zI a1, zI a2] [] m Q) ∧ (¬ (a1 ≠ 6) → (((mI m 783 a0) = 0 → Q (.inl (some (zI 1))) m) ∧ (¬ ((mI m 783 a0) = 0) → zW xs xl d cX12_isMisplaced 12 (some .boolean) false [] 74 [zR a0, zI a1, zI a2] [] m Q))))))) ∧ (¬ (a1 ≠ 2) → (mC m a0 = 13) ∧ ((mI m 781 a0) = 0 ∨ (mI m 781 a0) = 1) ∧ Q (.inl (some (zI (mI m 781 a0)))) m))) ∧ (¬ (a1 ≠ 1) → (mC m a0 = 13) ∧ (((bAnd (bShr (mI m 783 a0) a2) 1) ≠ 0 → Q (.inl (some (zI 0))) m) ∧ (¬ ((bAnd (bShr (mI m 783 a0) a2) 1) ≠ 0) → Q (.inl (some (zI 1))) m))))) ∧ (¬ (a1 ≠ 0) → (mC m a0 = 13) ∧ (((bAnd (bShr (mI m 783 a0) a2) 1) ≠ 1 → Q (.inl (some (zI 0))) m) ∧ (¬ ((bAnd (bShr (mI m 783 a0) a2) 1) ≠ 1) → Q (.inl (some (zI 1))) m))))) : zC xs xl (d + 1) 180 [zR a0, zI a1, zI a2] m Q := by
  refine zk_180 ?_
  refine (zq_iload_n dX12_isMisplaced_0 rfl).mpr ?_
  refine (zq_if_ne (t := 22) dX12_isMisplaced_1 rfl).mpr ⟨fun c => ?_, fun c => ?_⟩
  · replace h := h.1 c
    refine (zq_iload_n dX12_isMisplaced_22 rfl).mpr ?_
    refine (zq_iconst dX12_isMisplaced_23 (by decide)).mpr ?_
    refine (zq_icmp_ne (t := 44) dX12_isMisplaced_24 rfl).mpr ⟨fun c => ?_, fun c => ?_⟩
    · replace h := h.1 c
      refine (zq_iload_n dX12_isMisplaced_44 rfl).mpr ?_
      refine (zq_iconst dX12_isMisplaced_45 (by decide)).mpr ?_
      refine (zq_icmp_ne (t := 54) dX12_isMisplaced_46 rfl).mpr ⟨fun c => ?_, fun c => ?_⟩
      · replace h := h.1 c
        refine (zq_aload_n dX12_isMisplaced_54 rfl).mpr ?_
        obtain ⟨g1, h⟩ := h
        refine (zq_getI2 (f := 781) (v := (mI m 781 a0)) dX12_isMisplaced_55 fl_12_143 (by decide) rfl rfl (by first | rfl | simp only [zm_Is, zm_Rs, zm_As, zm_Os, zm_In0, zm_Rn0])).mpr ⟨g1, ?_⟩
        refine (zq_if_eq (t := 87) dX12_isMisplaced_58 rfl).mpr ⟨fun c => ?_, fun c => ?_⟩
        · replace h := h.1 c
          refine (zq_iconst dX12_isMisplaced_87 (by decide)).mpr ?_
          refine (zq_goto (t := 92) dX12_isMisplaced_88 rfl).mpr ?_
          exact (zq_iret dX12_isMisplaced_92 rfl).mpr ⟨by decide, h⟩
        · replace h := h.2 c
          refine (zq_iload_n dX12_isMisplaced_61 rfl).mpr ?_
          refine (zq_bipush dX12_isMisplaced_62 (by decide)).mpr ?_
          refine (zq_icmp_ne (t := 74) dX12_isMisplaced_64 rfl).mpr ⟨fun c => ?_, fun c => ?_⟩
          · replace h := h.1 c
            exact h
          · replace h := h.2 c
            refine (zq_aload_n dX12_isMisplaced_67 rfl).mpr ?_
            refine (zq_getI2 (f := 783) (v := (mI m 783 a0)) dX12_isMisplaced_68 fl_12_140 (by decide) rfl rfl (by first | rfl | simp only [zm_Is, zm_Rs, zm_As, zm_Os, zm_In0, zm_Rn0])).mpr ⟨g1, ?_⟩
            refine (zq_if_eq (t := 87) dX12_isMisplaced_71 rfl).mpr ⟨fun c => ?_, fun c => ?_⟩
            · replace h := h.1 c
              refine (zq_iconst dX12_isMisplaced_87 (by decide)).mpr ?_
              refine (zq_goto (t := 92) dX12_isMisplaced_88 rfl).mpr ?_
              exact (zq_iret dX12_isMisplaced_92 rfl).mpr ⟨by decide, h⟩
            · replace h := h.2 c
              exact h
      · replace h := h.2 c
        refine (zq_aload_n dX12_isMisplaced_49 rfl).mpr ?_
        obtain ⟨g2, h⟩ := h
        refine (zq_getI2 (f := 781) (v := (mI m 781 a0)) dX12_isMisplaced_50 fl_12_143 (by decide) rfl rfl (by first | rfl | simp only [zm_Is, zm_Rs, zm_As, zm_Os, zm_In0, zm_Rn0])).mpr ⟨g2, ?_⟩
        obtain ⟨g3, h⟩ := h
        exact (zq_iret dX12_isMisplaced_53 rfl).mpr ⟨g3, h⟩
    · replace h := h.2 c
      refine (zq_aload_n dX12_isMisplaced_27 rfl).mpr ?_
      obtain ⟨g4, h⟩ := h
      refine (zq_getI2 (f := 783) (v := (mI m 783 a0)) dX12_isMisplaced_28 fl_12_140 (by decide) rfl rfl (by first | rfl | simp only [zm_Is, zm_Rs, zm_As, zm_Os, zm_In0, zm_Rn0])).mpr ⟨g4, ?_⟩
      refine (zq_iload_n dX12_isMisplaced_31 rfl).mpr ?_
      refine (zq_ishr dX12_isMisplaced_32).mpr ?_
      refine (zq_iconst dX12_isMisplaced_33 (by decide)).mpr ?_
      refine (zq_iand dX12_isMisplaced_34).mpr ?_
      refine (zq_if_ne (t := 42) dX12_isMisplaced_35 rfl).mpr ⟨fun c => ?_, fun c => ?_⟩
      · replace h := h.1 c
        refine (zq_iconst dX12_isMisplaced_42 (by decide)).mpr ?_
        exact (zq_iret dX12_isMisplaced_43 rfl).mpr ⟨by decide, h⟩
      · replace h := h.2 c
        refine (zq_iconst dX12_isMisplaced_38 (by decide)).mpr ?_
        refine (zq_goto (t := 43) dX12_isMisplaced_39 rfl).mpr ?_
        exact (zq_iret dX12_isMisplaced_43 rfl).mpr ⟨by decide, h⟩
  · replace h := h.2 c
    refine (zq_aload_n dX12_isMisplaced_4 rfl).mpr ?_
    obtain ⟨g5, h⟩ := h
    refine (zq_getI2 (f := 783) (v := (mI m 783 a0)) dX12_isMisplaced_5 fl_12_140 (by decide) rfl rfl (by first | rfl | simp only [zm_Is, zm_Rs, zm_As, zm_Os, zm_In0, zm_Rn0])).mpr ⟨g5, ?_⟩
    refine (zq_iload_n dX12_isMisplaced_8 rfl).mpr ?_
    refine (zq_ishr dX12_isMisplaced_9).mpr ?_
    refine (zq_iconst dX12_isMisplaced_10 (by decide)).mpr ?_
    refine (zq_iand dX12_isMisplaced_11).mpr ?_
    refine (zq_iconst dX12_isMisplaced_12 (by decide)).mpr ?_
    refine (zq_icmp_ne (t := 20) dX12_isMisplaced_13 rfl).mpr ⟨fun c => ?_, fun c => ?_⟩
    · replace h := h.1 c
      refine (zq_iconst dX12_isMisplaced_20 (by decide)).mpr ?_
      exact (zq_iret dX12_isMisplaced_21 rfl).mpr ⟨by decide, h⟩
    · replace h := h.2 c
      refine (zq_iconst dX12_isMisplaced_16 (by decide)).mpr ?_
      refine (zq_goto (t := 21) dX12_isMisplaced_17 rfl).mpr ?_
      exact (zq_iret dX12_isMisplaced_21 rfl).mpr ⟨by decide, h⟩
theorem bX12_isMisplaced_74 {a0 : Nat} {a1 : Int} {a2 : Int} (h : ((a1 ≠ 7 → Q (.inl (some (zI 0))) m) ∧ (¬ (a1 ≠ 7) → (mC m a0 = 13) ∧ (((mI m 782 a0) ≠ 0 → Q (.inl (some (zI 0))) m) ∧ (¬ ((mI m 782 a0) ≠ 0) → Q (.inl (some (zI 1))) m))))) : zW xs xl d cX12_isMisplaced 12 (some .boolean) false [] 74 [zR a0, zI a1, zI a2] [] m Q := by
  refine (zq_iload_n dX12_isMisplaced_74 rfl).mpr ?_
  refine (zq_bipush dX12_isMisplaced_75 (by decide)).mpr ?_
  refine (zq_icmp_ne (t := 91) dX12_isMisplaced_77 rfl).mpr ⟨fun c => ?_, fun c => ?_⟩
  · replace h := h.1 c
    refine (zq_iconst dX12_isMisplaced_91 (by decide)).mpr ?_
    exact (zq_iret dX12_isMisplaced_92 rfl).mpr ⟨by decide, h⟩
  · replace h := h.2 c
    refine (zq_aload_n dX12_isMisplaced_80 rfl).mpr ?_
    obtain ⟨g1, h⟩ := h
    refine (zq_getI2 (f := 782) (v := (mI m 782 a0)) dX12_isMisplaced_81 fl_12_147 (by decide) rfl rfl (by first | rfl | simp only [zm_Is, zm_Rs, zm_As, zm_Os, zm_In0, zm_Rn0])).mpr ⟨g1, ?_⟩
    refine (zq_if_ne (t := 91) dX12_isMisplaced_84 rfl).mpr ⟨fun c => ?_, fun c => ?_⟩
    · replace h := h.1 c
      refine (zq_iconst dX12_isMisplaced_91 (by decide)).mpr ?_
      exact (zq_iret dX12_isMisplaced_92 rfl).mpr ⟨by decide, h⟩
    · replace h := h.2 c
      refine (zq_iconst dX12_isMisplaced_87 (by decide)).mpr ?_
      refine (zq_goto (t := 92) dX12_isMisplaced_88 rfl).mpr ?_
      exact (zq_iret dX12_isMisplaced_92 rfl).mpr ⟨by decide, h⟩
theorem bX12_goAction_0 {a0 : Nat} (h : (mC m a0 = 13) ∧ zC xs xl d 171 [zR a0, zI (mI m 776 a0), zE 1] m (fun r m2 => ∃ v3 : Int, r = .inl (some (zI v3)) ∧ ((1 < v3 → ((v3 ≠ 2 → zW xs xl d cX12_goAction 12 (some .boolean) false [] 55 [zR a0, zI v3, zU, zU, zU, zU] [zI 0] m2 Q) ∧ (¬ (v3 ≠ 2) → (mC m2 a0 = 13) ∧ zC xs xl d 171 [zR a0, zI (wr ((mI m2 776 a0) + 1)), zE 3] m2 (fun r m5 => ∃ v6 : Int, r = .inl (some (zI v6)) ∧ zW xs xl d cX12_goAction 12 (some .boolean) false [] 55 [zR a0, zI v3, zU, zU, zU, zU] [zI v6] m5 Q)))) ∧ (¬ (1 < v3) → (mC m2 a0 = 13) ∧ zC xs xl d 171 [zR a0, zI (wr ((mI m2 776 a0) + 1)), zE 2] m2 (fun r m8 => ∃ v9 : Int, r = .inl (some (zI v9)) ∧ zW xs xl d cX12_goAction 12 (some .boolean) false [] 55 [zR a0, zI v3, zU, zU, zU, zU] [zI v9] m8 Q))))) : zC xs xl (d + 1) 181 [zR a0] m Q := by
  refine zk_181 ?_
  refine (zq_aload_n dX12_goAction_0 rfl).mpr ?_
  refine (zq_aload_n dX12_goAction_1 rfl).mpr ?_
  obtain ⟨g1, h⟩ := h
  refine (zq_getI2 (f := 776) (v := (mI m 776 a0)) dX12_goAction_2 fl_12_82 (by decide) rfl rfl (by first | rfl | simp only [zm_Is, zm_Rs, zm_As, zm_Os, zm_In0, zm_Rn0])).mpr ⟨g1, ?_⟩
  refine (zq_gets dX12_goAction_5 sl_12_104).mpr ?_
  refine zq_virtualI (n := 2) dX12_goAction_8 mr_12_108 zn_171 rfl rfl rfl (zrcv_R zo_171 (by decide) g1) (Nat.le_of_ble_eq_true rfl) ?_
  refine h.mono (fun r m2 h => ?_)
  obtain ⟨v3, rfl, h⟩ := h
  refine ⟨_, rfl, ?_⟩
  refine (zq_istore_n dX12_goAction_11 (by simp) rfl).mpr ?_
  refine (zq_iload_n dX12_goAction_12 rfl).mpr ?_
  refine (zq_iconst dX12_goAction_13 (by decide)).mpr ?_
  refine (zq_icmp_gt (t := 33) dX12_goAction_14 rfl).mpr ⟨fun c => ?_, fun c => ?_⟩
  · replace h := h.1 c
    refine (zq_iload_n dX12_goAction_33 rfl).mpr ?_
    refine (zq_iconst dX12_goAction_34 (by decide)).mpr ?_
    refine (zq_icmp_ne (t := 54) dX12_goAction_35 rfl).mpr ⟨fun c => ?_, fun c => ?_⟩
    · replace h := h.1 c
      refine (zq_iconst dX12_goAction_54 (by decide)).mpr ?_
      exact h
    · replace h := h.2 c
      refine (zq_aload_n dX12_goAction_38 rfl).mpr ?_
      refine (zq_aload_n dX12_goAction_39 rfl).mpr ?_
      obtain ⟨g4, h⟩ := h
      refine (zq_getI2 (f := 776) (v := (mI m2 776 a0)) dX12_goAction_40 fl_12_82 (by decide) rfl rfl (by first | rfl | simp only [zm_Is, zm_Rs, zm_As, zm_Os, zm_In0, zm_Rn0])).mpr ⟨g4, ?_⟩
      refine (zq_iconst dX12_goAction_43 (by decide)).mpr ?_
      refine (zq_iadd dX12_goAction_44).mpr ?_
      refine (zq_gets dX12_goAction_45 sl_12_115).mpr ?_
      refine zq_virtualI (n := 2) dX12_goAction_48 mr_12_108 zn_171 rfl rfl rfl (zrcv_R zo_171 (by decide) g4) (Nat.le_of_ble_eq_true rfl) ?_
      refine h.mono (fun r m5 h => ?_)
      obtain ⟨v6, rfl, h⟩ := h
      refine ⟨_, rfl, ?_⟩
      refine (zq_goto (t := 55) dX12_goAction_51 rfl).mpr ?_
      exact h
  · replace h := h.2 c
    refine (zq_aload_n dX12_goAction_17 rfl).mpr ?_
    refine (zq_aload_n dX12_goAction_18 rfl).mpr ?_
    obtain ⟨g7, h⟩ := h
    refine (zq_getI2 (f := 776) (v := (mI m2 776 a0)) dX12_goAction_19 fl_12_82 (by decide) rfl rfl (by first | rfl | simp only [zm_Is, zm_Rs, zm_As, zm_Os, zm_In0, zm_Rn0])).mpr ⟨g7, ?_⟩
    refine (zq_iconst dX12_goAction_22 (by decide)).mpr ?_
    refine (zq_iadd dX12_goAction_23).mpr ?_
    refine (zq_gets dX12_goAction_24 sl_12_112).mpr ?_
    refine zq_virtualI (n := 2) dX12_goAction_27 mr_12_108 zn_171 rfl rfl rfl (zrcv_R zo_171 (by decide) g7) (Nat.le_of_ble_eq_true rfl) ?_
    refine h.mono (fun r m8 h => ?_)
    obtain ⟨v9, rfl, h⟩ := h
    refine ⟨_, rfl, ?_⟩
    refine (zq_goto (t := 55) dX12_goAction_30 rfl).mpr ?_
    exact h
theorem bX12_goAction_55 {a0 : Nat} {a1 : Int} {a2 : zV} {a3 : zV} {a4 : zV} {a5 : zV} {s0 : Int} (h : (mC m a0 = 13) ∧ zC xs xl d 180 [zR a0, zI a1, zI s0] m (fun r m1 => ∃ v2 : Int, r = .inl (some (zI v2)) ∧ ((v2 = 0 → (mC m1 a0 = 13) ∧ (((mI m1 779 a0) ≠ 60 → (0 ≤ (wr (4 * (mI m1 779 a0))) ∧ (wr (4 * (mI m1 779 a0))) < mN m1 (mR m1 780 a0)) ∧ (mC m1 (mR m1 780 a0) = 20) ∧ (0 ≤ (wr ((wr (4 * (mI m1 779 a0))) + 1)) ∧ (wr ((wr (4 * (mI m1 779 a0))) + 1)) < mN m1 (mR m1 780 a0)) ∧ ((2 < a1 → zW xs xl d cX12_goAction 12 (some .boolean) false [] 139 [zR a0, zI a1, zI s0, zI (wr (4 * (mI m1 779 a0))), zI 0, a5] [] (sI (sA (sA m1 (mR m1 780 a0) (Int.toNat (wr (4 * (mI m1 779 a0)))) a1) (mR m1 780 a0) (Int.toNat (wr ((wr (4 * (mI m1 779 a0))) + 1))) s0) 776 a0 (wr ((mI m1 776 a0) + 1))) Q) ∧ (¬ (2 < a1) → zW xs xl d cX12_goAction 12 (some .boolean) false [] 139 [zR a0, zI a1, zI s0, zI (wr (4 * (mI m1 779 a0))), zI 0, a5] [] (sI (sA (sA m1 (mR m1 780 a0) (Int.toNat (wr (4 * (mI m1 779 a0)))) a1) (mR m1 780 a0) (Int.toNat (wr ((wr (4 * (mI m1 779 a0))) + 1))) s0) 776 a0 (wr ((mI m1 776 a0) + 2))) Q))) ∧ (¬ ((mI m1 779 a0) ≠ 60) → zC xs xl d 177 [zR a0, zI 4, zI (mI m1 776 a0)] m1 (fun r m8 => ∃ v9 : Int, r = .inl (some (zI v9)) ∧ (v9 = 0 ∨ v9 = 1) ∧ Q (.inl (some (zI v9))) m8)))) ∧ (¬ (v2 = 0) → (mC m1 a0 = 13) ∧ zC xs xl d 177 [zR a0, zI 3, zI (mI m1 776 a0)] m1 (fun r m12 => ∃ v13 : Int, r = .inl (some (zI v13)) ∧ (v13 = 0 ∨ v13 = 1) ∧ Q (.inl (some (zI v13))) m12))))) : zW xs xl d cX12_goAction 12 (some .boolean) false [] 55 [zR a0, zI a1, a2, a3, a4, a5] [zI s0] m Q := by
  refine (zq_istore_n dX12_goAction_55 (by simp) rfl).mpr ?_
  refine (zq_aload_n dX12_goAction_56 rfl).mpr ?_
  refine (zq_iload_n dX12_goAction_57 rfl).mpr ?_
  refine (zq_iload_n dX12_goAction_58 rfl).mpr ?_
  obtain ⟨g3, h⟩ := h
  refine zq_virtualI (n := 2) dX12_goAction_59 mr_12_150 zn_180 rfl rfl rfl (zrcv_R zo_180 (by decide) g3) (Nat.le_of_ble_eq_true rfl) ?_
  refine h.mono (fun r m1 h => ?_)
  obtain ⟨v2, rfl, h⟩ := h
  refine ⟨_, rfl, ?_⟩
  refine (zq_if_eq (t := 75) dX12_goAction_62 rfl).mpr ⟨fun c => ?_, fun c => ?_⟩
  · replace h := h.1 c
    refine (zq_aload_n dX12_goAction_75 rfl).mpr ?_
    obtain ⟨g4, h⟩ := h
    refine (zq_getI2 (f := 779) (v := (mI m1 779 a0)) dX12_goAction_76 fl_12_153 (by decide) rfl rfl (by first | rfl | simp only [zm_Is, zm_Rs, zm_As, zm_Os, zm_In0, zm_Rn0])).mpr ⟨g4, ?_⟩
    refine (zq_bipush dX12_goAction_79 (by decide)).mpr ?_
    refine (zq_icmp_ne (t := 94) dX12_goAction_81 rfl).mpr ⟨fun c => ?_, fun c => ?_⟩
    · replace h := h.1 c
      refine (zq_iconst dX12_goAction_94 (by decide)).mpr ?_
      refine (zq_aload_n dX12_goAction_95 rfl).mpr ?_
      refine (zq_getI2 (f := 779) (v := (mI m1 779 a0)) dX12_goAction_96 fl_12_153 (by decide) rfl rfl (by first | rfl | simp only [zm_Is, zm_Rs, zm_As, zm_Os, zm_In0, zm_Rn0])).mpr ⟨g4, ?_⟩
      refine (zq_imul dX12_goAction_99).mpr ?_
      refine (zq_istore_n dX12_goAction_100 (by simp) rfl).mpr ?_
      refine (zq_aload_n dX12_goAction_101 rfl).mpr ?_
      refine (zq_getR2 (f := 780) (v := (mR m1 780 a0)) dX12_goAction_102 fl_12_32 (by decide) rfl rfl (by first | rfl | simp only [zm_Is, zm_Rs, zm_As, zm_Os, zm_In0, zm_Rn0])).mpr ⟨g4, ?_⟩
      refine (zq_iload_n dX12_goAction_105 rfl).mpr ?_
      refine (zq_iload_n dX12_goAction_106 rfl).mpr ?_
      obtain ⟨g5, h⟩ := h
      obtain ⟨g6, h⟩ := h
      refine (zq_iast dX12_goAction_107).mpr ⟨⟨g6, g5⟩, ?_⟩
      refine (zq_aload_n dX12_goAction_108 rfl).mpr ?_
      refine (zq_getR2 (f := 780) (v := (mR m1 780 a0)) dX12_goAction_109 fl_12_32 (by decide) rfl rfl (by first | rfl | simp only [zm_Is, zm_Rs, zm_As, zm_Os, zm_In0, zm_Rn0])).mpr ⟨g4, ?_⟩
      refine (zq_iload_n dX12_goAction_112 rfl).mpr ?_
      refine (zq_iconst dX12_goAction_113 (by decide)).mpr ?_
      refine (zq_iadd dX12_goAction_114).mpr ?_
      refine (zq_iload_n dX12_goAction_115 rfl).mpr ?_
      obtain ⟨g7, h⟩ := h
      refine (zq_iast dX12_goAction_116).mpr ⟨⟨g6, g7⟩, ?_⟩
      refine (zq_aload_n dX12_goAction_117 rfl).mpr ?_
      refine (zq_dupR dX12_goAction_118).mpr ?_
      refine (zq_getI2 (f := 776) (v := (mI m1 776 a0)) dX12_goAction_119 fl_12_82 (by decide) rfl rfl (by first | rfl | simp only [zm_Is, zm_Rs, zm_As, zm_Os, zm_In0, zm_Rn0])).mpr ⟨g4, ?_⟩
      refine (zq_iload_n dX12_goAction_122 rfl).mpr ?_
      refine (zq_iconst dX12_goAction_123 (by decide)).mpr ?_
      refine (zq_icmp_gt (t := 131) dX12_goAction_124 rfl).mpr ⟨fun c => ?_, fun c => ?_⟩
      · replace h := h.1 c
        refine (zq_iconst dX12_goAction_131 (by decide)).mpr ?_
        refine (zq_iadd dX12_goAction_132).mpr ?_
        refine (zq_putI (f := 776) dX12_goAction_133 fl_12_82 (by decide) rfl rfl rfl).mpr ⟨g4, ?_⟩
        refine (zq_iconst dX12_goAction_136 (by decide)).mpr ?_
        refine (zq_istore dX12_goAction_137 (by simp) rfl).mpr ?_
        exact h
      · replace h := h.2 c
        refine (zq_iconst dX12_goAction_127 (by decide)).mpr ?_
        refine (zq_goto (t := 132) dX12_goAction_128 rfl).mpr ?_
        refine (zq_iadd dX12_goAction_132).mpr ?_
        refine (zq_putI (f := 776) dX12_goAction_133 fl_12_82 (by decide) rfl rfl rfl).mpr ⟨g4, ?_⟩
        refine (zq_iconst dX12_goAction_136 (by decide)).mpr ?_
        refine (zq_istore dX12_goAction_137 (by simp) rfl).mpr ?_
        exact h
    · replace h := h.2 c
      refine (zq_aload_n dX12_goAction_84 rfl).mpr ?_
      refine (zq_iconst dX12_goAction_85 (by decide)).mpr ?_
      refine (zq_aload_n dX12_goAction_86 rfl).mpr ?_
      refine (zq_getI2 (f := 776) (v := (mI m1 776 a0)) dX12_goAction_87 fl_12_82 (by decide) rfl rfl (by first | rfl | simp only [zm_Is, zm_Rs, zm_As, zm_Os, zm_In0, zm_Rn0])).mpr ⟨g4, ?_⟩
      refine zq_virtualI (n := 2) dX12_goAction_90 mr_12_130 zn_177 rfl rfl rfl (zrcv_R zo_177 (by decide) g4) (Nat.le_of_ble_eq_true rfl) ?_
      refine h.mono (fun r m8 h => ?_)
      obtain ⟨v9, rfl, h⟩ := h
      refine ⟨_, rfl, ?_⟩
      obtain ⟨g10, h⟩ := h
      exact (zq_iret dX12_goAction_93 rfl).mpr ⟨g10, h⟩
  · replace h := h.2 c
    refine (zq_aload_n dX12_goAction_65 rfl).mpr ?_
    refine (zq_iconst dX12_goAction_66 (by decide)).mpr ?_
    refine (zq_aload_n dX12_goAction_67 rfl).mpr ?_
    obtain ⟨g11, h⟩ := h
    refine (zq_getI2 (f := 776) (v := (mI m1 776 a0)) dX12_goAction_68 fl_12_82 (by decide) rfl rfl (by first | rfl | simp only [zm_Is, zm_Rs, zm_As, zm_Os, zm_In0, zm_Rn0])).mpr ⟨g11, ?_⟩
    refine zq_virtualI (n := 2) dX12_goAction_71 mr_12_130 zn_177 rfl rfl rfl (zrcv_R zo_177 (by decide) g11) (Nat.le_of_ble_eq_true rfl) ?_
    refine h.mono (fun r m12 h => ?_)
    obtain ⟨v13, rfl, h⟩ := h
    refine ⟨_, rfl, ?_⟩
    obtain ⟨g14, h⟩ := h
    exact (zq_iret dX12_goAction_74 rfl).mpr ⟨g14, h⟩
theorem bX12_goAction_139 {a0 : Nat} {a1 : Int} {a2 : Int} {a3 : Int} {a4 : Int} {a5 : zV} (h : (zXk 5 = 1 ∧ 0 ≤ a1 ∧ a1 < zXN xl 5) ∧ (((zXI xs 5 (a1).toNat) ≤ a4 → (mC m a0 = 13) ∧ ((1 < a1 → zW xs xl d cX12_goAction 12 (some .boolean) false [] 262 [zR a0, zI a1, zI a2, zI a3, zI a4, a5] [] (sI (sI m 776 a0 (wr ((mI m 776 a0) + 1))) 779 a0 (wr ((mI m 779 a0) + 1))) Q) ∧ (¬ (1 < a1) → zW xs xl d cX12_goAction 12 (some .boolean) false [] 262 [zR a0, zI a1, zI a2, zI a3, zI a4, a5] [] (sI (sI (sI m 776 a0 (wr ((mI m 776 a0) + 1))) 779 a0 (wr ((mI m 779 a0) + 1))) 783 a0 (bXor (mI m 783 a0) (bShl 1 a2))) Q))) ∧ (¬ ((zXI xs 5 (a1).toNat) ≤ a4) → (mC m a0 = 13) ∧ zC xs xl d 172 [zR a0, zI (mI m 776 a0)] m (fun r m4 => ∃ v5 : Int, r = .inl (some (zI v5)) ∧ (zXk 6 = 1 ∧ 0 ≤ a1 ∧ a1 < zXN xl 6) ∧ (zXk 7 = 1 ∧ 0 ≤ a1 ∧ a1 < zXN xl 7) ∧ zC xs xl d 163 [zI v5, zI (zXI xs 6 (a1).toNat), zI (zXI xs 7 (a1).toNat)] m4 (fun r m8 => ∃ v9 : Int, r = .inl (some (zI v9)) ∧ ((v9 ≠ 0 → (mC m8 a0 = 13) ∧ ((a1 ≠ 2 → (0 ≤ (wr (a3 + (wr (1 + a4)))) ∧ (wr (a3 + (wr (1 + a4)))) < mN m8 (mR m8 780 a0)) ∧ (mC m8 (mR m8 780 a0) = 20) ∧ zW xs xl d cX12_goAction 12 (some .boolean) false [] 139 [zR a0, zI a1, zI a2, zI a3, zI (wr (a4 + 1)), zI v5] [] (sI (sA m8 (mR m8 780 a0) (Int.toNat (wr (a3 + (wr (1 + a4))))) v5) 776 a0 (wr ((mI m8 776 a0) + 1))) Q) ∧ (¬ (a1 ≠ 2) → (0 ≤ (wr (a3 + 2)) ∧ (wr (a3 + 2)) < mN m8 (mR m8 780 a0)) ∧ (mC m8 (mR m8 780 a0) = 20) ∧ zW xs xl d cX12_goAction 12 (some .boolean) false [] 139 [zR a0, zI a1, zI a2, zI a3, zI (wr (a4 + 1)), zI v5] [] (sI (sA m8 (mR m8 780 a0) (Int.toNat (wr (a3 + 2))) v5) 776 a0 (wr ((mI m8 776 a0) + 1))) Q))) ∧ (¬ (v9 ≠ 0) → (mC m8 a0 = 13) ∧ zC xs xl d 177 [zR a0, zI 2, zI (mI m8 776 a0)] m8 (fun r m16 => ∃ v17 : Int, r = .inl (some (zI v17)) ∧ (v17 = 0 ∨ v17 = 1) ∧ Q (.inl (some (zI v17))) m16)))))))) : zW xs xl d cX12_goAction 12 (some .boolean) false [] 139 [zR a0, zI a1, zI a2, zI a3, zI a4, a5] [] m Q := by
  refine (zq_iload dX12_goAction_139 rfl).mpr ?_
  refine (zq_gets dX12_goAction_141 sl_12_118).mpr ?_
  refine (zq_iload_n dX12_goAction_144 rfl).mpr ?_
  obtain ⟨g1, h⟩ := h
  refine (zq_ialdE dX12_goAction_145).mpr ⟨g1, ?_⟩
  refine (zq_icmp_ge (t := 225) dX12_goAction_146 rfl).mpr ⟨fun c => ?_, fun c => ?_⟩
  · replace h := h.1 c
    refine (zq_aload_n dX12_goAction_225 rfl).mpr ?_
    refine (zq_dupR dX12_goAction_226).mpr ?_
    obtain ⟨g2, h⟩ := h
    refine (zq_getI2 (f := 776) (v := (mI m 776 a0)) dX12_goAction_227 fl_12_82 (by decide) rfl rfl (by first | rfl | simp only [zm_Is, zm_Rs, zm_As, zm_Os, zm_In0, zm_Rn0])).mpr ⟨g2, ?_⟩
    refine (zq_iconst dX12_goAction_230 (by decide)).mpr ?_
    refine (zq_iadd dX12_goAction_231).mpr ?_
    refine (zq_putI (f := 776) dX12_goAction_232 fl_12_82 (by decide) rfl rfl rfl).mpr ⟨g2, ?_⟩
    refine (zq_aload_n dX12_goAction_235 rfl).mpr ?_
    refine (zq_dupR dX12_goAction_236).mpr ?_
    refine (zq_getI2 (f := 779) (v := (mI m 779 a0)) dX12_goAction_237 fl_12_153 (by decide) rfl rfl (by first | rfl | simp only [zm_Is, zm_Rs, zm_As, zm_Os, zm_In0, zm_Rn0])).mpr ⟨g2, ?_⟩
    refine (zq_iconst dX12_goAction_240 (by decide)).mpr ?_
    refine (zq_iadd dX12_goAction_241).mpr ?_
    refine (zq_putI (f := 779) dX12_goAction_242 fl_12_153 (by decide) rfl rfl rfl).mpr ⟨g2, ?_⟩
    refine (zq_iload_n dX12_goAction_245 rfl).mpr ?_
    refine (zq_iconst dX12_goAction_246 (by decide)).mpr ?_
    refine (zq_icmp_gt (t := 262) dX12_goAction_247 rfl).mpr ⟨fun c => ?_, fun c => ?_⟩
    · replace h := h.1 c
      exact h
    · replace h := h.2 c
      refine (zq_aload_n dX12_goAction_250 rfl).mpr ?_
      refine (zq_dupR dX12_goAction_251).mpr ?_
      refine (zq_getI2 (f := 783) (v := (mI m 783 a0)) dX12_goAction_252 fl_12_140 (by decide) rfl rfl (by first | rfl | simp only [zm_Is, zm_Rs, zm_As, zm_Os, zm_In0, zm_Rn0])).mpr ⟨g2, ?_⟩
      refine (zq_iconst dX12_goAction_255 (by decide)).mpr ?_
      refine (zq_iload_n dX12_goAction_256 rfl).mpr ?_
      refine (zq_ishl dX12_goAction_257).mpr ?_
      refine (zq_ixor dX12_goAction_258).mpr ?_
      refine (zq_putI (f := 783) dX12_goAction_259 fl_12_140 (by decide) rfl rfl rfl).mpr ⟨g2, ?_⟩
      exact h
  · replace h := h.2 c
    refine (zq_aload_n dX12_goAction_149 rfl).mpr ?_
    refine (zq_aload_n dX12_goAction_150 rfl).mpr ?_
    obtain ⟨g3, h⟩ := h
    refine (zq_getI2 (f := 776) (v := (mI m 776 a0)) dX12_goAction_151 fl_12_82 (by decide) rfl rfl (by first | rfl | simp only [zm_Is, zm_Rs, zm_As, zm_Os, zm_In0, zm_Rn0])).mpr ⟨g3, ?_⟩
    refine zq_virtualI (n := 1) dX12_goAction_154 mr_12_134 zn_172 rfl rfl rfl (zrcv_R zo_172 (by decide) g3) (Nat.le_of_ble_eq_true rfl) ?_
    refine h.mono (fun r m4 h => ?_)
    obtain ⟨v5, rfl, h⟩ := h
    refine ⟨_, rfl, ?_⟩
    refine (zq_istore dX12_goAction_157 (by simp) rfl).mpr ?_
    refine (zq_iload dX12_goAction_159 rfl).mpr ?_
    refine (zq_gets dX12_goAction_161 sl_12_156).mpr ?_
    refine (zq_iload_n dX12_goAction_164 rfl).mpr ?_
    obtain ⟨g6, h⟩ := h
    refine (zq_ialdE dX12_goAction_165).mpr ⟨g6, ?_⟩
    refine (zq_gets dX12_goAction_166 sl_12_159).mpr ?_
    refine (zq_iload_n dX12_goAction_169 rfl).mpr ?_
    obtain ⟨g7, h⟩ := h
    refine (zq_ialdE dX12_goAction_170).mpr ⟨g7, ?_⟩
    refine zq_staticI (n := 3) dX12_goAction_171 mr_12_55 zn_163 rfl rfl (Nat.le_of_ble_eq_true rfl) (Nat.le_of_ble_eq_true rfl) ?_
    refine h.mono (fun r m8 h => ?_)
    obtain ⟨v9, rfl, h⟩ := h
    refine ⟨_, rfl, ?_⟩
    refine (zq_if_ne (t := 187) dX12_goAction_174 rfl).mpr ⟨fun c => ?_, fun c => ?_⟩
    · replace h := h.1 c
      refine (zq_aload_n dX12_goAction_187 rfl).mpr ?_
      obtain ⟨g10, h⟩ := h
      refine (zq_getR2 (f := 780) (v := (mR m8 780 a0)) dX12_goAction_188 fl_12_32 (by decide) rfl rfl (by first | rfl | simp only [zm_Is, zm_Rs, zm_As, zm_Os, zm_In0, zm_Rn0])).mpr ⟨g10, ?_⟩
      refine (zq_iload_n dX12_goAction_191 rfl).mpr ?_
      refine (zq_iload_n dX12_goAction_192 rfl).mpr ?_
      refine (zq_iconst dX12_goAction_193 (by decide)).mpr ?_
      refine (zq_icmp_ne (t := 201) dX12_goAction_194 rfl).mpr ⟨fun c => ?_, fun c => ?_⟩
      · replace h := h.1 c
        refine (zq_iconst dX12_goAction_201 (by decide)).mpr ?_
        refine (zq_iload dX12_goAction_202 rfl).mpr ?_
        refine (zq_iadd dX12_goAction_204).mpr ?_
        refine (zq_iadd dX12_goAction_205).mpr ?_
        refine (zq_iload dX12_goAction_206 rfl).mpr ?_
        obtain ⟨g11, h⟩ := h
        obtain ⟨g12, h⟩ := h
        refine (zq_iast dX12_goAction_208).mpr ⟨⟨g12, g11⟩, ?_⟩
        refine (zq_aload_n dX12_goAction_209 rfl).mpr ?_
        refine (zq_dupR dX12_goAction_210).mpr ?_
        refine (zq_getI2 (f := 776) (v := (mI m8 776 a0)) dX12_goAction_211 fl_12_82 (by decide) rfl rfl (by first | rfl | simp only [zm_Is, zm_Rs, zm_As, zm_Os, zm_In0, zm_Rn0])).mpr ⟨g10, ?_⟩
        refine (zq_iconst dX12_goAction_214 (by decide)).mpr ?_
        refine (zq_iadd dX12_goAction_215).mpr ?_
        refine (zq_putI (f := 776) dX12_goAction_216 fl_12_82 (by decide) rfl rfl rfl).mpr ⟨g10, ?_⟩
        refine (zq_iinc dX12_goAction_219 rfl rfl).mpr ?_
        refine (zq_goto (t := 139) dX12_goAction_222 rfl).mpr ?_
        exact h
      · replace h := h.2 c
        refine (zq_iconst dX12_goAction_197 (by decide)).mpr ?_
        refine (zq_goto (t := 205) dX12_goAction_198 rfl).mpr ?_
        refine (zq_iadd dX12_goAction_205).mpr ?_
        refine (zq_iload dX12_goAction_206 rfl).mpr ?_
        obtain ⟨g13, h⟩ := h
        obtain ⟨g14, h⟩ := h
        refine (zq_iast dX12_goAction_208).mpr ⟨⟨g14, g13⟩, ?_⟩
        refine (zq_aload_n dX12_goAction_209 rfl).mpr ?_
        refine (zq_dupR dX12_goAction_210).mpr ?_
        refine (zq_getI2 (f := 776) (v := (mI m8 776 a0)) dX12_goAction_211 fl_12_82 (by decide) rfl rfl (by first | rfl | simp only [zm_Is, zm_Rs, zm_As, zm_Os, zm_In0, zm_Rn0])).mpr ⟨g10, ?_⟩
        refine (zq_iconst dX12_goAction_214 (by decide)).mpr ?_
        refine (zq_iadd dX12_goAction_215).mpr ?_
        refine (zq_putI (f := 776) dX12_goAction_216 fl_12_82 (by decide) rfl rfl rfl).mpr ⟨g10, ?_⟩
        refine (zq_iinc dX12_goAction_219 rfl rfl).mpr ?_
        refine (zq_goto (t := 139) dX12_goAction_222 rfl).mpr ?_
        exact h
    · replace h := h.2 c
      refine (zq_aload_n dX12_goAction_177 rfl).mpr ?_
      refine (zq_iconst dX12_goAction_178 (by decide)).mpr ?_
      refine (zq_aload_n dX12_goAction_179 rfl).mpr ?_
      obtain ⟨g15, h⟩ := h
      refine (zq_getI2 (f := 776) (v := (mI m8 776 a0)) dX12_goAction_180 fl_12_82 (by decide) rfl rfl (by first | rfl | simp only [zm_Is, zm_Rs, zm_As, zm_Os, zm_In0, zm_Rn0])).mpr ⟨g15, ?_⟩
      refine zq_virtualI (n := 2) dX12_goAction_183 mr_12_130 zn_177 rfl rfl rfl (zrcv_R zo_177 (by decide) g15) (Nat.le_of_ble_eq_true rfl) ?_
      refine h.mono (fun r m16 h => ?_)
      obtain ⟨v17, rfl, h⟩ := h
      refine ⟨_, rfl, ?_⟩
      obtain ⟨g18, h⟩ := h
      exact (zq_iret dX12_goAction_186 rfl).mpr ⟨g18, h⟩
theorem bX12_goAction_262 {a0 : Nat} {a1 : Int} {a2 : Int} {a3 : Int} {a4 : Int} {a5 : zV} (h : ((a1 = 2 → (mC m a0 = 13) ∧ zW xs xl d cX12_goAction 12 (some .boolean) false [] 278 [zR a0, zI a1, zI a2, zI a3, zI a4, a5] [] (sI m 782 a0 0) Q) ∧ (¬ (a1 = 2) → ((a1 ≠ 7 → zW xs xl d cX12_goAction 12 (some .boolean) false [] 278 [zR a0, zI a1, zI a2, zI a3, zI a4, a5] [] m Q) ∧ (¬ (a1 ≠ 7) → (mC m a0 = 13) ∧ zW xs xl d cX12_goAction 12 (some .boolean) false [] 278 [zR a0, zI a1, zI a2, zI a3, zI a4, a5] [] (sI m 782 a0 0) Q))))) : zW xs xl d cX12_goAction 12 (some .boolean) false [] 262 [zR a0, zI a1, zI a2, zI a3, zI a4, a5] [] m Q := by
  refine (zq_iload_n dX12_goAction_262 rfl).mpr ?_
  refine (zq_iconst dX12_goAction_263 (by decide)).mpr ?_
  refine (zq_icmp_eq (t := 273) dX12_goAction_264 rfl).mpr ⟨fun c => ?_, fun c => ?_⟩
  · replace h := h.1 c
    refine (zq_aload_n dX12_goAction_273 rfl).mpr ?_
    refine (zq_iconst dX12_goAction_274 (by decide)).mpr ?_
    obtain ⟨g1, h⟩ := h
    refine (zq_putZ (f := 782) dX12_goAction_275 fl_12_147 (by decide) rfl rfl rfl).mpr ⟨⟨g1, (by decide)⟩, ?_⟩
    exact h
  · replace h := h.2 c
    refine (zq_iload_n dX12_goAction_267 rfl).mpr ?_
    refine (zq_bipush dX12_goAction_268 (by decide)).mpr ?_
    refine (zq_icmp_ne (t := 278) dX12_goAction_270 rfl).mpr ⟨fun c => ?_, fun c => ?_⟩
    · replace h := h.1 c
      exact h
    · replace h := h.2 c
      refine (zq_aload_n dX12_goAction_273 rfl).mpr ?_
      refine (zq_iconst dX12_goAction_274 (by decide)).mpr ?_
      obtain ⟨g2, h⟩ := h
      refine (zq_putZ (f := 782) dX12_goAction_275 fl_12_147 (by decide) rfl rfl rfl).mpr ⟨⟨g2, (by decide)⟩, ?_⟩
      exact h
theorem bX12_goAction_278 {a0 : Nat} {a1 : Int} {a2 : Int} {a3 : Int} {a4 : Int} {a5 : zV} (h : ((a1 ≠ 5 → zW xs xl d cX12_goAction 12 (some .boolean) false [] 288 [zR a0, zI a1, zI a2, zI a3, zI a4, a5] [] m Q) ∧ (¬ (a1 ≠ 5) → (mC m a0 = 13) ∧ zW xs xl d cX12_goAction 12 (some .boolean) false [] 288 [zR a0, zI a1, zI a2, zI a3, zI a4, a5] [] (sI m 782 a0 1) Q))) : zW xs xl d cX12_goAction 12 (some .boolean) false [] 278 [zR a0, zI a1, zI a2, zI a3, zI a4, a5] [] m Q := by
  refine (zq_iload_n dX12_goAction_278 rfl).mpr ?_
  refine (zq_iconst dX12_goAction_279 (by decide)).mpr ?_
  refine (zq_icmp_ne (t := 288) dX12_goAction_280 rfl).mpr ⟨fun c => ?_, fun c => ?_⟩
  · replace h := h.1 c
    exact h
  · replace h := h.2 c
    refine (zq_aload_n dX12_goAction_283 rfl).mpr ?_
    refine (zq_iconst dX12_goAction_284 (by decide)).mpr ?_
    obtain ⟨g1, h⟩ := h
    refine (zq_putZ (f := 782) dX12_goAction_285 fl_12_147 (by decide) rfl rfl rfl).mpr ⟨⟨g1, (by decide)⟩, ?_⟩
    exact h
theorem bX12_goAction_288 {a0 : Nat} {a1 : Int} {a2 : Int} {a3 : Int} {a4 : Int} {a5 : zV} (h : ((a1 = 2 → zW xs xl d cX12_goAction 12 (some .boolean) false [] 299 [zR a0, zI a1, zI a2, zI a3, zI a4, a5] [] m Q) ∧ (¬ (a1 = 2) → ((a1 ≠ 7 → Q (.inl (some (zI 1))) m) ∧ (¬ (a1 ≠ 7) → zW xs xl d cX12_goAction 12 (some .boolean) false [] 299 [zR a0, zI a1, zI a2, zI a3, zI a4, a5] [] m Q))))) : zW xs xl d cX12_goAction 12 (some .boolean) false [] 288 [zR a0, zI a1, zI a2, zI a3, zI a4, a5] [] m Q := by
  refine (zq_iload_n dX12_goAction_288 rfl).mpr ?_
  refine (zq_iconst dX12_goAction_289 (by decide)).mpr ?_
  refine (zq_icmp_eq (t := 299) dX12_goAction_290 rfl).mpr ⟨fun c => ?_, fun c => ?_⟩
  · replace h := h.1 c
    exact h
  · replace h := h.2 c
    refine (zq_iload_n dX12_goAction_293 rfl).mpr ?_
    refine (zq_bipush dX12_goAction_294 (by decide)).mpr ?_
    refine (zq_icmp_ne (t := 313) dX12_goAction_296 rfl).mpr ⟨fun c => ?_, fun c => ?_⟩
    · replace h := h.1 c
      refine (zq_iconst dX12_goAction_313 (by decide)).mpr ?_
      exact (zq_iret dX12_goAction_314 rfl).mpr ⟨by decide, h⟩
    · replace h := h.2 c
      exact h
theorem bX12_goAction_299 {a0 : Nat} {a1 : Int} {a2 : Int} {a3 : Int} {a4 : Int} {a5 : zV} (h : ((a1 ≠ 2 → (mC m a0 = 13) ∧ Q (.inl (some (zI 1))) (sI m 781 a0 0)) ∧ (¬ (a1 ≠ 2) → (mC m a0 = 13) ∧ Q (.inl (some (zI 1))) (sI m 781 a0 1)))) : zW xs xl d cX12_goAction 12 (some .boolean) false [] 299 [zR a0, zI a1, zI a2, zI a3, zI a4, a5] [] m Q := by
  refine (zq_aload_n dX12_goAction_299 rfl).mpr ?_
  refine (zq_iload_n dX12_goAction_300 rfl).mpr ?_
  refine (zq_iconst dX12_goAction_301 (by decide)).mpr ?_
  refine (zq_icmp_ne (t := 309) dX12_goAction_302 rfl).mpr ⟨fun c => ?_, fun c => ?_⟩
  · replace h := h.1 c
    refine (zq_iconst dX12_goAction_309 (by decide)).mpr ?_
    obtain ⟨g1, h⟩ := h
    refine (zq_putZ (f := 781) dX12_goAction_310 fl_12_143 (by decide) rfl rfl rfl).mpr ⟨⟨g1, (by decide)⟩, ?_⟩
    refine (zq_iconst dX12_goAction_313 (by decide)).mpr ?_
    exact (zq_iret dX12_goAction_314 rfl).mpr ⟨by decide, h⟩
  · replace h := h.2 c
    refine (zq_iconst dX12_goAction_305 (by decide)).mpr ?_
    refine (zq_goto (t := 310) dX12_goAction_306 rfl).mpr ?_
    obtain ⟨g2, h⟩ := h
    refine (zq_putZ (f := 781) dX12_goAction_310 fl_12_143 (by decide) rfl rfl rfl).mpr ⟨⟨g2, (by decide)⟩, ?_⟩
    refine (zq_iconst dX12_goAction_313 (by decide)).mpr ?_
    exact (zq_iret dX12_goAction_314 rfl).mpr ⟨by decide, h⟩
theorem bX12_compile_0 {a0 : Nat} {a1 : Int} (h : (mC m a0 = 13) ∧ zC xs xl d 163 [zI a1, zI 0, zI 5] (sI m 768 a0 0) (fun r m2 => ∃ v3 : Int, r = .inl (some (zI v3)) ∧ ((v3 ≠ 0 → (mC m2 a0 = 13) ∧ zC xs xl d 169 [zR a0] (sI (sI (sI (sI (sI (sI m2 772 a0 0) 771 a0 (-1)) 779 a0 0) 781 a0 0) 782 a0 0) 783 a0 0) (fun r m5 => r = .inl none ∧ (mC m5 a0 = 13) ∧ zC xs xl d 174 [zR a0] m5 (fun r m7 => ∃ v8 : Int, r = .inl (some (zI v8)) ∧ ((v8 ≠ 0 → (mC m7 a0 = 13) ∧ zC xs xl d 178 [zR a0, zI 0, zI 0] m7 (fun r m10 => ∃ v11 : Int, r = .inl (some (zI v11)) ∧ ((v11 = 0 → zW xs xl d cX12_compile 12 (some .int) false [] 107 [zR a0, zI a1] [] m10 Q) ∧ (¬ (v11 = 0) → (mC m10 a0 = 13) ∧ (((mI m10 781 a0) ≠ 0 → zC xs xl d 177 [zR a0, zI 3, zI (mI m10 776 a0)] m10 (fun r m14 => ∃ v15 : Int, r = .inl (some (zI v15)) ∧ zW xs xl d cX12_compile 12 (some .int) false [] 107 [zR a0, zI a1] [] m14 Q)) ∧ (¬ ((mI m10 781 a0) ≠ 0) → (((mI m10 783 a0) = 0 → zW xs xl d cX12_compile 12 (some .int) false [] 107 [zR a0, zI a1] [] m10 Q) ∧ (¬ ((mI m10 783 a0) = 0) → zC xs xl d 177 [zR a0, zI 3, zI (mI m10 776 a0)] m10 (fun r m16 => ∃ v17 : Int, r = .inl (some (zI v17)) ∧ zW xs xl d cX12_compile 12 (some .int) false [] 107 [zR a0, zI a1] [] m16 Q))))))))) ∧ (¬ (v8 ≠ 0) → (mC m7 a0 = 13) ∧ zC xs xl d 177 [zR a0, zI 1, zI (mI m7 776 a0)] m7 (fun r m19 => ∃ v20 : Int, r = .inl (some (zI v20)) ∧ zW xs xl d cX12_compile 12 (some .int) false [] 107 [zR a0, zI a1] [] m19 Q)))))) ∧ (¬ (v3 ≠ 0) → (mC m2 a0 = 13) ∧ zC xs xl d 162 [zR a0, zI 1] m2 (fun r m21 => ∃ v22 : Int, r = .inl (some (zI v22)) ∧ Q (.inl (some (zI v22))) m21))))) : zC xs xl (d + 1) 182 [zR a0, zI a1] m Q := by
  refine zk_182 ?_
  refine (zq_aload_n dX12_compile_0 rfl).mpr ?_
  refine (zq_iconst dX12_compile_1 (by decide)).mpr ?_
  obtain ⟨g1, h⟩ := h
  refine (zq_putI (f := 768) dX12_compile_2 fl_12_45 (by decide) rfl rfl rfl).mpr ⟨g1, ?_⟩
  refine (zq_iload_n dX12_compile_5 rfl).mpr ?_
  refine (zq_iconst dX12_compile_6 (by decide)).mpr ?_
  refine (zq_iconst dX12_compile_7 (by decide)).mpr ?_
  refine zq_staticI (n := 3) dX12_compile_8 mr_12_55 zn_163 rfl rfl (Nat.le_of_ble_eq_true rfl) (Nat.le_of_ble_eq_true rfl) ?_
  refine h.mono (fun r m2 h => ?_)
  obtain ⟨v3, rfl, h⟩ := h
  refine ⟨_, rfl, ?_⟩
  refine (zq_if_ne (t := 20) dX12_compile_11 rfl).mpr ⟨fun c => ?_, fun c => ?_⟩
  · replace h := h.1 c
    refine (zq_aload_n dX12_compile_20 rfl).mpr ?_
    refine (zq_iconst dX12_compile_21 (by decide)).mpr ?_
    obtain ⟨g4, h⟩ := h
    refine (zq_putI (f := 772) dX12_compile_22 fl_12_121 (by decide) rfl rfl rfl).mpr ⟨g4, ?_⟩
    refine (zq_aload_n dX12_compile_25 rfl).mpr ?_
    refine (zq_iconst dX12_compile_26 (by decide)).mpr ?_
    refine (zq_putI (f := 771) dX12_compile_27 fl_12_13 (by decide) rfl rfl rfl).mpr ⟨g4, ?_⟩
    refine (zq_aload_n dX12_compile_30 rfl).mpr ?_
    refine (zq_iconst dX12_compile_31 (by decide)).mpr ?_
    refine (zq_putI (f := 779) dX12_compile_32 fl_12_153 (by decide) rfl rfl rfl).mpr ⟨g4, ?_⟩
    refine (zq_aload_n dX12_compile_35 rfl).mpr ?_
    refine (zq_iconst dX12_compile_36 (by decide)).mpr ?_
    refine (zq_putZ (f := 781) dX12_compile_37 fl_12_143 (by decide) rfl rfl rfl).mpr ⟨⟨g4, (by decide)⟩, ?_⟩
    refine (zq_aload_n dX12_compile_40 rfl).mpr ?_
    refine (zq_iconst dX12_compile_41 (by decide)).mpr ?_
    refine (zq_putZ (f := 782) dX12_compile_42 fl_12_147 (by decide) rfl rfl rfl).mpr ⟨⟨g4, (by decide)⟩, ?_⟩
    refine (zq_aload_n dX12_compile_45 rfl).mpr ?_
    refine (zq_iconst dX12_compile_46 (by decide)).mpr ?_
    refine (zq_putI (f := 783) dX12_compile_47 fl_12_140 (by decide) rfl rfl rfl).mpr ⟨g4, ?_⟩
    refine (zq_aload_n dX12_compile_50 rfl).mpr ?_
    refine zq_virtualV (n := 0) dX12_compile_51 mr_12_162 zn_169 rfl rfl rfl (zrcv_R zo_169 (by decide) g4) (Nat.le_of_ble_eq_true rfl) ?_
    refine h.mono (fun r m5 h => ?_)
    obtain ⟨rfl, h⟩ := h
    refine ⟨rfl, ?_⟩
    refine (zq_aload_n dX12_compile_54 rfl).mpr ?_
    obtain ⟨g9, h⟩ := h
    refine zq_virtualI (n := 0) dX12_compile_55 mr_12_165 zn_174 rfl rfl rfl (zrcv_R zo_174 (by decide) g9) (Nat.le_of_ble_eq_true rfl) ?_
    refine h.mono (fun r m7 h => ?_)
    obtain ⟨v8, rfl, h⟩ := h
    refine ⟨_, rfl, ?_⟩
    refine (zq_if_ne (t := 74) dX12_compile_58 rfl).mpr ⟨fun c => ?_, fun c => ?_⟩
    · replace h := h.1 c
      refine (zq_aload_n dX12_compile_74 rfl).mpr ?_
      refine (zq_iconst dX12_compile_75 (by decide)).mpr ?_
      refine (zq_iconst dX12_compile_76 (by decide)).mpr ?_
      obtain ⟨g12, h⟩ := h
      refine zq_virtualI (n := 2) dX12_compile_77 mr_12_137 zn_178 rfl rfl rfl (zrcv_R zo_178 (by decide) g12) (Nat.le_of_ble_eq_true rfl) ?_
      refine h.mono (fun r m10 h => ?_)
      obtain ⟨v11, rfl, h⟩ := h
      refine ⟨_, rfl, ?_⟩
      refine (zq_if_eq (t := 107) dX12_compile_80 rfl).mpr ⟨fun c => ?_, fun c => ?_⟩
      · replace h := h.1 c
        exact h
      · replace h := h.2 c
        refine (zq_aload_n dX12_compile_83 rfl).mpr ?_
        obtain ⟨g13, h⟩ := h
        refine (zq_getI2 (f := 781) (v := (mI m10 781 a0)) dX12_compile_84 fl_12_143 (by decide) rfl rfl (by first | rfl | simp only [zm_Is, zm_Rs, zm_As, zm_Os, zm_In0, zm_Rn0])).mpr ⟨g13, ?_⟩
        refine (zq_if_ne (t := 97) dX12_compile_87 rfl).mpr ⟨fun c => ?_, fun c => ?_⟩
        · replace h := h.1 c
          refine (zq_aload_n dX12_compile_97 rfl).mpr ?_
          refine (zq_iconst dX12_compile_98 (by decide)).mpr ?_
          refine (zq_aload_n dX12_compile_99 rfl).mpr ?_
          refine (zq_getI2 (f := 776) (v := (mI m10 776 a0)) dX12_compile_100 fl_12_82 (by decide) rfl rfl (by first | rfl | simp only [zm_Is, zm_Rs, zm_As, zm_Os, zm_In0, zm_Rn0])).mpr ⟨g13, ?_⟩
          refine zq_virtualI (n := 2) dX12_compile_103 mr_12_130 zn_177 rfl rfl rfl (zrcv_R zo_177 (by decide) g13) (Nat.le_of_ble_eq_true rfl) ?_
          refine h.mono (fun r m14 h => ?_)
          obtain ⟨v15, rfl, h⟩ := h
          refine ⟨_, rfl, ?_⟩
          refine (zq_popI dX12_compile_106).mpr ?_
          exact h
        · replace h := h.2 c
          refine (zq_aload_n dX12_compile_90 rfl).mpr ?_
          refine (zq_getI2 (f := 783) (v := (mI m10 783 a0)) dX12_compile_91 fl_12_140 (by decide) rfl rfl (by first | rfl | simp only [zm_Is, zm_Rs, zm_As, zm_Os, zm_In0, zm_Rn0])).mpr ⟨g13, ?_⟩
          refine (zq_if_eq (t := 107) dX12_compile_94 rfl).mpr ⟨fun c => ?_, fun c => ?_⟩
          · replace h := h.1 c
            exact h
          · replace h := h.2 c
            refine (zq_aload_n dX12_compile_97 rfl).mpr ?_
            refine (zq_iconst dX12_compile_98 (by decide)).mpr ?_
            refine (zq_aload_n dX12_compile_99 rfl).mpr ?_
            refine (zq_getI2 (f := 776) (v := (mI m10 776 a0)) dX12_compile_100 fl_12_82 (by decide) rfl rfl (by first | rfl | simp only [zm_Is, zm_Rs, zm_As, zm_Os, zm_In0, zm_Rn0])).mpr ⟨g13, ?_⟩
            refine zq_virtualI (n := 2) dX12_compile_103 mr_12_130 zn_177 rfl rfl rfl (zrcv_R zo_177 (by decide) g13) (Nat.le_of_ble_eq_true rfl) ?_
            refine h.mono (fun r m16 h => ?_)
            obtain ⟨v17, rfl, h⟩ := h
            refine ⟨_, rfl, ?_⟩
            refine (zq_popI dX12_compile_106).mpr ?_
            exact h
    · replace h := h.2 c
      refine (zq_aload_n dX12_compile_61 rfl).mpr ?_
      refine (zq_iconst dX12_compile_62 (by decide)).mpr ?_
      refine (zq_aload_n dX12_compile_63 rfl).mpr ?_
      obtain ⟨g18, h⟩ := h
      refine (zq_getI2 (f := 776) (v := (mI m7 776 a0)) dX12_compile_64 fl_12_82 (by decide) rfl rfl (by first | rfl | simp only [zm_Is, zm_Rs, zm_As, zm_Os, zm_In0, zm_Rn0])).mpr ⟨g18, ?_⟩
      refine zq_virtualI (n := 2) dX12_compile_67 mr_12_130 zn_177 rfl rfl rfl (zrcv_R zo_177 (by decide) g18) (Nat.le_of_ble_eq_true rfl) ?_
      refine h.mono (fun r m19 h => ?_)
      obtain ⟨v20, rfl, h⟩ := h
      refine ⟨_, rfl, ?_⟩
      refine (zq_popI dX12_compile_70).mpr ?_
      refine (zq_goto (t := 107) dX12_compile_71 rfl).mpr ?_
      exact h
  · replace h := h.2 c
    refine (zq_aload_n dX12_compile_14 rfl).mpr ?_
    refine (zq_iconst dX12_compile_15 (by decide)).mpr ?_
    obtain ⟨g23, h⟩ := h
    refine zq_virtualI (n := 1) dX12_compile_16 mr_12_51 zn_162 rfl rfl rfl (zrcv_R zo_162 (by decide) g23) (Nat.le_of_ble_eq_true rfl) ?_
    refine h.mono (fun r m21 h => ?_)
    obtain ⟨v22, rfl, h⟩ := h
    refine ⟨_, rfl, ?_⟩
    exact (zq_iret dX12_compile_19 rfl).mpr ⟨trivial, h⟩
theorem bX12_compile_107 {a0 : Nat} {a1 : Int} (h : (mC m a0 = 13) ∧ (((mI m 772 a0) = 0 → (0 ≤ a1 ∧ a1 < mN m (mR m 777 a0)) ∧ (mC m (mR m 777 a0) = 20) ∧ (0 ≤ (wr (4 * (mI m 779 a0))) ∧ 0 ≤ (wr (240 * a1)) ∧ 0 ≤ 0 ∧ 0 + (wr (4 * (mI m 779 a0))) ≤ mN m (mR m 780 a0) ∧ (wr (240 * a1)) + (wr (4 * (mI m 779 a0))) ≤ mN m (mR m 778 a0) ∧ mC m (mR m 780 a0) = mC m (mR m 778 a0) ∧ (mC m (mR m 780 a0) = 20 ∨ (mC m (mR m 780 a0) = 21 ∧ ∀ j : Nat, 0 ≤ j → j < 0 + (wr (4 * (mI m 779 a0))) → mA (sA (sI m 770 a0 0) (mR m 777 a0) (Int.toNat a1) (mI m 779 a0)) (mR m 780 a0) j = 0 ∨ mA (sA (sI m 770 a0 0) (mR m 777 a0) (Int.toNat a1) (mI m 779 a0)) (mR m 780 a0) j = 1)) ∧ (mR m 780 a0) ≠ (mR m 778 a0)) ∧ Q (.inl (some (zI 0))) (cpA (sA (sI m 770 a0 0) (mR m 777 a0) (Int.toNat a1) (mI m 779 a0)) (mR m 780 a0) 0 (mR m 778 a0) (Int.toNat (wr (240 * a1))) (Int.toNat (wr (4 * (mI m 779 a0)))))) ∧ (¬ ((mI m 772 a0) = 0) → Q (.inl (some (zI (mI m 772 a0)))) (sI m 770 a0 0)))) : zW xs xl d cX12_compile 12 (some .int) false [] 107 [zR a0, zI a1] [] m Q := by
  refine (zq_aload_n dX12_compile_107 rfl).mpr ?_
  refine (zq_iconst dX12_compile_108 (by decide)).mpr ?_
  obtain ⟨g1, h⟩ := h
  refine (zq_putI (f := 770) dX12_compile_109 fl_12_48 (by decide) rfl rfl rfl).mpr ⟨g1, ?_⟩
  refine (zq_aload_n dX12_compile_112 rfl).mpr ?_
  refine (zq_getI2 (f := 772) (v := (mI m 772 a0)) dX12_compile_113 fl_12_121 (by decide) rfl rfl (by first | rfl | simp only [zm_Is, zm_Rs, zm_As, zm_Os, zm_In0, zm_Rn0])).mpr ⟨g1, ?_⟩
  refine (zq_if_eq (t := 124) dX12_compile_116 rfl).mpr ⟨fun c => ?_, fun c => ?_⟩
  · replace h := h.1 c
    refine (zq_aload_n dX12_compile_124 rfl).mpr ?_
    refine (zq_getR2 (f := 777) (v := (mR m 777 a0)) dX12_compile_125 fl_12_26 (by decide) rfl rfl (by first | rfl | simp only [zm_Is, zm_Rs, zm_As, zm_Os, zm_In0, zm_Rn0])).mpr ⟨g1, ?_⟩
    refine (zq_iload_n dX12_compile_128 rfl).mpr ?_
    refine (zq_aload_n dX12_compile_129 rfl).mpr ?_
    refine (zq_getI2 (f := 779) (v := (mI m 779 a0)) dX12_compile_130 fl_12_153 (by decide) rfl rfl (by first | rfl | simp only [zm_Is, zm_Rs, zm_As, zm_Os, zm_In0, zm_Rn0])).mpr ⟨g1, ?_⟩
    obtain ⟨g2, h⟩ := h
    obtain ⟨g3, h⟩ := h
    refine (zq_iast dX12_compile_133).mpr ⟨⟨g3, g2⟩, ?_⟩
    refine (zq_aload_n dX12_compile_134 rfl).mpr ?_
    refine (zq_getR2 (f := 780) (v := (mR m 780 a0)) dX12_compile_135 fl_12_32 (by decide) rfl rfl (by first | rfl | simp only [zm_Is, zm_Rs, zm_As, zm_Os, zm_In0, zm_Rn0])).mpr ⟨g1, ?_⟩
    refine (zq_iconst dX12_compile_138 (by decide)).mpr ?_
    refine (zq_aload_n dX12_compile_139 rfl).mpr ?_
    refine (zq_getR2 (f := 778) (v := (mR m 778 a0)) dX12_compile_140 fl_12_29 (by decide) rfl rfl (by first | rfl | simp only [zm_Is, zm_Rs, zm_As, zm_Os, zm_In0, zm_Rn0])).mpr ⟨g1, ?_⟩
    refine (zq_sipush dX12_compile_143 (by decide)).mpr ?_
    refine (zq_iload_n dX12_compile_146 rfl).mpr ?_
    refine (zq_imul dX12_compile_147).mpr ?_
    refine (zq_iconst dX12_compile_148 (by decide)).mpr ?_
    refine (zq_aload_n dX12_compile_149 rfl).mpr ?_
    refine (zq_getI2 (f := 779) (v := (mI m 779 a0)) dX12_compile_150 fl_12_153 (by decide) rfl rfl (by first | rfl | simp only [zm_Is, zm_Rs, zm_As, zm_Os, zm_In0, zm_Rn0])).mpr ⟨g1, ?_⟩
    refine (zq_imul dX12_compile_153).mpr ?_
    obtain ⟨g4, h⟩ := h
    refine (zq_copy dX12_compile_154 mr_12_168).mpr ⟨⟨g4.1, g4.2.1, g4.2.2.1, g4.2.2.2.1, g4.2.2.2.2.1, g4.2.2.2.2.2.1, g4.2.2.2.2.2.2.1, g4.2.2.2.2.2.2.2, (Nat.le_of_ble_eq_true rfl)⟩, ?_⟩
    refine (zq_iconst dX12_compile_157 (by decide)).mpr ?_
    exact (zq_iret dX12_compile_158 rfl).mpr ⟨trivial, h⟩
  · replace h := h.2 c
    refine (zq_aload_n dX12_compile_119 rfl).mpr ?_
    refine (zq_getI2 (f := 772) (v := (mI m 772 a0)) dX12_compile_120 fl_12_121 (by decide) rfl rfl (by first | rfl | simp only [zm_Is, zm_Rs, zm_As, zm_Os, zm_In0, zm_Rn0])).mpr ⟨g1, ?_⟩
    exact (zq_iret dX12_compile_123 rfl).mpr ⟨trivial, h⟩
theorem bX12_errorAt_0 {a0 : Nat} (h : (mC m a0 = 13) ∧ Q (.inl (some (zI (mI m 771 a0)))) (sI m 768 a0 0)) : zC xs xl (d + 1) 183 [zR a0] m Q := by
  refine zk_183 ?_
  refine (zq_aload_n dX12_errorAt_0 rfl).mpr ?_
  refine (zq_iconst dX12_errorAt_1 (by decide)).mpr ?_
  obtain ⟨g1, h⟩ := h
  refine (zq_putI (f := 768) dX12_errorAt_2 fl_12_45 (by decide) rfl rfl rfl).mpr ⟨g1, ?_⟩
  refine (zq_aload_n dX12_errorAt_5 rfl).mpr ?_
  refine (zq_getI2 (f := 771) (v := (mI m 771 a0)) dX12_errorAt_6 fl_12_13 (by decide) rfl rfl (by first | rfl | simp only [zm_Is, zm_Rs, zm_As, zm_Os, zm_In0, zm_Rn0])).mpr ⟨g1, ?_⟩
  exact (zq_iret dX12_errorAt_9 rfl).mpr ⟨trivial, h⟩
theorem bX12_planTold_0 {a0 : Nat} {a1 : Int} {a2 : Int} (h : ((a2 ≠ 0 → zW xs xl d cX12_planTold 12 (some .int) false [] 16 [zR a0, zI a1, zI a2, zI 0, zI 0, zU, zU, zU] [] m Q) ∧ (¬ (a2 ≠ 0) → (mC m a0 = 13) ∧ (mC m (mR m 777 a0) = 20) ∧ (0 ≤ a1 ∧ a1 < mN m (mR m 777 a0)) ∧ Q (.inl (some (zI (mA m (mR m 777 a0) (Int.toNat a1))))) m))) : zC xs xl (d + 1) 184 [zR a0, zI a1, zI a2] m Q := by
  refine zk_184 ?_
  refine (zq_iload_n dX12_planTold_0 rfl).mpr ?_
  refine (zq_if_ne (t := 11) dX12_planTold_1 rfl).mpr ⟨fun c => ?_, fun c => ?_⟩
  · replace h := h.1 c
    refine (zq_iconst dX12_planTold_11 (by decide)).mpr ?_
    refine (zq_istore_n dX12_planTold_12 (by simp) rfl).mpr ?_
    refine (zq_iconst dX12_planTold_13 (by decide)).mpr ?_
    refine (zq_istore dX12_planTold_14 (by simp) rfl).mpr ?_
    exact h
  · replace h := h.2 c
    refine (zq_aload_n dX12_planTold_4 rfl).mpr ?_
    obtain ⟨g1, h⟩ := h
    refine (zq_getR2 (f := 777) (v := (mR m 777 a0)) dX12_planTold_5 fl_12_26 (by decide) rfl rfl (by first | rfl | simp only [zm_Is, zm_Rs, zm_As, zm_Os, zm_In0, zm_Rn0])).mpr ⟨g1, ?_⟩
    refine (zq_iload_n dX12_planTold_8 rfl).mpr ?_
    obtain ⟨g2, h⟩ := h
    obtain ⟨g3, h⟩ := h
    refine (zq_iald2 (v := (mA m (mR m 777 a0) (Int.toNat a1))) dX12_planTold_9 (by first | rfl | simp only [zm_Is, zm_Rs, zm_As, zm_Os, zm_In0, zm_Rn0])).mpr ⟨⟨g2, g3⟩, ?_⟩
    exact (zq_iret dX12_planTold_10 rfl).mpr ⟨trivial, h⟩
theorem bX12_planTold_16 {a0 : Nat} {a1 : Int} {a2 : Int} {a3 : Int} {a4 : Int} {a5 : zV} {a6 : zV} {a7 : zV} (h : (mC m a0 = 13) ∧ (mC m (mR m 777 a0) = 20) ∧ (0 ≤ a1 ∧ a1 < mN m (mR m 777 a0)) ∧ (((mA m (mR m 777 a0) (Int.toNat a1)) ≤ a4 → Q (.inl (some (zI a3))) m) ∧ (¬ ((mA m (mR m 777 a0) (Int.toNat a1)) ≤ a4) → (mC m (mR m 778 a0) = 20) ∧ (0 ≤ (wr (4 * (wr ((wr (60 * a1)) + a4)))) ∧ (wr (4 * (wr ((wr (60 * a1)) + a4)))) < mN m (mR m 778 a0)) ∧ (((mA m (mR m 778 a0) (Int.toNat (wr (4 * (wr ((wr (60 * a1)) + a4)))))) ≠ 2 → ((a2 ≠ 1 → zW xs xl d cX12_planTold 12 (some .int) false [] 78 [zR a0, zI a1, zI a2, zI a3, zI a4, zI (wr (4 * (wr ((wr (60 * a1)) + a4)))), zI (mA m (mR m 778 a0) (Int.toNat (wr (4 * (wr ((wr (60 * a1)) + a4)))))), zI 0] [] m Q) ∧ (¬ (a2 ≠ 1) → zW xs xl d cX12_planTold 12 (some .int) false [] 78 [zR a0, zI a1, zI a2, zI (wr (a3 + 0)), zI a4, zI (wr (4 * (wr ((wr (60 * a1)) + a4)))), zI (mA m (mR m 778 a0) (Int.toNat (wr (4 * (wr ((wr (60 * a1)) + a4)))))), zI 0] [] m Q))) ∧ (¬ ((mA m (mR m 778 a0) (Int.toNat (wr (4 * (wr ((wr (60 * a1)) + a4)))))) ≠ 2) → ((a2 ≠ 1 → zW xs xl d cX12_planTold 12 (some .int) false [] 78 [zR a0, zI a1, zI a2, zI a3, zI a4, zI (wr (4 * (wr ((wr (60 * a1)) + a4)))), zI (mA m (mR m 778 a0) (Int.toNat (wr (4 * (wr ((wr (60 * a1)) + a4)))))), zI 1] [] m Q) ∧ (¬ (a2 ≠ 1) → zW xs xl d cX12_planTold 12 (some .int) false [] 78 [zR a0, zI a1, zI a2, zI (wr (a3 + 1)), zI a4, zI (wr (4 * (wr ((wr (60 * a1)) + a4)))), zI (mA m (mR m 778 a0) (Int.toNat (wr (4 * (wr ((wr (60 * a1)) + a4)))))), zI 1] [] m Q))))))) : zW xs xl d cX12_planTold 12 (some .int) false [] 16 [zR a0, zI a1, zI a2, zI a3, zI a4, a5, a6, a7] [] m Q := by
  refine (zq_iload dX12_planTold_16 rfl).mpr ?_
  refine (zq_aload_n dX12_planTold_18 rfl).mpr ?_
  obtain ⟨g1, h⟩ := h
  refine (zq_getR2 (f := 777) (v := (mR m 777 a0)) dX12_planTold_19 fl_12_26 (by decide) rfl rfl (by first | rfl | simp only [zm_Is, zm_Rs, zm_As, zm_Os, zm_In0, zm_Rn0])).mpr ⟨g1, ?_⟩
  refine (zq_iload_n dX12_planTold_22 rfl).mpr ?_
  obtain ⟨g2, h⟩ := h
  obtain ⟨g3, h⟩ := h
  refine (zq_iald2 (v := (mA m (mR m 777 a0) (Int.toNat a1))) dX12_planTold_23 (by first | rfl | simp only [zm_Is, zm_Rs, zm_As, zm_Os, zm_In0, zm_Rn0])).mpr ⟨⟨g2, g3⟩, ?_⟩
  refine (zq_icmp_ge (t := 150) dX12_planTold_24 rfl).mpr ⟨fun c => ?_, fun c => ?_⟩
  · replace h := h.1 c
    refine (zq_iload_n dX12_planTold_150 rfl).mpr ?_
    exact (zq_iret dX12_planTold_151 rfl).mpr ⟨trivial, h⟩
  · replace h := h.2 c
    refine (zq_iconst dX12_planTold_27 (by decide)).mpr ?_
    refine (zq_bipush dX12_planTold_28 (by decide)).mpr ?_
    refine (zq_iload_n dX12_planTold_30 rfl).mpr ?_
    refine (zq_imul dX12_planTold_31).mpr ?_
    refine (zq_iload dX12_planTold_32 rfl).mpr ?_
    refine (zq_iadd dX12_planTold_34).mpr ?_
    refine (zq_imul dX12_planTold_35).mpr ?_
    refine (zq_istore dX12_planTold_36 (by simp) rfl).mpr ?_
    refine (zq_aload_n dX12_planTold_38 rfl).mpr ?_
    refine (zq_getR2 (f := 778) (v := (mR m 778 a0)) dX12_planTold_39 fl_12_29 (by decide) rfl rfl (by first | rfl | simp only [zm_Is, zm_Rs, zm_As, zm_Os, zm_In0, zm_Rn0])).mpr ⟨g1, ?_⟩
    refine (zq_iload dX12_planTold_42 rfl).mpr ?_
    obtain ⟨g4, h⟩ := h
    obtain ⟨g5, h⟩ := h
    refine (zq_iald2 (v := (mA m (mR m 778 a0) (Int.toNat (wr (4 * (wr ((wr (60 * a1)) + a4))))))) dX12_planTold_44 (by first | rfl | simp only [zm_Is, zm_Rs, zm_As, zm_Os, zm_In0, zm_Rn0])).mpr ⟨⟨g4, g5⟩, ?_⟩
    refine (zq_istore dX12_planTold_45 (by simp) rfl).mpr ?_
    refine (zq_iload dX12_planTold_47 rfl).mpr ?_
    refine (zq_iconst dX12_planTold_49 (by decide)).mpr ?_
    refine (zq_icmp_ne (t := 57) dX12_planTold_50 rfl).mpr ⟨fun c => ?_, fun c => ?_⟩
    · replace h := h.1 c
      refine (zq_iconst dX12_planTold_57 (by decide)).mpr ?_
      refine (zq_istore dX12_planTold_58 (by simp) rfl).mpr ?_
      refine (zq_iload_n dX12_planTold_60 rfl).mpr ?_
      refine (zq_iconst dX12_planTold_61 (by decide)).mpr ?_
      refine (zq_icmp_ne (t := 78) dX12_planTold_62 rfl).mpr ⟨fun c => ?_, fun c => ?_⟩
      · replace h := h.1 c
        exact h
      · replace h := h.2 c
        refine (zq_iload_n dX12_planTold_65 rfl).mpr ?_
        refine (zq_iload dX12_planTold_66 rfl).mpr ?_
        refine (zq_if_eq (t := 75) dX12_planTold_68 rfl).mpr ⟨fun _ => ?_, fun c => absurd (by decide) c⟩
        refine (zq_iconst dX12_planTold_75 (by decide)).mpr ?_
        refine (zq_iadd dX12_planTold_76).mpr ?_
        refine (zq_istore_n dX12_planTold_77 (by simp) rfl).mpr ?_
        exact h
    · replace h := h.2 c
      refine (zq_iconst dX12_planTold_53 (by decide)).mpr ?_
      refine (zq_goto (t := 58) dX12_planTold_54 rfl).mpr ?_
      refine (zq_istore dX12_planTold_58 (by simp) rfl).mpr ?_
      refine (zq_iload_n dX12_planTold_60 rfl).mpr ?_
      refine (zq_iconst dX12_planTold_61 (by decide)).mpr ?_
      refine (zq_icmp_ne (t := 78) dX12_planTold_62 rfl).mpr ⟨fun c => ?_, fun c => ?_⟩
      · replace h := h.1 c
        exact h
      · replace h := h.2 c
        refine (zq_iload_n dX12_planTold_65 rfl).mpr ?_
        refine (zq_iload dX12_planTold_66 rfl).mpr ?_
        refine (zq_if_eq (t := 75) dX12_planTold_68 rfl).mpr ⟨fun c => absurd c (by decide), fun _ => ?_⟩
        refine (zq_iconst dX12_planTold_71 (by decide)).mpr ?_
        refine (zq_goto (t := 76) dX12_planTold_72 rfl).mpr ?_
        refine (zq_iadd dX12_planTold_76).mpr ?_
        refine (zq_istore_n dX12_planTold_77 (by simp) rfl).mpr ?_
        exact h
theorem bX12_planTold_78 {a0 : Nat} {a1 : Int} {a2 : Int} {a3 : Int} {a4 : Int} {a5 : Int} {a6 : Int} {a7 : Int} (h : ((a2 ≠ 2 → zW xs xl d cX12_planTold 12 (some .int) false [] 104 [zR a0, zI a1, zI a2, zI a3, zI a4, zI a5, zI a6, zI a7] [] m Q) ∧ (¬ (a2 ≠ 2) → ((a7 = 0 → zW xs xl d cX12_planTold 12 (some .int) false [] 104 [zR a0, zI a1, zI a2, zI (wr (a3 + 0)), zI a4, zI a5, zI a6, zI a7] [] m Q) ∧ (¬ (a7 = 0) → (mC m a0 = 13) ∧ (mC m (mR m 778 a0) = 20) ∧ (0 ≤ (wr (a5 + 2)) ∧ (wr (a5 + 2)) < mN m (mR m 778 a0)) ∧ zW xs xl d cX12_planTold 12 (some .int) false [] 104 [zR a0, zI a1, zI a2, zI (wr (a3 + (mA m (mR m 778 a0) (Int.toNat (wr (a5 + 2)))))), zI a4, zI a5, zI a6, zI a7] [] m Q))))) : zW xs xl d cX12_planTold 12 (some .int) false [] 78 [zR a0, zI a1, zI a2, zI a3, zI a4, zI a5, zI a6, zI a7] [] m Q := by
  refine (zq_iload_n dX12_planTold_78 rfl).mpr ?_
  refine (zq_iconst dX12_planTold_79 (by decide)).mpr ?_
  refine (zq_icmp_ne (t := 104) dX12_planTold_80 rfl).mpr ⟨fun c => ?_, fun c => ?_⟩
  · replace h := h.1 c
    exact h
  · replace h := h.2 c
    refine (zq_iload_n dX12_planTold_83 rfl).mpr ?_
    refine (zq_iload dX12_planTold_84 rfl).mpr ?_
    refine (zq_if_eq (t := 101) dX12_planTold_86 rfl).mpr ⟨fun c => ?_, fun c => ?_⟩
    · replace h := h.1 c
      refine (zq_iconst dX12_planTold_101 (by decide)).mpr ?_
      refine (zq_iadd dX12_planTold_102).mpr ?_
      refine (zq_istore_n dX12_planTold_103 (by simp) rfl).mpr ?_
      exact h
    · replace h := h.2 c
      refine (zq_aload_n dX12_planTold_89 rfl).mpr ?_
      obtain ⟨g1, h⟩ := h
      refine (zq_getR2 (f := 778) (v := (mR m 778 a0)) dX12_planTold_90 fl_12_29 (by decide) rfl rfl (by first | rfl | simp only [zm_Is, zm_Rs, zm_As, zm_Os, zm_In0, zm_Rn0])).mpr ⟨g1, ?_⟩
      refine (zq_iload dX12_planTold_93 rfl).mpr ?_
      refine (zq_iconst dX12_planTold_95 (by decide)).mpr ?_
      refine (zq_iadd dX12_planTold_96).mpr ?_
      obtain ⟨g2, h⟩ := h
      obtain ⟨g3, h⟩ := h
      refine (zq_iald2 (v := (mA m (mR m 778 a0) (Int.toNat (wr (a5 + 2))))) dX12_planTold_97 (by first | rfl | simp only [zm_Is, zm_Rs, zm_As, zm_Os, zm_In0, zm_Rn0])).mpr ⟨⟨g2, g3⟩, ?_⟩
      refine (zq_goto (t := 102) dX12_planTold_98 rfl).mpr ?_
      refine (zq_iadd dX12_planTold_102).mpr ?_
      refine (zq_istore_n dX12_planTold_103 (by simp) rfl).mpr ?_
      exact h
theorem bX12_planTold_104 {a0 : Nat} {a1 : Int} {a2 : Int} {a3 : Int} {a4 : Int} {a5 : Int} {a6 : Int} {a7 : Int} (h : ((a2 ≠ 3 → zW xs xl d cX12_planTold 12 (some .int) false [] 16 [zR a0, zI a1, zI a2, zI a3, zI (wr (a4 + 1)), zI a5, zI a6, zI a7] [] m Q) ∧ (¬ (a2 ≠ 3) → ((a6 = 3 → (mC m a0 = 13) ∧ (mC m (mR m 778 a0) = 20) ∧ (0 ≤ (wr (a5 + 1)) ∧ (wr (a5 + 1)) < mN m (mR m 778 a0)) ∧ zW xs xl d cX12_planTold 12 (some .int) false [] 16 [zR a0, zI a1, zI a2, zI (wr (a3 + (mA m (mR m 778 a0) (Int.toNat (wr (a5 + 1)))))), zI (wr (a4 + 1)), zI a5, zI a6, zI a7] [] m Q) ∧ (¬ (a6 = 3) → ((a6 = 4 → (mC m a0 = 13) ∧ (mC m (mR m 778 a0) = 20) ∧ (0 ≤ (wr (a5 + 1)) ∧ (wr (a5 + 1)) < mN m (mR m 778 a0)) ∧ zW xs xl d cX12_planTold 12 (some .int) false [] 16 [zR a0, zI a1, zI a2, zI (wr (a3 + (mA m (mR m 778 a0) (Int.toNat (wr (a5 + 1)))))), zI (wr (a4 + 1)), zI a5, zI a6, zI a7] [] m Q) ∧ (¬ (a6 = 4) → ((a6 ≠ 6 → zW xs xl d cX12_planTold 12 (some .int) false [] 16 [zR a0, zI a1, zI a2, zI (wr (a3 + 1)), zI (wr (a4 + 1)), zI a5, zI a6, zI a7] [] m Q) ∧ (¬ (a6 ≠ 6) → (mC m a0 = 13) ∧ (mC m (mR m 778 a0) = 20) ∧ (0 ≤ (wr (a5 + 1)) ∧ (wr (a5 + 1)) < mN m (mR m 778 a0)) ∧ zW xs xl d cX12_planTold 12 (some .int) false [] 16 [zR a0, zI a1, zI a2, zI (wr (a3 + (mA m (mR m 778 a0) (Int.toNat (wr (a5 + 1)))))), zI (wr (a4 + 1)), zI a5, zI a6, zI a7] [] m Q))))))))) : zW xs xl d cX12_planTold 12 (some .int) false [] 104 [zR a0, zI a1, zI a2, zI a3, zI a4, zI a5, zI a6, zI a7] [] m Q := by
  refine (zq_iload_n dX12_planTold_104 rfl).mpr ?_
  refine (zq_iconst dX12_planTold_105 (by decide)).mpr ?_
  refine (zq_icmp_ne (t := 144) dX12_planTold_106 rfl).mpr ⟨fun c => ?_, fun c => ?_⟩
  · replace h := h.1 c
    refine (zq_iinc dX12_planTold_144 rfl rfl).mpr ?_
    refine (zq_goto (t := 16) dX12_planTold_147 rfl).mpr ?_
    exact h
  · replace h := h.2 c
    refine (zq_iload_n dX12_planTold_109 rfl).mpr ?_
    refine (zq_iload dX12_planTold_110 rfl).mpr ?_
    refine (zq_iconst dX12_planTold_112 (by decide)).mpr ?_
    refine (zq_icmp_eq (t := 129) dX12_planTold_113 rfl).mpr ⟨fun c => ?_, fun c => ?_⟩
    · replace h := h.1 c
      refine (zq_aload_n dX12_planTold_129 rfl).mpr ?_
      obtain ⟨g1, h⟩ := h
      refine (zq_getR2 (f := 778) (v := (mR m 778 a0)) dX12_planTold_130 fl_12_29 (by decide) rfl rfl (by first | rfl | simp only [zm_Is, zm_Rs, zm_As, zm_Os, zm_In0, zm_Rn0])).mpr ⟨g1, ?_⟩
      refine (zq_iload dX12_planTold_133 rfl).mpr ?_
      refine (zq_iconst dX12_planTold_135 (by decide)).mpr ?_
      refine (zq_iadd dX12_planTold_136).mpr ?_
      obtain ⟨g2, h⟩ := h
      obtain ⟨g3, h⟩ := h
      refine (zq_iald2 (v := (mA m (mR m 778 a0) (Int.toNat (wr (a5 + 1))))) dX12_planTold_137 (by first | rfl | simp only [zm_Is, zm_Rs, zm_As, zm_Os, zm_In0, zm_Rn0])).mpr ⟨⟨g2, g3⟩, ?_⟩
      refine (zq_goto (t := 142) dX12_planTold_138 rfl).mpr ?_
      refine (zq_iadd dX12_planTold_142).mpr ?_
      refine (zq_istore_n dX12_planTold_143 (by simp) rfl).mpr ?_
      refine (zq_iinc dX12_planTold_144 rfl rfl).mpr ?_
      refine (zq_goto (t := 16) dX12_planTold_147 rfl).mpr ?_
      exact h
    · replace h := h.2 c
      refine (zq_iload dX12_planTold_116 rfl).mpr ?_
      refine (zq_iconst dX12_planTold_118 (by decide)).mpr ?_
      refine (zq_icmp_eq (t := 129) dX12_planTold_119 rfl).mpr ⟨fun c => ?_, fun c => ?_⟩
      · replace h := h.1 c
        refine (zq_aload_n dX12_planTold_129 rfl).mpr ?_
        obtain ⟨g4, h⟩ := h
        refine (zq_getR2 (f := 778) (v := (mR m 778 a0)) dX12_planTold_130 fl_12_29 (by decide) rfl rfl (by first | rfl | simp only [zm_Is, zm_Rs, zm_As, zm_Os, zm_In0, zm_Rn0])).mpr ⟨g4, ?_⟩
        refine (zq_iload dX12_planTold_133 rfl).mpr ?_
        refine (zq_iconst dX12_planTold_135 (by decide)).mpr ?_
        refine (zq_iadd dX12_planTold_136).mpr ?_
        obtain ⟨g5, h⟩ := h
        obtain ⟨g6, h⟩ := h
        refine (zq_iald2 (v := (mA m (mR m 778 a0) (Int.toNat (wr (a5 + 1))))) dX12_planTold_137 (by first | rfl | simp only [zm_Is, zm_Rs, zm_As, zm_Os, zm_In0, zm_Rn0])).mpr ⟨⟨g5, g6⟩, ?_⟩
        refine (zq_goto (t := 142) dX12_planTold_138 rfl).mpr ?_
        refine (zq_iadd dX12_planTold_142).mpr ?_
        refine (zq_istore_n dX12_planTold_143 (by simp) rfl).mpr ?_
        refine (zq_iinc dX12_planTold_144 rfl rfl).mpr ?_
        refine (zq_goto (t := 16) dX12_planTold_147 rfl).mpr ?_
        exact h
      · replace h := h.2 c
        refine (zq_iload dX12_planTold_122 rfl).mpr ?_
        refine (zq_bipush dX12_planTold_124 (by decide)).mpr ?_
        refine (zq_icmp_ne (t := 141) dX12_planTold_126 rfl).mpr ⟨fun c => ?_, fun c => ?_⟩
        · replace h := h.1 c
          refine (zq_iconst dX12_planTold_141 (by decide)).mpr ?_
          refine (zq_iadd dX12_planTold_142).mpr ?_
          refine (zq_istore_n dX12_planTold_143 (by simp) rfl).mpr ?_
          refine (zq_iinc dX12_planTold_144 rfl rfl).mpr ?_
          refine (zq_goto (t := 16) dX12_planTold_147 rfl).mpr ?_
          exact h
        · replace h := h.2 c
          refine (zq_aload_n dX12_planTold_129 rfl).mpr ?_
          obtain ⟨g7, h⟩ := h
          refine (zq_getR2 (f := 778) (v := (mR m 778 a0)) dX12_planTold_130 fl_12_29 (by decide) rfl rfl (by first | rfl | simp only [zm_Is, zm_Rs, zm_As, zm_Os, zm_In0, zm_Rn0])).mpr ⟨g7, ?_⟩
          refine (zq_iload dX12_planTold_133 rfl).mpr ?_
          refine (zq_iconst dX12_planTold_135 (by decide)).mpr ?_
          refine (zq_iadd dX12_planTold_136).mpr ?_
          obtain ⟨g8, h⟩ := h
          obtain ⟨g9, h⟩ := h
          refine (zq_iald2 (v := (mA m (mR m 778 a0) (Int.toNat (wr (a5 + 1))))) dX12_planTold_137 (by first | rfl | simp only [zm_Is, zm_Rs, zm_As, zm_Os, zm_In0, zm_Rn0])).mpr ⟨⟨g8, g9⟩, ?_⟩
          refine (zq_goto (t := 142) dX12_planTold_138 rfl).mpr ?_
          refine (zq_iadd dX12_planTold_142).mpr ?_
          refine (zq_istore_n dX12_planTold_143 (by simp) rfl).mpr ?_
          refine (zq_iinc dX12_planTold_144 rfl rfl).mpr ?_
          refine (zq_goto (t := 16) dX12_planTold_147 rfl).mpr ?_
          exact h
theorem bX12_plan_0 {a0 : Nat} {a1 : Int} {a2 : Int} (h : (mC m a0 = 13) ∧ zC xs xl d 163 [zI a1, zI 0, zI 5] (sI m 768 a0 0) (fun r m2 => ∃ v3 : Int, r = .inl (some (zI v3)) ∧ ((v3 = 0 → (mC m2 a0 = 13) ∧ zC xs xl d 162 [zR a0, zI 1] m2 (fun r m4 => ∃ v5 : Int, r = .inl (some (zI v5)) ∧ Q (.inl (some (zI v5))) m4)) ∧ (¬ (v3 = 0) → zC xs xl d 163 [zI a2, zI 0, zI 3] m2 (fun r m7 => ∃ v8 : Int, r = .inl (some (zI v8)) ∧ ((v8 = 0 → (mC m7 a0 = 13) ∧ zC xs xl d 162 [zR a0, zI 1] m7 (fun r m9 => ∃ v10 : Int, r = .inl (some (zI v10)) ∧ Q (.inl (some (zI v10))) m9)) ∧ (¬ (v8 = 0) → (mC m7 a0 = 13) ∧ zC xs xl d 184 [zR a0, zI a1, zI a2] m7 (fun r m12 => ∃ v13 : Int, r = .inl (some (zI v13)) ∧ Q (.inl (some (zI v13))) m12)))))))) : zC xs xl (d + 1) 185 [zR a0, zI a1, zI a2] m Q := by
  refine zk_185 ?_
  refine (zq_aload_n dX12_plan_0 rfl).mpr ?_
  refine (zq_iconst dX12_plan_1 (by decide)).mpr ?_
  obtain ⟨g1, h⟩ := h
  refine (zq_putI (f := 768) dX12_plan_2 fl_12_45 (by decide) rfl rfl rfl).mpr ⟨g1, ?_⟩
  refine (zq_iload_n dX12_plan_5 rfl).mpr ?_
  refine (zq_iconst dX12_plan_6 (by decide)).mpr ?_
  refine (zq_iconst dX12_plan_7 (by decide)).mpr ?_
  refine zq_staticI (n := 3) dX12_plan_8 mr_12_55 zn_163 rfl rfl (Nat.le_of_ble_eq_true rfl) (Nat.le_of_ble_eq_true rfl) ?_
  refine h.mono (fun r m2 h => ?_)
  obtain ⟨v3, rfl, h⟩ := h
  refine ⟨_, rfl, ?_⟩
  refine (zq_if_eq (t := 32) dX12_plan_11 rfl).mpr ⟨fun c => ?_, fun c => ?_⟩
  · replace h := h.1 c
    refine (zq_aload_n dX12_plan_32 rfl).mpr ?_
    refine (zq_iconst dX12_plan_33 (by decide)).mpr ?_
    obtain ⟨g6, h⟩ := h
    refine zq_virtualI (n := 1) dX12_plan_34 mr_12_51 zn_162 rfl rfl rfl (zrcv_R zo_162 (by decide) g6) (Nat.le_of_ble_eq_true rfl) ?_
    refine h.mono (fun r m4 h => ?_)
    obtain ⟨v5, rfl, h⟩ := h
    refine ⟨_, rfl, ?_⟩
    exact (zq_iret dX12_plan_37 rfl).mpr ⟨trivial, h⟩
  · replace h := h.2 c
    refine (zq_iload_n dX12_plan_14 rfl).mpr ?_
    refine (zq_iconst dX12_plan_15 (by decide)).mpr ?_
    refine (zq_iconst dX12_plan_16 (by decide)).mpr ?_
    refine zq_staticI (n := 3) dX12_plan_17 mr_12_55 zn_163 rfl rfl (Nat.le_of_ble_eq_true rfl) (Nat.le_of_ble_eq_true rfl) ?_
    refine h.mono (fun r m7 h => ?_)
    obtain ⟨v8, rfl, h⟩ := h
    refine ⟨_, rfl, ?_⟩
    refine (zq_if_eq (t := 32) dX12_plan_20 rfl).mpr ⟨fun c => ?_, fun c => ?_⟩
    · replace h := h.1 c
      refine (zq_aload_n dX12_plan_32 rfl).mpr ?_
      refine (zq_iconst dX12_plan_33 (by decide)).mpr ?_
      obtain ⟨g11, h⟩ := h
      refine zq_virtualI (n := 1) dX12_plan_34 mr_12_51 zn_162 rfl rfl rfl (zrcv_R zo_162 (by decide) g11) (Nat.le_of_ble_eq_true rfl) ?_
      refine h.mono (fun r m9 h => ?_)
      obtain ⟨v10, rfl, h⟩ := h
      refine ⟨_, rfl, ?_⟩
      exact (zq_iret dX12_plan_37 rfl).mpr ⟨trivial, h⟩
    · replace h := h.2 c
      refine (zq_aload_n dX12_plan_23 rfl).mpr ?_
      refine (zq_iload_n dX12_plan_24 rfl).mpr ?_
      refine (zq_iload_n dX12_plan_25 rfl).mpr ?_
      obtain ⟨g14, h⟩ := h
      refine zq_virtualI (n := 2) dX12_plan_26 mr_12_174 zn_184 rfl rfl rfl (zrcv_R zo_184 (by decide) g14) (Nat.le_of_ble_eq_true rfl) ?_
      refine h.mono (fun r m12 h => ?_)
      obtain ⟨v13, rfl, h⟩ := h
      refine ⟨_, rfl, ?_⟩
      refine (zq_goto (t := 37) dX12_plan_29 rfl).mpr ?_
      exact (zq_iret dX12_plan_37 rfl).mpr ⟨trivial, h⟩
theorem bX12_addPlank_0 {a0 : Nat} {a1 : Int} {a2 : Int} {a3 : Int} (h : (mC m a0 = 13) ∧ zC xs xl d 163 [zI a1, zI 0, zI 3] (sI m 768 a0 0) (fun r m2 => ∃ v3 : Int, r = .inl (some (zI v3)) ∧ ((v3 = 0 → (mC m2 a0 = 13) ∧ zC xs xl d 162 [zR a0, zI 1] m2 (fun r m4 => ∃ v5 : Int, r = .inl (some (zI v5)) ∧ Q (.inl (some (zI v5))) m4)) ∧ (¬ (v3 = 0) → zC xs xl d 163 [zI a2, zI 10, zI 300] m2 (fun r m7 => ∃ v8 : Int, r = .inl (some (zI v8)) ∧ ((v8 = 0 → (mC m7 a0 = 13) ∧ zC xs xl d 162 [zR a0, zI 1] m7 (fun r m9 => ∃ v10 : Int, r = .inl (some (zI v10)) ∧ Q (.inl (some (zI v10))) m9)) ∧ (¬ (v8 = 0) → zC xs xl d 163 [zI a3, zI 0, zI 100] m7 (fun r m12 => ∃ v13 : Int, r = .inl (some (zI v13)) ∧ ((v13 ≠ 0 → (mC m12 a0 = 13) ∧ (mC m12 (mR m12 784 a0) = 12) ∧ (((mI m12 705 (mR m12 784 a0)) ≠ 60 → zC xs xl d 137 [zR (mR m12 784 a0), zI a1, zI a2, zI a3] m12 (fun r m16 => ∃ v17 : Int, r = .inl (some (zI v17)) ∧ Q (.inl (some (zI v17))) m16)) ∧ (¬ ((mI m12 705 (mR m12 784 a0)) ≠ 60) → zC xs xl d 162 [zR a0, zI 2] m12 (fun r m18 => ∃ v19 : Int, r = .inl (some (zI v19)) ∧ Q (.inl (some (zI v19))) m18)))) ∧ (¬ (v13 ≠ 0) → (mC m12 a0 = 13) ∧ zC xs xl d 162 [zR a0, zI 1] m12 (fun r m20 => ∃ v21 : Int, r = .inl (some (zI v21)) ∧ Q (.inl (some (zI v21))) m20))))))))))) : zC xs xl (d + 1) 186 [zR a0, zI a1, zI a2, zI a3] m Q := by
  refine zk_186 ?_
  refine (zq_aload_n dX12_addPlank_0 rfl).mpr ?_
  refine (zq_iconst dX12_addPlank_1 (by decide)).mpr ?_
  obtain ⟨g1, h⟩ := h
  refine (zq_putI (f := 768) dX12_addPlank_2 fl_12_45 (by decide) rfl rfl rfl).mpr ⟨g1, ?_⟩
  refine (zq_iload_n dX12_addPlank_5 rfl).mpr ?_
  refine (zq_iconst dX12_addPlank_6 (by decide)).mpr ?_
  refine (zq_iconst dX12_addPlank_7 (by decide)).mpr ?_
  refine zq_staticI (n := 3) dX12_addPlank_8 mr_12_55 zn_163 rfl rfl (Nat.le_of_ble_eq_true rfl) (Nat.le_of_ble_eq_true rfl) ?_
  refine h.mono (fun r m2 h => ?_)
  obtain ⟨v3, rfl, h⟩ := h
  refine ⟨_, rfl, ?_⟩
  refine (zq_if_eq (t := 36) dX12_addPlank_11 rfl).mpr ⟨fun c => ?_, fun c => ?_⟩
  · replace h := h.1 c
    refine (zq_aload_n dX12_addPlank_36 rfl).mpr ?_
    refine (zq_iconst dX12_addPlank_37 (by decide)).mpr ?_
    obtain ⟨g6, h⟩ := h
    refine zq_virtualI (n := 1) dX12_addPlank_38 mr_12_51 zn_162 rfl rfl rfl (zrcv_R zo_162 (by decide) g6) (Nat.le_of_ble_eq_true rfl) ?_
    refine h.mono (fun r m4 h => ?_)
    obtain ⟨v5, rfl, h⟩ := h
    refine ⟨_, rfl, ?_⟩
    exact (zq_iret dX12_addPlank_41 rfl).mpr ⟨trivial, h⟩
  · replace h := h.2 c
    refine (zq_iload_n dX12_addPlank_14 rfl).mpr ?_
    refine (zq_bipush dX12_addPlank_15 (by decide)).mpr ?_
    refine (zq_sipush dX12_addPlank_17 (by decide)).mpr ?_
    refine zq_staticI (n := 3) dX12_addPlank_20 mr_12_55 zn_163 rfl rfl (Nat.le_of_ble_eq_true rfl) (Nat.le_of_ble_eq_true rfl) ?_
    refine h.mono (fun r m7 h => ?_)
    obtain ⟨v8, rfl, h⟩ := h
    refine ⟨_, rfl, ?_⟩
    refine (zq_if_eq (t := 36) dX12_addPlank_23 rfl).mpr ⟨fun c => ?_, fun c => ?_⟩
    · replace h := h.1 c
      refine (zq_aload_n dX12_addPlank_36 rfl).mpr ?_
      refine (zq_iconst dX12_addPlank_37 (by decide)).mpr ?_
      obtain ⟨g11, h⟩ := h
      refine zq_virtualI (n := 1) dX12_addPlank_38 mr_12_51 zn_162 rfl rfl rfl (zrcv_R zo_162 (by decide) g11) (Nat.le_of_ble_eq_true rfl) ?_
      refine h.mono (fun r m9 h => ?_)
      obtain ⟨v10, rfl, h⟩ := h
      refine ⟨_, rfl, ?_⟩
      exact (zq_iret dX12_addPlank_41 rfl).mpr ⟨trivial, h⟩
    · replace h := h.2 c
      refine (zq_iload_n dX12_addPlank_26 rfl).mpr ?_
      refine (zq_iconst dX12_addPlank_27 (by decide)).mpr ?_
      refine (zq_bipush dX12_addPlank_28 (by decide)).mpr ?_
      refine zq_staticI (n := 3) dX12_addPlank_30 mr_12_55 zn_163 rfl rfl (Nat.le_of_ble_eq_true rfl) (Nat.le_of_ble_eq_true rfl) ?_
      refine h.mono (fun r m12 h => ?_)
      obtain ⟨v13, rfl, h⟩ := h
      refine ⟨_, rfl, ?_⟩
      refine (zq_if_ne (t := 42) dX12_addPlank_33 rfl).mpr ⟨fun c => ?_, fun c => ?_⟩
      · replace h := h.1 c
        refine (zq_aload_n dX12_addPlank_42 rfl).mpr ?_
        obtain ⟨g14, h⟩ := h
        refine (zq_getR2 (f := 784) (v := (mR m12 784 a0)) dX12_addPlank_43 fl_12_38 (by decide) rfl rfl (by first | rfl | simp only [zm_Is, zm_Rs, zm_As, zm_Os, zm_In0, zm_Rn0])).mpr ⟨g14, ?_⟩
        obtain ⟨g15, h⟩ := h
        refine (zq_getI2 (f := 705) (v := (mI m12 705 (mR m12 784 a0))) dX12_addPlank_46 fl_12_178 (by decide) rfl rfl (by first | rfl | simp only [zm_Is, zm_Rs, zm_As, zm_Os, zm_In0, zm_Rn0])).mpr ⟨g15, ?_⟩
        refine (zq_bipush dX12_addPlank_49 (by decide)).mpr ?_
        refine (zq_icmp_ne (t := 60) dX12_addPlank_51 rfl).mpr ⟨fun c => ?_, fun c => ?_⟩
        · replace h := h.1 c
          refine (zq_aload_n dX12_addPlank_60 rfl).mpr ?_
          refine (zq_getR2 (f := 784) (v := (mR m12 784 a0)) dX12_addPlank_61 fl_12_38 (by decide) rfl rfl (by first | rfl | simp only [zm_Is, zm_Rs, zm_As, zm_Os, zm_In0, zm_Rn0])).mpr ⟨g14, ?_⟩
          refine (zq_iload_n dX12_addPlank_64 rfl).mpr ?_
          refine (zq_iload_n dX12_addPlank_65 rfl).mpr ?_
          refine (zq_iload_n dX12_addPlank_66 rfl).mpr ?_
          refine zq_virtualI (n := 3) dX12_addPlank_67 mr_12_181 zn_137 rfl rfl rfl (zrcv_R zo_137 (by decide) g15) (Nat.le_of_ble_eq_true rfl) ?_
          refine h.mono (fun r m16 h => ?_)
          obtain ⟨v17, rfl, h⟩ := h
          refine ⟨_, rfl, ?_⟩
          exact (zq_iret dX12_addPlank_70 rfl).mpr ⟨trivial, h⟩
        · replace h := h.2 c
          refine (zq_aload_n dX12_addPlank_54 rfl).mpr ?_
          refine (zq_iconst dX12_addPlank_55 (by decide)).mpr ?_
          refine zq_virtualI (n := 1) dX12_addPlank_56 mr_12_51 zn_162 rfl rfl rfl (zrcv_R zo_162 (by decide) g14) (Nat.le_of_ble_eq_true rfl) ?_
          refine h.mono (fun r m18 h => ?_)
          obtain ⟨v19, rfl, h⟩ := h
          refine ⟨_, rfl, ?_⟩
          exact (zq_iret dX12_addPlank_59 rfl).mpr ⟨trivial, h⟩
      · replace h := h.2 c
        refine (zq_aload_n dX12_addPlank_36 rfl).mpr ?_
        refine (zq_iconst dX12_addPlank_37 (by decide)).mpr ?_
        obtain ⟨g22, h⟩ := h
        refine zq_virtualI (n := 1) dX12_addPlank_38 mr_12_51 zn_162 rfl rfl rfl (zrcv_R zo_162 (by decide) g22) (Nat.le_of_ble_eq_true rfl) ?_
        refine h.mono (fun r m20 h => ?_)
        obtain ⟨v21, rfl, h⟩ := h
        refine ⟨_, rfl, ?_⟩
        exact (zq_iret dX12_addPlank_41 rfl).mpr ⟨trivial, h⟩
theorem bX12_isPlank_0 {a0 : Nat} {a1 : Int} (h : (mC m a0 = 13) ∧ (mC m (mR m 784 a0) = 12) ∧ zC xs xl d 163 [zI a1, zI 0, zI (wr ((mI m 705 (mR m 784 a0)) - 1))] m (fun r m3 => ∃ v4 : Int, r = .inl (some (zI v4)) ∧ (v4 = 0 ∨ v4 = 1) ∧ Q (.inl (some (zI v4))) m3)) : zC xs xl (d + 1) 187 [zR a0, zI a1] m Q := by
  refine zk_187 ?_
  refine (zq_iload_n dX12_isPlank_0 rfl).mpr ?_
  refine (zq_iconst dX12_isPlank_1 (by decide)).mpr ?_
  refine (zq_aload_n dX12_isPlank_2 rfl).mpr ?_
  obtain ⟨g1, h⟩ := h
  refine (zq_getR2 (f := 784) (v := (mR m 784 a0)) dX12_isPlank_3 fl_12_38 (by decide) rfl rfl (by first | rfl | simp only [zm_Is, zm_Rs, zm_As, zm_Os, zm_In0, zm_Rn0])).mpr ⟨g1, ?_⟩
  obtain ⟨g2, h⟩ := h
  refine (zq_getI2 (f := 705) (v := (mI m 705 (mR m 784 a0))) dX12_isPlank_6 fl_12_178 (by decide) rfl rfl (by first | rfl | simp only [zm_Is, zm_Rs, zm_As, zm_Os, zm_In0, zm_Rn0])).mpr ⟨g2, ?_⟩
  refine (zq_iconst dX12_isPlank_9 (by decide)).mpr ?_
  refine (zq_isub dX12_isPlank_10).mpr ?_
  refine zq_staticI (n := 3) dX12_isPlank_11 mr_12_55 zn_163 rfl rfl (Nat.le_of_ble_eq_true rfl) (Nat.le_of_ble_eq_true rfl) ?_
  refine h.mono (fun r m3 h => ?_)
  obtain ⟨v4, rfl, h⟩ := h
  refine ⟨_, rfl, ?_⟩
  obtain ⟨g5, h⟩ := h
  exact (zq_iret dX12_isPlank_14 rfl).mpr ⟨g5, h⟩
theorem bX12_addKnot_0 {a0 : Nat} {a1 : Int} {a2 : Int} (h : (mC m a0 = 13) ∧ zC xs xl d 187 [zR a0, zI a1] (sI m 768 a0 0) (fun r m2 => ∃ v3 : Int, r = .inl (some (zI v3)) ∧ ((v3 ≠ 0 → (mC m2 a0 = 13) ∧ (mC m2 (mR m2 784 a0) = 12) ∧ (mC m2 (mR m2 707 (mR m2 784 a0)) = 20) ∧ (0 ≤ a1 ∧ a1 < mN m2 (mR m2 707 (mR m2 784 a0))) ∧ zC xs xl d 163 [zI a2, zI 0, zI (wr ((mA m2 (mR m2 707 (mR m2 784 a0)) (Int.toNat a1)) - 1))] m2 (fun r m8 => ∃ v9 : Int, r = .inl (some (zI v9)) ∧ ((v9 ≠ 0 → (mC m8 a0 = 13) ∧ (mC m8 (mR m8 784 a0) = 12) ∧ zC xs xl d 133 [zR (mR m8 784 a0), zI a1, zI a2] m8 (fun r m11 => ∃ v12 : Int, r = .inl (some (zI v12)) ∧ ((v12 ≠ 0 → (mC m11 a0 = 13) ∧ zC xs xl d 162 [zR a0, zI 3] m11 (fun r m14 => ∃ v15 : Int, r = .inl (some (zI v15)) ∧ Q (.inl (some (zI v15))) m14)) ∧ (¬ (v12 ≠ 0) → (mC m11 a0 = 13) ∧ (mC m11 (mR m11 784 a0) = 12) ∧ (mC m11 (mR m11 709 (mR m11 784 a0)) = 20) ∧ (0 ≤ a1 ∧ a1 < mN m11 (mR m11 709 (mR m11 784 a0))) ∧ (((mA m11 (mR m11 709 (mR m11 784 a0)) (Int.toNat a1)) ≠ 8 → zC xs xl d 138 [zR (mR m11 784 a0), zI a1, zI a2] m11 (fun r m21 => r = .inl none ∧ (mC m21 a0 = 13) ∧ (mC m21 (mR m21 784 a0) = 12) ∧ (mC m21 (mR m21 709 (mR m21 784 a0)) = 20) ∧ (0 ≤ a1 ∧ a1 < mN m21 (mR m21 709 (mR m21 784 a0))) ∧ Q (.inl (some (zI (mA m21 (mR m21 709 (mR m21 784 a0)) (Int.toNat a1))))) m21)) ∧ (¬ ((mA m11 (mR m11 709 (mR m11 784 a0)) (Int.toNat a1)) ≠ 8) → zC xs xl d 162 [zR a0, zI 3] m11 (fun r m27 => ∃ v28 : Int, r = .inl (some (zI v28)) ∧ Q (.inl (some (zI v28))) m27))))))) ∧ (¬ (v9 ≠ 0) → (mC m8 a0 = 13) ∧ zC xs xl d 162 [zR a0, zI 2] m8 (fun r m29 => ∃ v30 : Int, r = .inl (some (zI v30)) ∧ Q (.inl (some (zI v30))) m29))))) ∧ (¬ (v3 ≠ 0) → (mC m2 a0 = 13) ∧ zC xs xl d 162 [zR a0, zI 1] m2 (fun r m32 => ∃ v33 : Int, r = .inl (some (zI v33)) ∧ Q (.inl (some (zI v33))) m32))))) : zC xs xl (d + 1) 188 [zR a0, zI a1, zI a2] m Q := by
  refine zk_188 ?_
  refine (zq_aload_n dX12_addKnot_0 rfl).mpr ?_
  refine (zq_iconst dX12_addKnot_1 (by decide)).mpr ?_
  obtain ⟨g1, h⟩ := h
  refine (zq_putI (f := 768) dX12_addKnot_2 fl_12_45 (by decide) rfl rfl rfl).mpr ⟨g1, ?_⟩
  refine (zq_aload_n dX12_addKnot_5 rfl).mpr ?_
  refine (zq_iload_n dX12_addKnot_6 rfl).mpr ?_
  refine zq_virtualI (n := 1) dX12_addKnot_7 mr_12_185 zn_187 rfl rfl rfl (zrcv_R zo_187 (by decide) g1) (Nat.le_of_ble_eq_true rfl) ?_
  refine h.mono (fun r m2 h => ?_)
  obtain ⟨v3, rfl, h⟩ := h
  refine ⟨_, rfl, ?_⟩
  refine (zq_if_ne (t := 19) dX12_addKnot_10 rfl).mpr ⟨fun c => ?_, fun c => ?_⟩
  · replace h := h.1 c
    refine (zq_iload_n dX12_addKnot_19 rfl).mpr ?_
    refine (zq_iconst dX12_addKnot_20 (by decide)).mpr ?_
    refine (zq_aload_n dX12_addKnot_21 rfl).mpr ?_
    obtain ⟨g4, h⟩ := h
    refine (zq_getR2 (f := 784) (v := (mR m2 784 a0)) dX12_addKnot_22 fl_12_38 (by decide) rfl rfl (by first | rfl | simp only [zm_Is, zm_Rs, zm_As, zm_Os, zm_In0, zm_Rn0])).mpr ⟨g4, ?_⟩
    obtain ⟨g5, h⟩ := h
    refine (zq_getR2 (f := 707) (v := (mR m2 707 (mR m2 784 a0))) dX12_addKnot_25 fl_12_188 (by decide) rfl rfl (by first | rfl | simp only [zm_Is, zm_Rs, zm_As, zm_Os, zm_In0, zm_Rn0])).mpr ⟨g5, ?_⟩
    refine (zq_iload_n dX12_addKnot_28 rfl).mpr ?_
    obtain ⟨g6, h⟩ := h
    obtain ⟨g7, h⟩ := h
    refine (zq_iald2 (v := (mA m2 (mR m2 707 (mR m2 784 a0)) (Int.toNat a1))) dX12_addKnot_29 (by first | rfl | simp only [zm_Is, zm_Rs, zm_As, zm_Os, zm_In0, zm_Rn0])).mpr ⟨⟨g6, g7⟩, ?_⟩
    refine (zq_iconst dX12_addKnot_30 (by decide)).mpr ?_
    refine (zq_isub dX12_addKnot_31).mpr ?_
    refine zq_staticI (n := 3) dX12_addKnot_32 mr_12_55 zn_163 rfl rfl (Nat.le_of_ble_eq_true rfl) (Nat.le_of_ble_eq_true rfl) ?_
    refine h.mono (fun r m8 h => ?_)
    obtain ⟨v9, rfl, h⟩ := h
    refine ⟨_, rfl, ?_⟩
    refine (zq_if_ne (t := 44) dX12_addKnot_35 rfl).mpr ⟨fun c => ?_, fun c => ?_⟩
    · replace h := h.1 c
      refine (zq_aload_n dX12_addKnot_44 rfl).mpr ?_
      obtain ⟨g10, h⟩ := h
      refine (zq_getR2 (f := 784) (v := (mR m8 784 a0)) dX12_addKnot_45 fl_12_38 (by decide) rfl rfl (by first | rfl | simp only [zm_Is, zm_Rs, zm_As, zm_Os, zm_In0, zm_Rn0])).mpr ⟨g10, ?_⟩
      refine (zq_iload_n dX12_addKnot_48 rfl).mpr ?_
      refine (zq_iload_n dX12_addKnot_49 rfl).mpr ?_
      obtain ⟨g13, h⟩ := h
      refine zq_virtualI (n := 2) dX12_addKnot_50 mr_12_191 zn_133 rfl rfl rfl (zrcv_R zo_133 (by decide) g13) (Nat.le_of_ble_eq_true rfl) ?_
      refine h.mono (fun r m11 h => ?_)
      obtain ⟨v12, rfl, h⟩ := h
      refine ⟨_, rfl, ?_⟩
      refine (zq_if_ne (t := 70) dX12_addKnot_53 rfl).mpr ⟨fun c => ?_, fun c => ?_⟩
      · replace h := h.1 c
        refine (zq_aload_n dX12_addKnot_70 rfl).mpr ?_
        refine (zq_iconst dX12_addKnot_71 (by decide)).mpr ?_
        obtain ⟨g16, h⟩ := h
        refine zq_virtualI (n := 1) dX12_addKnot_72 mr_12_51 zn_162 rfl rfl rfl (zrcv_R zo_162 (by decide) g16) (Nat.le_of_ble_eq_true rfl) ?_
        refine h.mono (fun r m14 h => ?_)
        obtain ⟨v15, rfl, h⟩ := h
        refine ⟨_, rfl, ?_⟩
        exact (zq_iret dX12_addKnot_75 rfl).mpr ⟨trivial, h⟩
      · replace h := h.2 c
        refine (zq_aload_n dX12_addKnot_56 rfl).mpr ?_
        obtain ⟨g17, h⟩ := h
        refine (zq_getR2 (f := 784) (v := (mR m11 784 a0)) dX12_addKnot_57 fl_12_38 (by decide) rfl rfl (by first | rfl | simp only [zm_Is, zm_Rs, zm_As, zm_Os, zm_In0, zm_Rn0])).mpr ⟨g17, ?_⟩
        obtain ⟨g18, h⟩ := h
        refine (zq_getR2 (f := 709) (v := (mR m11 709 (mR m11 784 a0))) dX12_addKnot_60 fl_12_194 (by decide) rfl rfl (by first | rfl | simp only [zm_Is, zm_Rs, zm_As, zm_Os, zm_In0, zm_Rn0])).mpr ⟨g18, ?_⟩
        refine (zq_iload_n dX12_addKnot_63 rfl).mpr ?_
        obtain ⟨g19, h⟩ := h
        obtain ⟨g20, h⟩ := h
        refine (zq_iald2 (v := (mA m11 (mR m11 709 (mR m11 784 a0)) (Int.toNat a1))) dX12_addKnot_64 (by first | rfl | simp only [zm_Is, zm_Rs, zm_As, zm_Os, zm_In0, zm_Rn0])).mpr ⟨⟨g19, g20⟩, ?_⟩
        refine (zq_bipush dX12_addKnot_65 (by decide)).mpr ?_
        refine (zq_icmp_ne (t := 76) dX12_addKnot_67 rfl).mpr ⟨fun c => ?_, fun c => ?_⟩
        · replace h := h.1 c
          refine (zq_aload_n dX12_addKnot_76 rfl).mpr ?_
          refine (zq_getR2 (f := 784) (v := (mR m11 784 a0)) dX12_addKnot_77 fl_12_38 (by decide) rfl rfl (by first | rfl | simp only [zm_Is, zm_Rs, zm_As, zm_Os, zm_In0, zm_Rn0])).mpr ⟨g17, ?_⟩
          refine (zq_iload_n dX12_addKnot_80 rfl).mpr ?_
          refine (zq_iload_n dX12_addKnot_81 rfl).mpr ?_
          refine zq_virtualV (n := 2) dX12_addKnot_82 mr_12_197 zn_138 rfl rfl rfl (zrcv_R zo_138 (by decide) g18) (Nat.le_of_ble_eq_true rfl) ?_
          refine h.mono (fun r m21 h => ?_)
          obtain ⟨rfl, h⟩ := h
          refine ⟨rfl, ?_⟩
          refine (zq_aload_n dX12_addKnot_85 rfl).mpr ?_
          obtain ⟨g23, h⟩ := h
          refine (zq_getR2 (f := 784) (v := (mR m21 784 a0)) dX12_addKnot_86 fl_12_38 (by decide) rfl rfl (by first | rfl | simp only [zm_Is, zm_Rs, zm_As, zm_Os, zm_In0, zm_Rn0])).mpr ⟨g23, ?_⟩
          obtain ⟨g24, h⟩ := h
          refine (zq_getR2 (f := 709) (v := (mR m21 709 (mR m21 784 a0))) dX12_addKnot_89 fl_12_194 (by decide) rfl rfl (by first | rfl | simp only [zm_Is, zm_Rs, zm_As, zm_Os, zm_In0, zm_Rn0])).mpr ⟨g24, ?_⟩
          refine (zq_iload_n dX12_addKnot_92 rfl).mpr ?_
          obtain ⟨g25, h⟩ := h
          obtain ⟨g26, h⟩ := h
          refine (zq_iald2 (v := (mA m21 (mR m21 709 (mR m21 784 a0)) (Int.toNat a1))) dX12_addKnot_93 (by first | rfl | simp only [zm_Is, zm_Rs, zm_As, zm_Os, zm_In0, zm_Rn0])).mpr ⟨⟨g25, g26⟩, ?_⟩
          exact (zq_iret dX12_addKnot_94 rfl).mpr ⟨trivial, h⟩
        · replace h := h.2 c
          refine (zq_aload_n dX12_addKnot_70 rfl).mpr ?_
          refine (zq_iconst dX12_addKnot_71 (by decide)).mpr ?_
          refine zq_virtualI (n := 1) dX12_addKnot_72 mr_12_51 zn_162 rfl rfl rfl (zrcv_R zo_162 (by decide) g17) (Nat.le_of_ble_eq_true rfl) ?_
          refine h.mono (fun r m27 h => ?_)
          obtain ⟨v28, rfl, h⟩ := h
          refine ⟨_, rfl, ?_⟩
          exact (zq_iret dX12_addKnot_75 rfl).mpr ⟨trivial, h⟩
    · replace h := h.2 c
      refine (zq_aload_n dX12_addKnot_38 rfl).mpr ?_
      refine (zq_iconst dX12_addKnot_39 (by decide)).mpr ?_
      obtain ⟨g31, h⟩ := h
      refine zq_virtualI (n := 1) dX12_addKnot_40 mr_12_51 zn_162 rfl rfl rfl (zrcv_R zo_162 (by decide) g31) (Nat.le_of_ble_eq_true rfl) ?_
      refine h.mono (fun r m29 h => ?_)
      obtain ⟨v30, rfl, h⟩ := h
      refine ⟨_, rfl, ?_⟩
      exact (zq_iret dX12_addKnot_43 rfl).mpr ⟨trivial, h⟩
  · replace h := h.2 c
    refine (zq_aload_n dX12_addKnot_13 rfl).mpr ?_
    refine (zq_iconst dX12_addKnot_14 (by decide)).mpr ?_
    obtain ⟨g34, h⟩ := h
    refine zq_virtualI (n := 1) dX12_addKnot_15 mr_12_51 zn_162 rfl rfl rfl (zrcv_R zo_162 (by decide) g34) (Nat.le_of_ble_eq_true rfl) ?_
    refine h.mono (fun r m32 h => ?_)
    obtain ⟨v33, rfl, h⟩ := h
    refine ⟨_, rfl, ?_⟩
    exact (zq_iret dX12_addKnot_18 rfl).mpr ⟨trivial, h⟩
theorem bX12_plankTold_0 {a0 : Nat} {a1 : Int} {a2 : Int} (h : ((a2 ≠ 0 → ((a2 ≠ 1 → ((a2 ≠ 2 → ((a2 ≠ 3 → (mC m a0 = 13) ∧ (mC m (mR m 784 a0) = 12) ∧ zC xs xl d 135 [zR (mR m 784 a0), zI a1] m (fun r m2 => ∃ v3 : Int, r = .inl (some (zI v3)) ∧ Q (.inl (some (zI v3))) m2)) ∧ (¬ (a2 ≠ 3) → (mC m a0 = 13) ∧ (mC m (mR m 784 a0) = 12) ∧ (mC m (mR m 709 (mR m 784 a0)) = 20) ∧ (0 ≤ a1 ∧ a1 < mN m (mR m 709 (mR m 784 a0))) ∧ Q (.inl (some (zI (mA m (mR m 709 (mR m 784 a0)) (Int.toNat a1))))) m))) ∧ (¬ (a2 ≠ 2) → (mC m a0 = 13) ∧ (mC m (mR m 784 a0) = 12) ∧ (mC m (mR m 708 (mR m 784 a0)) = 20) ∧ (0 ≤ a1 ∧ a1 < mN m (mR m 708 (mR m 784 a0))) ∧ Q (.inl (some (zI (mA m (mR m 708 (mR m 784 a0)) (Int.toNat a1))))) m))) ∧ (¬ (a2 ≠ 1) → (mC m a0 = 13) ∧ (mC m (mR m 784 a0) = 12) ∧ (mC m (mR m 707 (mR m 784 a0)) = 20) ∧ (0 ≤ a1 ∧ a1 < mN m (mR m 707 (mR m 784 a0))) ∧ Q (.inl (some (zI (mA m (mR m 707 (mR m 784 a0)) (Int.toNat a1))))) m))) ∧ (¬ (a2 ≠ 0) → (mC m a0 = 13) ∧ (mC m (mR m 784 a0) = 12) ∧ (mC m (mR m 706 (mR m 784 a0)) = 20) ∧ (0 ≤ a1 ∧ a1 < mN m (mR m 706 (mR m 784 a0))) ∧ Q (.inl (some (zI (mA m (mR m 706 (mR m 784 a0)) (Int.toNat a1))))) m))) : zC xs xl (d + 1) 189 [zR a0, zI a1, zI a2] m Q := by
  refine zk_189 ?_
  refine (zq_iload_n dX12_plankTold_0 rfl).mpr ?_
  refine (zq_if_ne (t := 16) dX12_plankTold_1 rfl).mpr ⟨fun c => ?_, fun c => ?_⟩
  · replace h := h.1 c
    refine (zq_iload_n dX12_plankTold_16 rfl).mpr ?_
    refine (zq_iconst dX12_plankTold_17 (by decide)).mpr ?_
    refine (zq_icmp_ne (t := 33) dX12_plankTold_18 rfl).mpr ⟨fun c => ?_, fun c => ?_⟩
    · replace h := h.1 c
      refine (zq_iload_n dX12_plankTold_33 rfl).mpr ?_
      refine (zq_iconst dX12_plankTold_34 (by decide)).mpr ?_
      refine (zq_icmp_ne (t := 50) dX12_plankTold_35 rfl).mpr ⟨fun c => ?_, fun c => ?_⟩
      · replace h := h.1 c
        refine (zq_iload_n dX12_plankTold_50 rfl).mpr ?_
        refine (zq_iconst dX12_plankTold_51 (by decide)).mpr ?_
        refine (zq_icmp_ne (t := 67) dX12_plankTold_52 rfl).mpr ⟨fun c => ?_, fun c => ?_⟩
        · replace h := h.1 c
          refine (zq_aload_n dX12_plankTold_67 rfl).mpr ?_
          obtain ⟨g1, h⟩ := h
          refine (zq_getR2 (f := 784) (v := (mR m 784 a0)) dX12_plankTold_68 fl_12_38 (by decide) rfl rfl (by first | rfl | simp only [zm_Is, zm_Rs, zm_As, zm_Os, zm_In0, zm_Rn0])).mpr ⟨g1, ?_⟩
          refine (zq_iload_n dX12_plankTold_71 rfl).mpr ?_
          obtain ⟨g4, h⟩ := h
          refine zq_virtualI (n := 1) dX12_plankTold_72 mr_12_207 zn_135 rfl rfl rfl (zrcv_R zo_135 (by decide) g4) (Nat.le_of_ble_eq_true rfl) ?_
          refine h.mono (fun r m2 h => ?_)
          obtain ⟨v3, rfl, h⟩ := h
          refine ⟨_, rfl, ?_⟩
          exact (zq_iret dX12_plankTold_75 rfl).mpr ⟨trivial, h⟩
        · replace h := h.2 c
          refine (zq_aload_n dX12_plankTold_55 rfl).mpr ?_
          obtain ⟨g5, h⟩ := h
          refine (zq_getR2 (f := 784) (v := (mR m 784 a0)) dX12_plankTold_56 fl_12_38 (by decide) rfl rfl (by first | rfl | simp only [zm_Is, zm_Rs, zm_As, zm_Os, zm_In0, zm_Rn0])).mpr ⟨g5, ?_⟩
          obtain ⟨g6, h⟩ := h
          refine (zq_getR2 (f := 709) (v := (mR m 709 (mR m 784 a0))) dX12_plankTold_59 fl_12_194 (by decide) rfl rfl (by first | rfl | simp only [zm_Is, zm_Rs, zm_As, zm_Os, zm_In0, zm_Rn0])).mpr ⟨g6, ?_⟩
          refine (zq_iload_n dX12_plankTold_62 rfl).mpr ?_
          obtain ⟨g7, h⟩ := h
          obtain ⟨g8, h⟩ := h
          refine (zq_iald2 (v := (mA m (mR m 709 (mR m 784 a0)) (Int.toNat a1))) dX12_plankTold_63 (by first | rfl | simp only [zm_Is, zm_Rs, zm_As, zm_Os, zm_In0, zm_Rn0])).mpr ⟨⟨g7, g8⟩, ?_⟩
          refine (zq_goto (t := 75) dX12_plankTold_64 rfl).mpr ?_
          exact (zq_iret dX12_plankTold_75 rfl).mpr ⟨trivial, h⟩
      · replace h := h.2 c
        refine (zq_aload_n dX12_plankTold_38 rfl).mpr ?_
        obtain ⟨g9, h⟩ := h
        refine (zq_getR2 (f := 784) (v := (mR m 784 a0)) dX12_plankTold_39 fl_12_38 (by decide) rfl rfl (by first | rfl | simp only [zm_Is, zm_Rs, zm_As, zm_Os, zm_In0, zm_Rn0])).mpr ⟨g9, ?_⟩
        obtain ⟨g10, h⟩ := h
        refine (zq_getR2 (f := 708) (v := (mR m 708 (mR m 784 a0))) dX12_plankTold_42 fl_12_204 (by decide) rfl rfl (by first | rfl | simp only [zm_Is, zm_Rs, zm_As, zm_Os, zm_In0, zm_Rn0])).mpr ⟨g10, ?_⟩
        refine (zq_iload_n dX12_plankTold_45 rfl).mpr ?_
        obtain ⟨g11, h⟩ := h
        obtain ⟨g12, h⟩ := h
        refine (zq_iald2 (v := (mA m (mR m 708 (mR m 784 a0)) (Int.toNat a1))) dX12_plankTold_46 (by first | rfl | simp only [zm_Is, zm_Rs, zm_As, zm_Os, zm_In0, zm_Rn0])).mpr ⟨⟨g11, g12⟩, ?_⟩
        refine (zq_goto (t := 75) dX12_plankTold_47 rfl).mpr ?_
        exact (zq_iret dX12_plankTold_75 rfl).mpr ⟨trivial, h⟩
    · replace h := h.2 c
      refine (zq_aload_n dX12_plankTold_21 rfl).mpr ?_
      obtain ⟨g13, h⟩ := h
      refine (zq_getR2 (f := 784) (v := (mR m 784 a0)) dX12_plankTold_22 fl_12_38 (by decide) rfl rfl (by first | rfl | simp only [zm_Is, zm_Rs, zm_As, zm_Os, zm_In0, zm_Rn0])).mpr ⟨g13, ?_⟩
      obtain ⟨g14, h⟩ := h
      refine (zq_getR2 (f := 707) (v := (mR m 707 (mR m 784 a0))) dX12_plankTold_25 fl_12_188 (by decide) rfl rfl (by first | rfl | simp only [zm_Is, zm_Rs, zm_As, zm_Os, zm_In0, zm_Rn0])).mpr ⟨g14, ?_⟩
      refine (zq_iload_n dX12_plankTold_28 rfl).mpr ?_
      obtain ⟨g15, h⟩ := h
      obtain ⟨g16, h⟩ := h
      refine (zq_iald2 (v := (mA m (mR m 707 (mR m 784 a0)) (Int.toNat a1))) dX12_plankTold_29 (by first | rfl | simp only [zm_Is, zm_Rs, zm_As, zm_Os, zm_In0, zm_Rn0])).mpr ⟨⟨g15, g16⟩, ?_⟩
      refine (zq_goto (t := 75) dX12_plankTold_30 rfl).mpr ?_
      exact (zq_iret dX12_plankTold_75 rfl).mpr ⟨trivial, h⟩
  · replace h := h.2 c
    refine (zq_aload_n dX12_plankTold_4 rfl).mpr ?_
    obtain ⟨g17, h⟩ := h
    refine (zq_getR2 (f := 784) (v := (mR m 784 a0)) dX12_plankTold_5 fl_12_38 (by decide) rfl rfl (by first | rfl | simp only [zm_Is, zm_Rs, zm_As, zm_Os, zm_In0, zm_Rn0])).mpr ⟨g17, ?_⟩
    obtain ⟨g18, h⟩ := h
    refine (zq_getR2 (f := 706) (v := (mR m 706 (mR m 784 a0))) dX12_plankTold_8 fl_12_201 (by decide) rfl rfl (by first | rfl | simp only [zm_Is, zm_Rs, zm_As, zm_Os, zm_In0, zm_Rn0])).mpr ⟨g18, ?_⟩
    refine (zq_iload_n dX12_plankTold_11 rfl).mpr ?_
    obtain ⟨g19, h⟩ := h
    obtain ⟨g20, h⟩ := h
    refine (zq_iald2 (v := (mA m (mR m 706 (mR m 784 a0)) (Int.toNat a1))) dX12_plankTold_12 (by first | rfl | simp only [zm_Is, zm_Rs, zm_As, zm_Os, zm_In0, zm_Rn0])).mpr ⟨⟨g19, g20⟩, ?_⟩
    refine (zq_goto (t := 75) dX12_plankTold_13 rfl).mpr ?_
    exact (zq_iret dX12_plankTold_75 rfl).mpr ⟨trivial, h⟩
theorem bX12_plank_0 {a0 : Nat} {a1 : Int} {a2 : Int} (h : (mC m a0 = 13) ∧ zC xs xl d 187 [zR a0, zI a1] (sI m 768 a0 0) (fun r m2 => ∃ v3 : Int, r = .inl (some (zI v3)) ∧ ((v3 = 0 → (mC m2 a0 = 13) ∧ zC xs xl d 162 [zR a0, zI 1] m2 (fun r m4 => ∃ v5 : Int, r = .inl (some (zI v5)) ∧ Q (.inl (some (zI v5))) m4)) ∧ (¬ (v3 = 0) → zC xs xl d 163 [zI a2, zI 0, zI 4] m2 (fun r m7 => ∃ v8 : Int, r = .inl (some (zI v8)) ∧ ((v8 = 0 → (mC m7 a0 = 13) ∧ zC xs xl d 162 [zR a0, zI 1] m7 (fun r m9 => ∃ v10 : Int, r = .inl (some (zI v10)) ∧ Q (.inl (some (zI v10))) m9)) ∧ (¬ (v8 = 0) → (mC m7 a0 = 13) ∧ zC xs xl d 189 [zR a0, zI a1, zI a2] m7 (fun r m12 => ∃ v13 : Int, r = .inl (some (zI v13)) ∧ Q (.inl (some (zI v13))) m12)))))))) : zC xs xl (d + 1) 190 [zR a0, zI a1, zI a2] m Q := by
  refine zk_190 ?_
  refine (zq_aload_n dX12_plank_0 rfl).mpr ?_
  refine (zq_iconst dX12_plank_1 (by decide)).mpr ?_
  obtain ⟨g1, h⟩ := h
  refine (zq_putI (f := 768) dX12_plank_2 fl_12_45 (by decide) rfl rfl rfl).mpr ⟨g1, ?_⟩
  refine (zq_aload_n dX12_plank_5 rfl).mpr ?_
  refine (zq_iload_n dX12_plank_6 rfl).mpr ?_
  refine zq_virtualI (n := 1) dX12_plank_7 mr_12_185 zn_187 rfl rfl rfl (zrcv_R zo_187 (by decide) g1) (Nat.le_of_ble_eq_true rfl) ?_
  refine h.mono (fun r m2 h => ?_)
  obtain ⟨v3, rfl, h⟩ := h
  refine ⟨_, rfl, ?_⟩
  refine (zq_if_eq (t := 31) dX12_plank_10 rfl).mpr ⟨fun c => ?_, fun c => ?_⟩
  · replace h := h.1 c
    refine (zq_aload_n dX12_plank_31 rfl).mpr ?_
    refine (zq_iconst dX12_plank_32 (by decide)).mpr ?_
    obtain ⟨g6, h⟩ := h
    refine zq_virtualI (n := 1) dX12_plank_33 mr_12_51 zn_162 rfl rfl rfl (zrcv_R zo_162 (by decide) g6) (Nat.le_of_ble_eq_true rfl) ?_
    refine h.mono (fun r m4 h => ?_)
    obtain ⟨v5, rfl, h⟩ := h
    refine ⟨_, rfl, ?_⟩
    exact (zq_iret dX12_plank_36 rfl).mpr ⟨trivial, h⟩
  · replace h := h.2 c
    refine (zq_iload_n dX12_plank_13 rfl).mpr ?_
    refine (zq_iconst dX12_plank_14 (by decide)).mpr ?_
    refine (zq_iconst dX12_plank_15 (by decide)).mpr ?_
    refine zq_staticI (n := 3) dX12_plank_16 mr_12_55 zn_163 rfl rfl (Nat.le_of_ble_eq_true rfl) (Nat.le_of_ble_eq_true rfl) ?_
    refine h.mono (fun r m7 h => ?_)
    obtain ⟨v8, rfl, h⟩ := h
    refine ⟨_, rfl, ?_⟩
    refine (zq_if_eq (t := 31) dX12_plank_19 rfl).mpr ⟨fun c => ?_, fun c => ?_⟩
    · replace h := h.1 c
      refine (zq_aload_n dX12_plank_31 rfl).mpr ?_
      refine (zq_iconst dX12_plank_32 (by decide)).mpr ?_
      obtain ⟨g11, h⟩ := h
      refine zq_virtualI (n := 1) dX12_plank_33 mr_12_51 zn_162 rfl rfl rfl (zrcv_R zo_162 (by decide) g11) (Nat.le_of_ble_eq_true rfl) ?_
      refine h.mono (fun r m9 h => ?_)
      obtain ⟨v10, rfl, h⟩ := h
      refine ⟨_, rfl, ?_⟩
      exact (zq_iret dX12_plank_36 rfl).mpr ⟨trivial, h⟩
    · replace h := h.2 c
      refine (zq_aload_n dX12_plank_22 rfl).mpr ?_
      refine (zq_iload_n dX12_plank_23 rfl).mpr ?_
      refine (zq_iload_n dX12_plank_24 rfl).mpr ?_
      obtain ⟨g14, h⟩ := h
      refine zq_virtualI (n := 2) dX12_plank_25 mr_12_210 zn_189 rfl rfl rfl (zrcv_R zo_189 (by decide) g14) (Nat.le_of_ble_eq_true rfl) ?_
      refine h.mono (fun r m12 h => ?_)
      obtain ⟨v13, rfl, h⟩ := h
      refine ⟨_, rfl, ?_⟩
      refine (zq_goto (t := 36) dX12_plank_28 rfl).mpr ?_
      exact (zq_iret dX12_plank_36 rfl).mpr ⟨trivial, h⟩
theorem bX12_find_0 {a0 : Nat} {a1 : Int} {a2 : Int} {a3 : Int} (h : (mC m a0 = 13) ∧ zC xs xl d 163 [zI a1, zI 0, zI 3] (sI m 768 a0 0) (fun r m2 => ∃ v3 : Int, r = .inl (some (zI v3)) ∧ ((v3 = 0 → (mC m2 a0 = 13) ∧ zC xs xl d 162 [zR a0, zI 1] m2 (fun r m4 => ∃ v5 : Int, r = .inl (some (zI v5)) ∧ Q (.inl (some (zI v5))) m4)) ∧ (¬ (v3 = 0) → zC xs xl d 163 [zI a2, zI 10, zI 200] m2 (fun r m7 => ∃ v8 : Int, r = .inl (some (zI v8)) ∧ ((v8 ≠ 0 → (mC m7 a0 = 13) ∧ (mC m7 (mR m7 784 a0) = 12) ∧ zC xs xl d 136 [zR (mR m7 784 a0), zI a1, zI a2] m7 (fun r m10 => ∃ v11 : Int, r = .inl (some (zI v11)) ∧ ((v11 = (-1) → Q (.inl (some (zI v11))) m10) ∧ (¬ (v11 = (-1)) → ((a3 ≠ 0 → (mC m10 a0 = 13) ∧ (mC m10 (mR m10 784 a0) = 12) ∧ zC xs xl d 134 [zR (mR m10 784 a0), zI v11, zI a2] m10 (fun r m14 => ∃ v15 : Int, r = .inl (some (zI v15)) ∧ Q (.inl (some (zI v15))) m14)) ∧ (¬ (a3 ≠ 0) → Q (.inl (some (zI v11))) m10)))))) ∧ (¬ (v8 ≠ 0) → (mC m7 a0 = 13) ∧ zC xs xl d 162 [zR a0, zI 1] m7 (fun r m17 => ∃ v18 : Int, r = .inl (some (zI v18)) ∧ Q (.inl (some (zI v18))) m17)))))))) : zC xs xl (d + 1) 191 [zR a0, zI a1, zI a2, zI a3] m Q := by
  refine zk_191 ?_
  refine (zq_aload_n dX12_find_0 rfl).mpr ?_
  refine (zq_iconst dX12_find_1 (by decide)).mpr ?_
  obtain ⟨g1, h⟩ := h
  refine (zq_putI (f := 768) dX12_find_2 fl_12_45 (by decide) rfl rfl rfl).mpr ⟨g1, ?_⟩
  refine (zq_iload_n dX12_find_5 rfl).mpr ?_
  refine (zq_iconst dX12_find_6 (by decide)).mpr ?_
  refine (zq_iconst dX12_find_7 (by decide)).mpr ?_
  refine zq_staticI (n := 3) dX12_find_8 mr_12_55 zn_163 rfl rfl (Nat.le_of_ble_eq_true rfl) (Nat.le_of_ble_eq_true rfl) ?_
  refine h.mono (fun r m2 h => ?_)
  obtain ⟨v3, rfl, h⟩ := h
  refine ⟨_, rfl, ?_⟩
  refine (zq_if_eq (t := 26) dX12_find_11 rfl).mpr ⟨fun c => ?_, fun c => ?_⟩
  · replace h := h.1 c
    refine (zq_aload_n dX12_find_26 rfl).mpr ?_
    refine (zq_iconst dX12_find_27 (by decide)).mpr ?_
    obtain ⟨g6, h⟩ := h
    refine zq_virtualI (n := 1) dX12_find_28 mr_12_51 zn_162 rfl rfl rfl (zrcv_R zo_162 (by decide) g6) (Nat.le_of_ble_eq_true rfl) ?_
    refine h.mono (fun r m4 h => ?_)
    obtain ⟨v5, rfl, h⟩ := h
    refine ⟨_, rfl, ?_⟩
    exact (zq_iret dX12_find_31 rfl).mpr ⟨trivial, h⟩
  · replace h := h.2 c
    refine (zq_iload_n dX12_find_14 rfl).mpr ?_
    refine (zq_bipush dX12_find_15 (by decide)).mpr ?_
    refine (zq_sipush dX12_find_17 (by decide)).mpr ?_
    refine zq_staticI (n := 3) dX12_find_20 mr_12_55 zn_163 rfl rfl (Nat.le_of_ble_eq_true rfl) (Nat.le_of_ble_eq_true rfl) ?_
    refine h.mono (fun r m7 h => ?_)
    obtain ⟨v8, rfl, h⟩ := h
    refine ⟨_, rfl, ?_⟩
    refine (zq_if_ne (t := 32) dX12_find_23 rfl).mpr ⟨fun c => ?_, fun c => ?_⟩
    · replace h := h.1 c
      refine (zq_aload_n dX12_find_32 rfl).mpr ?_
      obtain ⟨g9, h⟩ := h
      refine (zq_getR2 (f := 784) (v := (mR m7 784 a0)) dX12_find_33 fl_12_38 (by decide) rfl rfl (by first | rfl | simp only [zm_Is, zm_Rs, zm_As, zm_Os, zm_In0, zm_Rn0])).mpr ⟨g9, ?_⟩
      refine (zq_iload_n dX12_find_36 rfl).mpr ?_
      refine (zq_iload_n dX12_find_37 rfl).mpr ?_
      obtain ⟨g12, h⟩ := h
      refine zq_virtualI (n := 2) dX12_find_38 mr_12_213 zn_136 rfl rfl rfl (zrcv_R zo_136 (by decide) g12) (Nat.le_of_ble_eq_true rfl) ?_
      refine h.mono (fun r m10 h => ?_)
      obtain ⟨v11, rfl, h⟩ := h
      refine ⟨_, rfl, ?_⟩
      refine (zq_istore dX12_find_41 (by simp) rfl).mpr ?_
      refine (zq_iload dX12_find_43 rfl).mpr ?_
      refine (zq_iconst dX12_find_45 (by decide)).mpr ?_
      refine (zq_icmp_eq (t := 53) dX12_find_46 rfl).mpr ⟨fun c => ?_, fun c => ?_⟩
      · replace h := h.1 c
        refine (zq_iload dX12_find_53 rfl).mpr ?_
        refine (zq_goto (t := 68) dX12_find_55 rfl).mpr ?_
        exact (zq_iret dX12_find_68 rfl).mpr ⟨trivial, h⟩
      · replace h := h.2 c
        refine (zq_iload_n dX12_find_49 rfl).mpr ?_
        refine (zq_if_ne (t := 58) dX12_find_50 rfl).mpr ⟨fun c => ?_, fun c => ?_⟩
        · replace h := h.1 c
          refine (zq_aload_n dX12_find_58 rfl).mpr ?_
          obtain ⟨g13, h⟩ := h
          refine (zq_getR2 (f := 784) (v := (mR m10 784 a0)) dX12_find_59 fl_12_38 (by decide) rfl rfl (by first | rfl | simp only [zm_Is, zm_Rs, zm_As, zm_Os, zm_In0, zm_Rn0])).mpr ⟨g13, ?_⟩
          refine (zq_iload dX12_find_62 rfl).mpr ?_
          refine (zq_iload_n dX12_find_64 rfl).mpr ?_
          obtain ⟨g16, h⟩ := h
          refine zq_virtualI (n := 2) dX12_find_65 mr_12_216 zn_134 rfl rfl rfl (zrcv_R zo_134 (by decide) g16) (Nat.le_of_ble_eq_true rfl) ?_
          refine h.mono (fun r m14 h => ?_)
          obtain ⟨v15, rfl, h⟩ := h
          refine ⟨_, rfl, ?_⟩
          exact (zq_iret dX12_find_68 rfl).mpr ⟨trivial, h⟩
        · replace h := h.2 c
          refine (zq_iload dX12_find_53 rfl).mpr ?_
          refine (zq_goto (t := 68) dX12_find_55 rfl).mpr ?_
          exact (zq_iret dX12_find_68 rfl).mpr ⟨trivial, h⟩
    · replace h := h.2 c
      refine (zq_aload_n dX12_find_26 rfl).mpr ?_
      refine (zq_iconst dX12_find_27 (by decide)).mpr ?_
      obtain ⟨g19, h⟩ := h
      refine zq_virtualI (n := 1) dX12_find_28 mr_12_51 zn_162 rfl rfl rfl (zrcv_R zo_162 (by decide) g19) (Nat.le_of_ble_eq_true rfl) ?_
      refine h.mono (fun r m17 h => ?_)
      obtain ⟨v18, rfl, h⟩ := h
      refine ⟨_, rfl, ?_⟩
      exact (zq_iret dX12_find_31 rfl).mpr ⟨trivial, h⟩
theorem bX12_addFrame_0 {a0 : Nat} {a1 : Int} (h : (mC m a0 = 13) ∧ zC xs xl d 163 [zI a1, zI 0, zI 4] (sI m 768 a0 0) (fun r m2 => ∃ v3 : Int, r = .inl (some (zI v3)) ∧ ((v3 ≠ 0 → (mC m2 a0 = 13) ∧ (mC m2 (mR m2 784 a0) = 12) ∧ (mC m2 (mR m2 711 (mR m2 784 a0)) = 20) ∧ (0 ≤ a1 ∧ a1 < mN m2 (mR m2 711 (mR m2 784 a0))) ∧ (((mA m2 (mR m2 711 (mR m2 784 a0)) (Int.toNat a1)) ≠ 4 → Q (.inl (some (zI (wr ((mA m2 (mR m2 711 (mR m2 784 a0)) (Int.toNat a1)) + 1))))) (sA m2 (mR m2 711 (mR m2 784 a0)) (Int.toNat a1) (wr ((mA m2 (mR m2 711 (mR m2 784 a0)) (Int.toNat a1)) + 1)))) ∧ (¬ ((mA m2 (mR m2 711 (mR m2 784 a0)) (Int.toNat a1)) ≠ 4) → zC xs xl d 162 [zR a0, zI 2] m2 (fun r m8 => ∃ v9 : Int, r = .inl (some (zI v9)) ∧ Q (.inl (some (zI v9))) m8)))) ∧ (¬ (v3 ≠ 0) → (mC m2 a0 = 13) ∧ zC xs xl d 162 [zR a0, zI 1] m2 (fun r m10 => ∃ v11 : Int, r = .inl (some (zI v11)) ∧ Q (.inl (some (zI v11))) m10))))) : zC xs xl (d + 1) 192 [zR a0, zI a1] m Q := by
  refine zk_192 ?_
  refine (zq_aload_n dX12_addFrame_0 rfl).mpr ?_
  refine (zq_iconst dX12_addFrame_1 (by decide)).mpr ?_
  obtain ⟨g1, h⟩ := h
  refine (zq_putI (f := 768) dX12_addFrame_2 fl_12_45 (by decide) rfl rfl rfl).mpr ⟨g1, ?_⟩
  refine (zq_iload_n dX12_addFrame_5 rfl).mpr ?_
  refine (zq_iconst dX12_addFrame_6 (by decide)).mpr ?_
  refine (zq_iconst dX12_addFrame_7 (by decide)).mpr ?_
  refine zq_staticI (n := 3) dX12_addFrame_8 mr_12_55 zn_163 rfl rfl (Nat.le_of_ble_eq_true rfl) (Nat.le_of_ble_eq_true rfl) ?_
  refine h.mono (fun r m2 h => ?_)
  obtain ⟨v3, rfl, h⟩ := h
  refine ⟨_, rfl, ?_⟩
  refine (zq_if_ne (t := 20) dX12_addFrame_11 rfl).mpr ⟨fun c => ?_, fun c => ?_⟩
  · replace h := h.1 c
    refine (zq_aload_n dX12_addFrame_20 rfl).mpr ?_
    obtain ⟨g4, h⟩ := h
    refine (zq_getR2 (f := 784) (v := (mR m2 784 a0)) dX12_addFrame_21 fl_12_38 (by decide) rfl rfl (by first | rfl | simp only [zm_Is, zm_Rs, zm_As, zm_Os, zm_In0, zm_Rn0])).mpr ⟨g4, ?_⟩
    obtain ⟨g5, h⟩ := h
    refine (zq_getR2 (f := 711) (v := (mR m2 711 (mR m2 784 a0))) dX12_addFrame_24 fl_12_219 (by decide) rfl rfl (by first | rfl | simp only [zm_Is, zm_Rs, zm_As, zm_Os, zm_In0, zm_Rn0])).mpr ⟨g5, ?_⟩
    refine (zq_iload_n dX12_addFrame_27 rfl).mpr ?_
    obtain ⟨g6, h⟩ := h
    obtain ⟨g7, h⟩ := h
    refine (zq_iald2 (v := (mA m2 (mR m2 711 (mR m2 784 a0)) (Int.toNat a1))) dX12_addFrame_28 (by first | rfl | simp only [zm_Is, zm_Rs, zm_As, zm_Os, zm_In0, zm_Rn0])).mpr ⟨⟨g6, g7⟩, ?_⟩
    refine (zq_iconst dX12_addFrame_29 (by decide)).mpr ?_
    refine (zq_icmp_ne (t := 39) dX12_addFrame_30 rfl).mpr ⟨fun c => ?_, fun c => ?_⟩
    · replace h := h.1 c
      refine (zq_aload_n dX12_addFrame_39 rfl).mpr ?_
      refine (zq_getR2 (f := 784) (v := (mR m2 784 a0)) dX12_addFrame_40 fl_12_38 (by decide) rfl rfl (by first | rfl | simp only [zm_Is, zm_Rs, zm_As, zm_Os, zm_In0, zm_Rn0])).mpr ⟨g4, ?_⟩
      refine (zq_getR2 (f := 711) (v := (mR m2 711 (mR m2 784 a0))) dX12_addFrame_43 fl_12_219 (by decide) rfl rfl (by first | rfl | simp only [zm_Is, zm_Rs, zm_As, zm_Os, zm_In0, zm_Rn0])).mpr ⟨g5, ?_⟩
      refine (zq_iload_n dX12_addFrame_46 rfl).mpr ?_
      refine (zq_dup2IR dX12_addFrame_47).mpr ?_
      refine (zq_iald2 (v := (mA m2 (mR m2 711 (mR m2 784 a0)) (Int.toNat a1))) dX12_addFrame_48 (by first | rfl | simp only [zm_Is, zm_Rs, zm_As, zm_Os, zm_In0, zm_Rn0])).mpr ⟨⟨g6, g7⟩, ?_⟩
      refine (zq_iconst dX12_addFrame_49 (by decide)).mpr ?_
      refine (zq_iadd dX12_addFrame_50).mpr ?_
      refine (zq_iast dX12_addFrame_51).mpr ⟨⟨g6, g7⟩, ?_⟩
      refine (zq_aload_n dX12_addFrame_52 rfl).mpr ?_
      refine (zq_getR2 (f := 784) (v := (mR m2 784 a0)) dX12_addFrame_53 fl_12_38 (by decide) rfl rfl (by first | rfl | simp only [zm_Is, zm_Rs, zm_As, zm_Os, zm_In0, zm_Rn0])).mpr ⟨g4, ?_⟩
      refine (zq_getR2 (f := 711) (v := (mR m2 711 (mR m2 784 a0))) dX12_addFrame_56 fl_12_219 (by decide) rfl rfl (by first | rfl | simp only [zm_Is, zm_Rs, zm_As, zm_Os, zm_In0, zm_Rn0])).mpr ⟨g5, ?_⟩
      refine (zq_iload_n dX12_addFrame_59 rfl).mpr ?_
      refine (zq_iald2 (v := (wr ((mA m2 (mR m2 711 (mR m2 784 a0)) (Int.toNat a1)) + 1))) dX12_addFrame_60 (by first | rfl | simp only [zm_Is, zm_Rs, zm_As, zm_Os, zm_In0, zm_Rn0])).mpr ⟨⟨g6, g7⟩, ?_⟩
      exact (zq_iret dX12_addFrame_61 rfl).mpr ⟨trivial, h⟩
    · replace h := h.2 c
      refine (zq_aload_n dX12_addFrame_33 rfl).mpr ?_
      refine (zq_iconst dX12_addFrame_34 (by decide)).mpr ?_
      refine zq_virtualI (n := 1) dX12_addFrame_35 mr_12_51 zn_162 rfl rfl rfl (zrcv_R zo_162 (by decide) g4) (Nat.le_of_ble_eq_true rfl) ?_
      refine h.mono (fun r m8 h => ?_)
      obtain ⟨v9, rfl, h⟩ := h
      refine ⟨_, rfl, ?_⟩
      exact (zq_iret dX12_addFrame_38 rfl).mpr ⟨trivial, h⟩
  · replace h := h.2 c
    refine (zq_aload_n dX12_addFrame_14 rfl).mpr ?_
    refine (zq_iconst dX12_addFrame_15 (by decide)).mpr ?_
    obtain ⟨g12, h⟩ := h
    refine zq_virtualI (n := 1) dX12_addFrame_16 mr_12_51 zn_162 rfl rfl rfl (zrcv_R zo_162 (by decide) g12) (Nat.le_of_ble_eq_true rfl) ?_
    refine h.mono (fun r m10 h => ?_)
    obtain ⟨v11, rfl, h⟩ := h
    refine ⟨_, rfl, ?_⟩
    exact (zq_iret dX12_addFrame_19 rfl).mpr ⟨trivial, h⟩
end ZB8
