section ZB7
variable {xs : Nat → Int} {xl d : Nat} {m : zM} {Q : zRes → zM → Prop}
theorem bX12_trim_0 {a0 : Nat} {a1 : Int} (h : (mC m a0 = 13) ∧ zC xs xl d 163 [zI a1, zI 0, zI (mI m 770 a0)] (sI m 768 a0 0) (fun r m2 => ∃ v3 : Int, r = .inl (some (zI v3)) ∧ ((v3 ≠ 0 → (mC m2 a0 = 13) ∧ Q (.inl (some (zI a1))) (sI m2 770 a0 a1)) ∧ (¬ (v3 ≠ 0) → (mC m2 a0 = 13) ∧ zC xs xl d 162 [zR a0, zI 1] m2 (fun r m5 => ∃ v6 : Int, r = .inl (some (zI v6)) ∧ Q (.inl (some (zI v6))) m5))))) : zC xs xl (d + 1) 165 [zR a0, zI a1] m Q := by
  refine zk_165 ?_
  refine (zq_aload_n dX12_trim_0 rfl).mpr ?_
  refine (zq_iconst (v := 0) dX12_trim_1 (by decide)).mpr ?_
  obtain ⟨g1, h⟩ := h
  refine (zq_putI (f := 768) dX12_trim_2 fl_12_45 (by decide) rfl rfl rfl).mpr ⟨g1, ?_⟩
  refine (zq_iload_n dX12_trim_5 rfl).mpr ?_
  refine (zq_iconst (v := 0) dX12_trim_6 (by decide)).mpr ?_
  refine (zq_aload_n dX12_trim_7 rfl).mpr ?_
  refine (zq_getI2 (f := 770) (v := (mI m 770 a0)) dX12_trim_8 fl_12_48 (by decide) rfl rfl (by first | rfl | simp only [zm_Is, zm_Rs, zm_As, zm_Os, zm_In0, zm_Rn0])).mpr ⟨g1, ?_⟩
  refine zq_staticI (n := 3) dX12_trim_11 mr_12_55 zn_163 rfl rfl (Nat.le_of_ble_eq_true rfl) (Nat.le_of_ble_eq_true rfl) ?_
  refine h.mono (fun r m2 h => ?_)
  obtain ⟨v3, rfl, h⟩ := h
  refine ⟨_, rfl, ?_⟩
  refine (zq_if_ne (t := 23) dX12_trim_14 rfl).mpr ⟨fun c => ?_, fun c => ?_⟩
  · replace h := h.1 c
    refine (zq_aload_n dX12_trim_23 rfl).mpr ?_
    refine (zq_iload_n dX12_trim_24 rfl).mpr ?_
    obtain ⟨g4, h⟩ := h
    refine (zq_putI (f := 770) dX12_trim_25 fl_12_48 (by decide) rfl rfl rfl).mpr ⟨g4, ?_⟩
    refine (zq_iload_n dX12_trim_28 rfl).mpr ?_
    exact (zq_iret dX12_trim_29 rfl).mpr ⟨trivial, h⟩
  · replace h := h.2 c
    refine (zq_aload_n dX12_trim_17 rfl).mpr ?_
    refine (zq_iconst (v := 1) dX12_trim_18 (by decide)).mpr ?_
    obtain ⟨g7, h⟩ := h
    refine zq_virtualI (n := 1) dX12_trim_19 mr_12_51 zn_162 rfl rfl rfl (zrcv_R zo_162 (by decide) g7) (Nat.le_of_ble_eq_true rfl) ?_
    refine h.mono (fun r m5 h => ?_)
    obtain ⟨v6, rfl, h⟩ := h
    refine ⟨_, rfl, ?_⟩
    exact (zq_iret dX12_trim_22 rfl).mpr ⟨trivial, h⟩
theorem bX12_tapeAt_0 {a0 : Nat} {a1 : Int} (h : (mC m a0 = 13) ∧ (((mI m 770 a0) ≤ a1 → Q (.inl (some (zI (-1)))) m) ∧ (¬ ((mI m 770 a0) ≤ a1) → (mC m (mR m 769 a0) = 20) ∧ (0 ≤ a1 ∧ a1 < mN m (mR m 769 a0)) ∧ Q (.inl (some (zI (mA m (mR m 769 a0) (Int.toNat a1))))) m))) : zC xs xl (d + 1) 166 [zR a0, zI a1] m Q := by
  refine zk_166 ?_
  refine (zq_iload_n dX12_tapeAt_0 rfl).mpr ?_
  refine (zq_aload_n dX12_tapeAt_1 rfl).mpr ?_
  obtain ⟨g1, h⟩ := h
  refine (zq_getI2 (f := 770) (v := (mI m 770 a0)) dX12_tapeAt_2 fl_12_48 (by decide) rfl rfl (by first | rfl | simp only [zm_Is, zm_Rs, zm_As, zm_Os, zm_In0, zm_Rn0])).mpr ⟨g1, ?_⟩
  refine (zq_icmp_ge (t := 17) dX12_tapeAt_5 rfl).mpr ⟨fun c => ?_, fun c => ?_⟩
  · replace h := h.1 c
    refine (zq_iconst (v := (-1)) dX12_tapeAt_17 (by decide)).mpr ?_
    exact (zq_iret dX12_tapeAt_18 rfl).mpr ⟨trivial, h⟩
  · replace h := h.2 c
    refine (zq_aload_n dX12_tapeAt_8 rfl).mpr ?_
    refine (zq_getR2 (f := 769) (v := (mR m 769 a0)) dX12_tapeAt_9 fl_12_9 (by decide) rfl rfl (by first | rfl | simp only [zm_Is, zm_Rs, zm_As, zm_Os, zm_In0, zm_Rn0])).mpr ⟨g1, ?_⟩
    refine (zq_iload_n dX12_tapeAt_12 rfl).mpr ?_
    obtain ⟨g2, h⟩ := h
    obtain ⟨g3, h⟩ := h
    refine (zq_iald2 (v := (mA m (mR m 769 a0) (Int.toNat a1))) dX12_tapeAt_13 (by first | rfl | simp only [zm_Is, zm_Rs, zm_As, zm_Os, zm_In0, zm_Rn0])).mpr ⟨⟨g2, g3⟩, ?_⟩
    refine (zq_goto (t := 18) dX12_tapeAt_14 rfl).mpr ?_
    exact (zq_iret dX12_tapeAt_18 rfl).mpr ⟨trivial, h⟩
theorem bX12_isLetter_0 {a0 : Nat} {a1 : Int} (h : (mC m a0 = 13) ∧ zC xs xl d 166 [zR a0, zI a1] m (fun r m1 => ∃ v2 : Int, r = .inl (some (zI v2)) ∧ zC xs xl d 163 [zI v2, zI 97, zI 122] m1 (fun r m4 => ∃ v5 : Int, r = .inl (some (zI v5)) ∧ (v5 = 0 ∨ v5 = 1) ∧ Q (.inl (some (zI v5))) m4))) : zC xs xl (d + 1) 167 [zR a0, zI a1] m Q := by
  refine zk_167 ?_
  refine (zq_aload_n dX12_isLetter_0 rfl).mpr ?_
  refine (zq_iload_n dX12_isLetter_1 rfl).mpr ?_
  obtain ⟨g3, h⟩ := h
  refine zq_virtualI (n := 1) dX12_isLetter_2 mr_12_59 zn_166 rfl rfl rfl (zrcv_R zo_166 (by decide) g3) (Nat.le_of_ble_eq_true rfl) ?_
  refine h.mono (fun r m1 h => ?_)
  obtain ⟨v2, rfl, h⟩ := h
  refine ⟨_, rfl, ?_⟩
  refine (zq_bipush (v := 97) dX12_isLetter_5 (by decide)).mpr ?_
  refine (zq_bipush (v := 122) dX12_isLetter_7 (by decide)).mpr ?_
  refine zq_staticI (n := 3) dX12_isLetter_9 mr_12_55 zn_163 rfl rfl (Nat.le_of_ble_eq_true rfl) (Nat.le_of_ble_eq_true rfl) ?_
  refine h.mono (fun r m4 h => ?_)
  obtain ⟨v5, rfl, h⟩ := h
  refine ⟨_, rfl, ?_⟩
  obtain ⟨g6, h⟩ := h
  exact (zq_iret dX12_isLetter_12 rfl).mpr ⟨g6, h⟩
theorem bX12_isDigit_0 {a0 : Nat} {a1 : Int} (h : (mC m a0 = 13) ∧ zC xs xl d 166 [zR a0, zI a1] m (fun r m1 => ∃ v2 : Int, r = .inl (some (zI v2)) ∧ zC xs xl d 163 [zI v2, zI 48, zI 57] m1 (fun r m4 => ∃ v5 : Int, r = .inl (some (zI v5)) ∧ (v5 = 0 ∨ v5 = 1) ∧ Q (.inl (some (zI v5))) m4))) : zC xs xl (d + 1) 168 [zR a0, zI a1] m Q := by
  refine zk_168 ?_
  refine (zq_aload_n dX12_isDigit_0 rfl).mpr ?_
  refine (zq_iload_n dX12_isDigit_1 rfl).mpr ?_
  obtain ⟨g3, h⟩ := h
  refine zq_virtualI (n := 1) dX12_isDigit_2 mr_12_59 zn_166 rfl rfl rfl (zrcv_R zo_166 (by decide) g3) (Nat.le_of_ble_eq_true rfl) ?_
  refine h.mono (fun r m1 h => ?_)
  obtain ⟨v2, rfl, h⟩ := h
  refine ⟨_, rfl, ?_⟩
  refine (zq_bipush (v := 48) dX12_isDigit_5 (by decide)).mpr ?_
  refine (zq_bipush (v := 57) dX12_isDigit_7 (by decide)).mpr ?_
  refine zq_staticI (n := 3) dX12_isDigit_9 mr_12_55 zn_163 rfl rfl (Nat.le_of_ble_eq_true rfl) (Nat.le_of_ble_eq_true rfl) ?_
  refine h.mono (fun r m4 h => ?_)
  obtain ⟨v5, rfl, h⟩ := h
  refine ⟨_, rfl, ?_⟩
  obtain ⟨g6, h⟩ := h
  exact (zq_iret dX12_isDigit_12 rfl).mpr ⟨g6, h⟩
theorem bX12_scan_0 {a0 : Nat} (h : zW xs xl d cX12_scan 12 (none) false [] 6 [zR a0, zI 0, zI 0, zI 1, zU, zU] [] m Q) : zC xs xl (d + 1) 169 [zR a0] m Q := by
  refine zk_169 ?_
  refine (zq_iconst (v := 0) dX12_scan_0 (by decide)).mpr ?_
  refine (zq_istore_n (l := [zR a0, zI 0, zU, zU, zU, zU]) dX12_scan_1 (Nat.le_of_ble_eq_true rfl) rfl).mpr ?_
  refine (zq_iconst (v := 0) dX12_scan_2 (by decide)).mpr ?_
  refine (zq_istore_n (l := [zR a0, zI 0, zI 0, zU, zU, zU]) dX12_scan_3 (Nat.le_of_ble_eq_true rfl) rfl).mpr ?_
  refine (zq_iconst (v := 1) dX12_scan_4 (by decide)).mpr ?_
  refine (zq_istore_n (l := [zR a0, zI 0, zI 0, zI 1, zU, zU]) dX12_scan_5 (Nat.le_of_ble_eq_true rfl) rfl).mpr ?_
  exact h
theorem bX12_scan_6 {a0 : Nat} {a1 : Int} {a2 : Int} {a3 : Int} {a4 : zV} {a5 : zV} (h : ((a3 = 0 → Q (.inl none) m) ∧ (¬ (a3 = 0) → zW xs xl d cX12_scan 12 (none) false [] 10 [zR a0, zI a1, zI a2, zI a3, a4, a5] [] m Q))) : zW xs xl d cX12_scan 12 (none) false [] 6 [zR a0, zI a1, zI a2, zI a3, a4, a5] [] m Q := by
  refine (zq_iload_n dX12_scan_6 rfl).mpr ?_
  refine (zq_if_eq (t := 219) dX12_scan_7 rfl).mpr ⟨fun c => ?_, fun c => ?_⟩
  · replace h := h.1 c
    exact (zq_ret dX12_scan_219 rfl).mpr h
  · replace h := h.2 c
    exact h
theorem bX12_scan_10 {a0 : Nat} {a1 : Int} {a2 : Int} {a3 : Int} {a4 : zV} {a5 : zV} (h : (mC m a0 = 13) ∧ zC xs xl d 166 [zR a0, zI a2] m (fun r m1 => ∃ v2 : Int, r = .inl (some (zI v2)) ∧ ((v2 = 32 → zW xs xl d cX12_scan 12 (none) false [] 10 [zR a0, zI a1, zI (wr (a2 + 1)), zI a3, a4, a5] [] m1 Q) ∧ (¬ (v2 = 32) → (mC m1 a0 = 13) ∧ zC xs xl d 166 [zR a0, zI a2] m1 (fun r m4 => ∃ v5 : Int, r = .inl (some (zI v5)) ∧ ((v5 ≠ 10 → (mC m4 a0 = 13) ∧ zC xs xl d 167 [zR a0, zI a2] m4 (fun r m7 => ∃ v8 : Int, r = .inl (some (zI v8)) ∧ ((v8 = 0 → (mC m7 a0 = 13) ∧ zC xs xl d 168 [zR a0, zI a2] m7 (fun r m10 => ∃ v11 : Int, r = .inl (some (zI v11)) ∧ ((v11 = 0 → (mC m10 a0 = 13) ∧ (((mI m10 770 a0) ≤ a2 → zW xs xl d cX12_scan 12 (none) false [] 176 [zR a0, zI a1, zI a2, zI a3, zI a2, zI 0] [] m10 Q) ∧ (¬ ((mI m10 770 a0) ≤ a2) → (mC m10 (mR m10 769 a0) = 20) ∧ (0 ≤ a2 ∧ a2 < mN m10 (mR m10 769 a0)) ∧ (((mA m10 (mR m10 769 a0) (Int.toNat a2)) = 59 → zW xs xl d cX12_scan 12 (none) false [] 176 [zR a0, zI a1, zI a2, zI a3, zI (wr (a2 + 1)), zI 3] [] m10 Q) ∧ (¬ ((mA m10 (mR m10 769 a0) (Int.toNat a2)) = 59) → (((mA m10 (mR m10 769 a0) (Int.toNat a2)) = 123 → zW xs xl d cX12_scan 12 (none) false [] 176 [zR a0, zI a1, zI a2, zI a3, zI (wr (a2 + 1)), zI 3] [] m10 Q) ∧ (¬ ((mA m10 (mR m10 769 a0) (Int.toNat a2)) = 123) → (((mA m10 (mR m10 769 a0) (Int.toNat a2)) ≠ 125 → zW xs xl d cX12_scan 12 (none) false [] 176 [zR a0, zI a1, zI a2, zI a3, zI (wr (a2 + 1)), zI 4] [] m10 Q) ∧ (¬ ((mA m10 (mR m10 769 a0) (Int.toNat a2)) ≠ 125) → zW xs xl d cX12_scan 12 (none) false [] 176 [zR a0, zI a1, zI a2, zI a3, zI (wr (a2 + 1)), zI 3] [] m10 Q))))))))) ∧ (¬ (v11 = 0) → zW xs xl d cX12_scan 12 (none) false [] 92 [zR a0, zI a1, zI a2, zI a3, zI a2, zI 0] [] m10 Q)))) ∧ (¬ (v8 = 0) → zW xs xl d cX12_scan 12 (none) false [] 50 [zR a0, zI a1, zI a2, zI a3, zI a2, zI 0] [] m7 Q)))) ∧ (¬ (v5 ≠ 10) → zW xs xl d cX12_scan 12 (none) false [] 10 [zR a0, zI a1, zI (wr (a2 + 1)), zI a3, a4, a5] [] m4 Q))))))) : zW xs xl d cX12_scan 12 (none) false [] 10 [zR a0, zI a1, zI a2, zI a3, a4, a5] [] m Q := by
  refine (zq_aload_n dX12_scan_10 rfl).mpr ?_
  refine (zq_iload_n dX12_scan_11 rfl).mpr ?_
  obtain ⟨g3, h⟩ := h
  refine zq_virtualI (n := 1) dX12_scan_12 mr_12_59 zn_166 rfl rfl rfl (zrcv_R zo_166 (by decide) g3) (Nat.le_of_ble_eq_true rfl) ?_
  refine h.mono (fun r m1 h => ?_)
  obtain ⟨v2, rfl, h⟩ := h
  refine ⟨_, rfl, ?_⟩
  refine (zq_bipush (v := 32) dX12_scan_15 (by decide)).mpr ?_
  refine (zq_icmp_eq (t := 30) dX12_scan_17 rfl).mpr ⟨fun c => ?_, fun c => ?_⟩
  · replace h := h.1 c
    refine (zq_iinc (l := [zR a0, zI a1, zI (wr (a2 + 1)), zI a3, a4, a5]) dX12_scan_30 rfl rfl).mpr ?_
    refine (zq_goto (t := 10) dX12_scan_33 rfl).mpr ?_
    exact h
  · replace h := h.2 c
    refine (zq_aload_n dX12_scan_20 rfl).mpr ?_
    refine (zq_iload_n dX12_scan_21 rfl).mpr ?_
    obtain ⟨g6, h⟩ := h
    refine zq_virtualI (n := 1) dX12_scan_22 mr_12_59 zn_166 rfl rfl rfl (zrcv_R zo_166 (by decide) g6) (Nat.le_of_ble_eq_true rfl) ?_
    refine h.mono (fun r m4 h => ?_)
    obtain ⟨v5, rfl, h⟩ := h
    refine ⟨_, rfl, ?_⟩
    refine (zq_bipush (v := 10) dX12_scan_25 (by decide)).mpr ?_
    refine (zq_icmp_ne (t := 36) dX12_scan_27 rfl).mpr ⟨fun c => ?_, fun c => ?_⟩
    · replace h := h.1 c
      refine (zq_iload_n dX12_scan_36 rfl).mpr ?_
      refine (zq_istore (l := [zR a0, zI a1, zI a2, zI a3, zI a2, a5]) dX12_scan_37 (Nat.le_of_ble_eq_true rfl) rfl).mpr ?_
      refine (zq_iconst (v := 0) dX12_scan_39 (by decide)).mpr ?_
      refine (zq_istore (l := [zR a0, zI a1, zI a2, zI a3, zI a2, zI 0]) dX12_scan_40 (Nat.le_of_ble_eq_true rfl) rfl).mpr ?_
      refine (zq_aload_n dX12_scan_42 rfl).mpr ?_
      refine (zq_iload_n dX12_scan_43 rfl).mpr ?_
      obtain ⟨g9, h⟩ := h
      refine zq_virtualI (n := 1) dX12_scan_44 mr_12_62 zn_167 rfl rfl rfl (zrcv_R zo_167 (by decide) g9) (Nat.le_of_ble_eq_true rfl) ?_
      refine h.mono (fun r m7 h => ?_)
      obtain ⟨v8, rfl, h⟩ := h
      refine ⟨_, rfl, ?_⟩
      refine (zq_if_eq (t := 84) dX12_scan_47 rfl).mpr ⟨fun c => ?_, fun c => ?_⟩
      · replace h := h.1 c
        refine (zq_aload_n dX12_scan_84 rfl).mpr ?_
        refine (zq_iload_n dX12_scan_85 rfl).mpr ?_
        obtain ⟨g12, h⟩ := h
        refine zq_virtualI (n := 1) dX12_scan_86 mr_12_66 zn_168 rfl rfl rfl (zrcv_R zo_168 (by decide) g12) (Nat.le_of_ble_eq_true rfl) ?_
        refine h.mono (fun r m10 h => ?_)
        obtain ⟨v11, rfl, h⟩ := h
        refine ⟨_, rfl, ?_⟩
        refine (zq_if_eq (t := 125) dX12_scan_89 rfl).mpr ⟨fun c => ?_, fun c => ?_⟩
        · replace h := h.1 c
          refine (zq_iload_n dX12_scan_125 rfl).mpr ?_
          refine (zq_aload_n dX12_scan_126 rfl).mpr ?_
          obtain ⟨g13, h⟩ := h
          refine (zq_getI2 (f := 770) (v := (mI m10 770 a0)) dX12_scan_127 fl_12_48 (by decide) rfl rfl (by first | rfl | simp only [zm_Is, zm_Rs, zm_As, zm_Os, zm_In0, zm_Rn0])).mpr ⟨g13, ?_⟩
          refine (zq_icmp_ge (t := 176) dX12_scan_130 rfl).mpr ⟨fun c => ?_, fun c => ?_⟩
          · replace h := h.1 c
            exact h
          · replace h := h.2 c
            refine (zq_iinc (l := [zR a0, zI a1, zI a2, zI a3, zI (wr (a2 + 1)), zI 0]) dX12_scan_133 rfl rfl).mpr ?_
            refine (zq_aload_n dX12_scan_136 rfl).mpr ?_
            refine (zq_getR2 (f := 769) (v := (mR m10 769 a0)) dX12_scan_137 fl_12_9 (by decide) rfl rfl (by first | rfl | simp only [zm_Is, zm_Rs, zm_As, zm_Os, zm_In0, zm_Rn0])).mpr ⟨g13, ?_⟩
            refine (zq_iload_n dX12_scan_140 rfl).mpr ?_
            obtain ⟨g14, h⟩ := h
            obtain ⟨g15, h⟩ := h
            refine (zq_iald2 (v := (mA m10 (mR m10 769 a0) (Int.toNat a2))) dX12_scan_141 (by first | rfl | simp only [zm_Is, zm_Rs, zm_As, zm_Os, zm_In0, zm_Rn0])).mpr ⟨⟨g14, g15⟩, ?_⟩
            refine (zq_bipush (v := 59) dX12_scan_142 (by decide)).mpr ?_
            refine (zq_icmp_eq (t := 169) dX12_scan_144 rfl).mpr ⟨fun c => ?_, fun c => ?_⟩
            · replace h := h.1 c
              refine (zq_iconst (v := 3) dX12_scan_169 (by decide)).mpr ?_
              refine (zq_goto (t := 174) dX12_scan_170 rfl).mpr ?_
              refine (zq_istore (l := [zR a0, zI a1, zI a2, zI a3, zI (wr (a2 + 1)), zI 3]) dX12_scan_174 (Nat.le_of_ble_eq_true rfl) rfl).mpr ?_
              exact h
            · replace h := h.2 c
              refine (zq_aload_n dX12_scan_147 rfl).mpr ?_
              refine (zq_getR2 (f := 769) (v := (mR m10 769 a0)) dX12_scan_148 fl_12_9 (by decide) rfl rfl (by first | rfl | simp only [zm_Is, zm_Rs, zm_As, zm_Os, zm_In0, zm_Rn0])).mpr ⟨g13, ?_⟩
              refine (zq_iload_n dX12_scan_151 rfl).mpr ?_
              refine (zq_iald2 (v := (mA m10 (mR m10 769 a0) (Int.toNat a2))) dX12_scan_152 (by first | rfl | simp only [zm_Is, zm_Rs, zm_As, zm_Os, zm_In0, zm_Rn0])).mpr ⟨⟨g14, g15⟩, ?_⟩
              refine (zq_bipush (v := 123) dX12_scan_153 (by decide)).mpr ?_
              refine (zq_icmp_eq (t := 169) dX12_scan_155 rfl).mpr ⟨fun c => ?_, fun c => ?_⟩
              · replace h := h.1 c
                refine (zq_iconst (v := 3) dX12_scan_169 (by decide)).mpr ?_
                refine (zq_goto (t := 174) dX12_scan_170 rfl).mpr ?_
                refine (zq_istore (l := [zR a0, zI a1, zI a2, zI a3, zI (wr (a2 + 1)), zI 3]) dX12_scan_174 (Nat.le_of_ble_eq_true rfl) rfl).mpr ?_
                exact h
              · replace h := h.2 c
                refine (zq_aload_n dX12_scan_158 rfl).mpr ?_
                refine (zq_getR2 (f := 769) (v := (mR m10 769 a0)) dX12_scan_159 fl_12_9 (by decide) rfl rfl (by first | rfl | simp only [zm_Is, zm_Rs, zm_As, zm_Os, zm_In0, zm_Rn0])).mpr ⟨g13, ?_⟩
                refine (zq_iload_n dX12_scan_162 rfl).mpr ?_
                refine (zq_iald2 (v := (mA m10 (mR m10 769 a0) (Int.toNat a2))) dX12_scan_163 (by first | rfl | simp only [zm_Is, zm_Rs, zm_As, zm_Os, zm_In0, zm_Rn0])).mpr ⟨⟨g14, g15⟩, ?_⟩
                refine (zq_bipush (v := 125) dX12_scan_164 (by decide)).mpr ?_
                refine (zq_icmp_ne (t := 173) dX12_scan_166 rfl).mpr ⟨fun c => ?_, fun c => ?_⟩
                · replace h := h.1 c
                  refine (zq_iconst (v := 4) dX12_scan_173 (by decide)).mpr ?_
                  refine (zq_istore (l := [zR a0, zI a1, zI a2, zI a3, zI (wr (a2 + 1)), zI 4]) dX12_scan_174 (Nat.le_of_ble_eq_true rfl) rfl).mpr ?_
                  exact h
                · replace h := h.2 c
                  refine (zq_iconst (v := 3) dX12_scan_169 (by decide)).mpr ?_
                  refine (zq_goto (t := 174) dX12_scan_170 rfl).mpr ?_
                  refine (zq_istore (l := [zR a0, zI a1, zI a2, zI a3, zI (wr (a2 + 1)), zI 3]) dX12_scan_174 (Nat.le_of_ble_eq_true rfl) rfl).mpr ?_
                  exact h
        · replace h := h.2 c
          exact h
      · replace h := h.2 c
        exact h
    · replace h := h.2 c
      refine (zq_iinc (l := [zR a0, zI a1, zI (wr (a2 + 1)), zI a3, a4, a5]) dX12_scan_30 rfl rfl).mpr ?_
      refine (zq_goto (t := 10) dX12_scan_33 rfl).mpr ?_
      exact h
theorem bX12_scan_50 {a0 : Nat} {a1 : Int} {a2 : Int} {a3 : Int} {a4 : Int} {a5 : Int} (h : (mC m a0 = 13) ∧ zC xs xl d 167 [zR a0, zI a4] m (fun r m1 => ∃ v2 : Int, r = .inl (some (zI v2)) ∧ ((v2 = 0 → ((8 < (wr (a4 - a2)) → zW xs xl d cX12_scan 12 (none) false [] 176 [zR a0, zI a1, zI a2, zI a3, zI a4, zI 4] [] m1 Q) ∧ (¬ (8 < (wr (a4 - a2))) → zW xs xl d cX12_scan 12 (none) false [] 176 [zR a0, zI a1, zI a2, zI a3, zI a4, zI 1] [] m1 Q))) ∧ (¬ (v2 = 0) → zW xs xl d cX12_scan 12 (none) false [] 50 [zR a0, zI a1, zI a2, zI a3, zI (wr (a4 + 1)), zI a5] [] m1 Q)))) : zW xs xl d cX12_scan 12 (none) false [] 50 [zR a0, zI a1, zI a2, zI a3, zI a4, zI a5] [] m Q := by
  refine (zq_aload_n dX12_scan_50 rfl).mpr ?_
  refine (zq_iload dX12_scan_51 rfl).mpr ?_
  obtain ⟨g3, h⟩ := h
  refine zq_virtualI (n := 1) dX12_scan_53 mr_12_62 zn_167 rfl rfl rfl (zrcv_R zo_167 (by decide) g3) (Nat.le_of_ble_eq_true rfl) ?_
  refine h.mono (fun r m1 h => ?_)
  obtain ⟨v2, rfl, h⟩ := h
  refine ⟨_, rfl, ?_⟩
  refine (zq_if_eq (t := 65) dX12_scan_56 rfl).mpr ⟨fun c => ?_, fun c => ?_⟩
  · replace h := h.1 c
    refine (zq_iload dX12_scan_65 rfl).mpr ?_
    refine (zq_iload_n dX12_scan_67 rfl).mpr ?_
    refine (zq_isub dX12_scan_68).mpr ?_
    refine (zq_bipush (v := 8) dX12_scan_69 (by decide)).mpr ?_
    refine (zq_icmp_gt (t := 78) dX12_scan_71 rfl).mpr ⟨fun c => ?_, fun c => ?_⟩
    · replace h := h.1 c
      refine (zq_iconst (v := 4) dX12_scan_78 (by decide)).mpr ?_
      refine (zq_istore (l := [zR a0, zI a1, zI a2, zI a3, zI a4, zI 4]) dX12_scan_79 (Nat.le_of_ble_eq_true rfl) rfl).mpr ?_
      refine (zq_goto (t := 176) dX12_scan_81 rfl).mpr ?_
      exact h
    · replace h := h.2 c
      refine (zq_iconst (v := 1) dX12_scan_74 (by decide)).mpr ?_
      refine (zq_goto (t := 79) dX12_scan_75 rfl).mpr ?_
      refine (zq_istore (l := [zR a0, zI a1, zI a2, zI a3, zI a4, zI 1]) dX12_scan_79 (Nat.le_of_ble_eq_true rfl) rfl).mpr ?_
      refine (zq_goto (t := 176) dX12_scan_81 rfl).mpr ?_
      exact h
  · replace h := h.2 c
    refine (zq_iinc (l := [zR a0, zI a1, zI a2, zI a3, zI (wr (a4 + 1)), zI a5]) dX12_scan_59 rfl rfl).mpr ?_
    refine (zq_goto (t := 50) dX12_scan_62 rfl).mpr ?_
    exact h
theorem bX12_scan_92 {a0 : Nat} {a1 : Int} {a2 : Int} {a3 : Int} {a4 : Int} {a5 : Int} (h : (mC m a0 = 13) ∧ zC xs xl d 168 [zR a0, zI a4] m (fun r m1 => ∃ v2 : Int, r = .inl (some (zI v2)) ∧ ((v2 = 0 → ((3 < (wr (a4 - a2)) → zW xs xl d cX12_scan 12 (none) false [] 176 [zR a0, zI a1, zI a2, zI a3, zI a4, zI 4] [] m1 Q) ∧ (¬ (3 < (wr (a4 - a2))) → zW xs xl d cX12_scan 12 (none) false [] 176 [zR a0, zI a1, zI a2, zI a3, zI a4, zI 2] [] m1 Q))) ∧ (¬ (v2 = 0) → zW xs xl d cX12_scan 12 (none) false [] 92 [zR a0, zI a1, zI a2, zI a3, zI (wr (a4 + 1)), zI a5] [] m1 Q)))) : zW xs xl d cX12_scan 12 (none) false [] 92 [zR a0, zI a1, zI a2, zI a3, zI a4, zI a5] [] m Q := by
  refine (zq_aload_n dX12_scan_92 rfl).mpr ?_
  refine (zq_iload dX12_scan_93 rfl).mpr ?_
  obtain ⟨g3, h⟩ := h
  refine zq_virtualI (n := 1) dX12_scan_95 mr_12_66 zn_168 rfl rfl rfl (zrcv_R zo_168 (by decide) g3) (Nat.le_of_ble_eq_true rfl) ?_
  refine h.mono (fun r m1 h => ?_)
  obtain ⟨v2, rfl, h⟩ := h
  refine ⟨_, rfl, ?_⟩
  refine (zq_if_eq (t := 107) dX12_scan_98 rfl).mpr ⟨fun c => ?_, fun c => ?_⟩
  · replace h := h.1 c
    refine (zq_iload dX12_scan_107 rfl).mpr ?_
    refine (zq_iload_n dX12_scan_109 rfl).mpr ?_
    refine (zq_isub dX12_scan_110).mpr ?_
    refine (zq_iconst (v := 3) dX12_scan_111 (by decide)).mpr ?_
    refine (zq_icmp_gt (t := 119) dX12_scan_112 rfl).mpr ⟨fun c => ?_, fun c => ?_⟩
    · replace h := h.1 c
      refine (zq_iconst (v := 4) dX12_scan_119 (by decide)).mpr ?_
      refine (zq_istore (l := [zR a0, zI a1, zI a2, zI a3, zI a4, zI 4]) dX12_scan_120 (Nat.le_of_ble_eq_true rfl) rfl).mpr ?_
      refine (zq_goto (t := 176) dX12_scan_122 rfl).mpr ?_
      exact h
    · replace h := h.2 c
      refine (zq_iconst (v := 2) dX12_scan_115 (by decide)).mpr ?_
      refine (zq_goto (t := 120) dX12_scan_116 rfl).mpr ?_
      refine (zq_istore (l := [zR a0, zI a1, zI a2, zI a3, zI a4, zI 2]) dX12_scan_120 (Nat.le_of_ble_eq_true rfl) rfl).mpr ?_
      refine (zq_goto (t := 176) dX12_scan_122 rfl).mpr ?_
      exact h
  · replace h := h.2 c
    refine (zq_iinc (l := [zR a0, zI a1, zI a2, zI a3, zI (wr (a4 + 1)), zI a5]) dX12_scan_101 rfl rfl).mpr ?_
    refine (zq_goto (t := 92) dX12_scan_104 rfl).mpr ?_
    exact h
theorem bX12_scan_176 {a0 : Nat} {a1 : Int} {a2 : Int} {a3 : Int} {a4 : Int} {a5 : Int} (h : (mC m a0 = 13) ∧ (0 ≤ a1 ∧ a1 < mN m (mR m 773 a0)) ∧ (mC m (mR m 773 a0) = 20) ∧ (0 ≤ a1 ∧ a1 < mN m (mR m 774 a0)) ∧ (mC m (mR m 774 a0) = 20) ∧ (0 ≤ a1 ∧ a1 < mN m (mR m 775 a0)) ∧ (mC m (mR m 775 a0) = 20) ∧ ((a5 = 0 → zW xs xl d cX12_scan 12 (none) false [] 6 [zR a0, zI (wr (a1 + 1)), zI a4, zI 0, zI a4, zI a5] [] (sA (sA (sA m (mR m 773 a0) (Int.toNat a1) a5) (mR m 774 a0) (Int.toNat a1) a2) (mR m 775 a0) (Int.toNat a1) a4) Q) ∧ (¬ (a5 = 0) → zW xs xl d cX12_scan 12 (none) false [] 6 [zR a0, zI (wr (a1 + 1)), zI a4, zI 1, zI a4, zI a5] [] (sA (sA (sA m (mR m 773 a0) (Int.toNat a1) a5) (mR m 774 a0) (Int.toNat a1) a2) (mR m 775 a0) (Int.toNat a1) a4) Q))) : zW xs xl d cX12_scan 12 (none) false [] 176 [zR a0, zI a1, zI a2, zI a3, zI a4, zI a5] [] m Q := by
  refine (zq_aload_n dX12_scan_176 rfl).mpr ?_
  obtain ⟨g1, h⟩ := h
  refine (zq_getR2 (f := 773) (v := (mR m 773 a0)) dX12_scan_177 fl_12_17 (by decide) rfl rfl (by first | rfl | simp only [zm_Is, zm_Rs, zm_As, zm_Os, zm_In0, zm_Rn0])).mpr ⟨g1, ?_⟩
  refine (zq_iload_n dX12_scan_180 rfl).mpr ?_
  refine (zq_iload dX12_scan_181 rfl).mpr ?_
  obtain ⟨g2, h⟩ := h
  obtain ⟨g3, h⟩ := h
  refine (zq_iast dX12_scan_183).mpr ⟨⟨g3, g2⟩, ?_⟩
  refine (zq_aload_n dX12_scan_184 rfl).mpr ?_
  refine (zq_getR2 (f := 774) (v := (mR m 774 a0)) dX12_scan_185 fl_12_20 (by decide) rfl rfl (by first | rfl | simp only [zm_Is, zm_Rs, zm_As, zm_Os, zm_In0, zm_Rn0])).mpr ⟨g1, ?_⟩
  refine (zq_iload_n dX12_scan_188 rfl).mpr ?_
  refine (zq_iload_n dX12_scan_189 rfl).mpr ?_
  obtain ⟨g4, h⟩ := h
  obtain ⟨g5, h⟩ := h
  refine (zq_iast dX12_scan_190).mpr ⟨⟨g5, g4⟩, ?_⟩
  refine (zq_aload_n dX12_scan_191 rfl).mpr ?_
  refine (zq_getR2 (f := 775) (v := (mR m 775 a0)) dX12_scan_192 fl_12_23 (by decide) rfl rfl (by first | rfl | simp only [zm_Is, zm_Rs, zm_As, zm_Os, zm_In0, zm_Rn0])).mpr ⟨g1, ?_⟩
  refine (zq_iload_n dX12_scan_195 rfl).mpr ?_
  refine (zq_iload dX12_scan_196 rfl).mpr ?_
  obtain ⟨g6, h⟩ := h
  obtain ⟨g7, h⟩ := h
  refine (zq_iast dX12_scan_198).mpr ⟨⟨g7, g6⟩, ?_⟩
  refine (zq_iinc (l := [zR a0, zI (wr (a1 + 1)), zI a2, zI a3, zI a4, zI a5]) dX12_scan_199 rfl rfl).mpr ?_
  refine (zq_iload dX12_scan_202 rfl).mpr ?_
  refine (zq_istore_n (l := [zR a0, zI (wr (a1 + 1)), zI a4, zI a3, zI a4, zI a5]) dX12_scan_204 (Nat.le_of_ble_eq_true rfl) rfl).mpr ?_
  refine (zq_iload dX12_scan_205 rfl).mpr ?_
  refine (zq_if_eq (t := 214) dX12_scan_207 rfl).mpr ⟨fun c => ?_, fun c => ?_⟩
  · replace h := h.1 c
    refine (zq_iconst (v := 0) dX12_scan_214 (by decide)).mpr ?_
    refine (zq_istore_n (l := [zR a0, zI (wr (a1 + 1)), zI a4, zI 0, zI a4, zI a5]) dX12_scan_215 (Nat.le_of_ble_eq_true rfl) rfl).mpr ?_
    refine (zq_goto (t := 6) dX12_scan_216 rfl).mpr ?_
    exact h
  · replace h := h.2 c
    refine (zq_iconst (v := 1) dX12_scan_210 (by decide)).mpr ?_
    refine (zq_goto (t := 215) dX12_scan_211 rfl).mpr ?_
    refine (zq_istore_n (l := [zR a0, zI (wr (a1 + 1)), zI a4, zI 1, zI a4, zI a5]) dX12_scan_215 (Nat.le_of_ble_eq_true rfl) rfl).mpr ?_
    refine (zq_goto (t := 6) dX12_scan_216 rfl).mpr ?_
    exact h
theorem bX12_is_0 {a0 : Nat} {a1 : Int} {a2 : Nat} (h : (mC m a0 = 13) ∧ (mC m (mR m 773 a0) = 20) ∧ (0 ≤ a1 ∧ a1 < mN m (mR m 773 a0)) ∧ (((mA m (mR m 773 a0) (Int.toNat a1)) = 1 → zW xs xl d cX12_is 12 (some .boolean) false [] 20 [zR a0, zI a1, zE a2, zU, zU] [] m Q) ∧ (¬ ((mA m (mR m 773 a0) (Int.toNat a1)) = 1) → (((mA m (mR m 773 a0) (Int.toNat a1)) ≠ 3 → zW xs xl d cX12_is 12 (some .boolean) false [] 49 [zR a0, zI a1, zE a2, zI 0, zI 0] [] m Q) ∧ (¬ ((mA m (mR m 773 a0) (Int.toNat a1)) ≠ 3) → zW xs xl d cX12_is 12 (some .boolean) false [] 20 [zR a0, zI a1, zE a2, zU, zU] [] m Q))))) : zC xs xl (d + 1) 170 [zR a0, zI a1, zE a2] m Q := by
  refine zk_170 ?_
  refine (zq_aload_n dX12_is_0 rfl).mpr ?_
  obtain ⟨g1, h⟩ := h
  refine (zq_getR2 (f := 773) (v := (mR m 773 a0)) dX12_is_1 fl_12_17 (by decide) rfl rfl (by first | rfl | simp only [zm_Is, zm_Rs, zm_As, zm_Os, zm_In0, zm_Rn0])).mpr ⟨g1, ?_⟩
  refine (zq_iload_n dX12_is_4 rfl).mpr ?_
  obtain ⟨g2, h⟩ := h
  obtain ⟨g3, h⟩ := h
  refine (zq_iald2 (v := (mA m (mR m 773 a0) (Int.toNat a1))) dX12_is_5 (by first | rfl | simp only [zm_Is, zm_Rs, zm_As, zm_Os, zm_In0, zm_Rn0])).mpr ⟨⟨g2, g3⟩, ?_⟩
  refine (zq_iconst (v := 1) dX12_is_6 (by decide)).mpr ?_
  refine (zq_icmp_eq (t := 20) dX12_is_7 rfl).mpr ⟨fun c => ?_, fun c => ?_⟩
  · replace h := h.1 c
    exact h
  · replace h := h.2 c
    refine (zq_aload_n dX12_is_10 rfl).mpr ?_
    refine (zq_getR2 (f := 773) (v := (mR m 773 a0)) dX12_is_11 fl_12_17 (by decide) rfl rfl (by first | rfl | simp only [zm_Is, zm_Rs, zm_As, zm_Os, zm_In0, zm_Rn0])).mpr ⟨g1, ?_⟩
    refine (zq_iload_n dX12_is_14 rfl).mpr ?_
    refine (zq_iald2 (v := (mA m (mR m 773 a0) (Int.toNat a1))) dX12_is_15 (by first | rfl | simp only [zm_Is, zm_Rs, zm_As, zm_Os, zm_In0, zm_Rn0])).mpr ⟨⟨g2, g3⟩, ?_⟩
    refine (zq_iconst (v := 3) dX12_is_16 (by decide)).mpr ?_
    refine (zq_icmp_ne (t := 44) dX12_is_17 rfl).mpr ⟨fun c => ?_, fun c => ?_⟩
    · replace h := h.1 c
      refine (zq_iconst (v := 0) dX12_is_44 (by decide)).mpr ?_
      refine (zq_istore_n (l := [zR a0, zI a1, zE a2, zI 0, zU]) dX12_is_45 (Nat.le_of_ble_eq_true rfl) rfl).mpr ?_
      refine (zq_iconst (v := 0) dX12_is_46 (by decide)).mpr ?_
      refine (zq_istore (l := [zR a0, zI a1, zE a2, zI 0, zI 0]) dX12_is_47 (Nat.le_of_ble_eq_true rfl) rfl).mpr ?_
      exact h
    · replace h := h.2 c
      exact h
theorem bX12_is_20 {a0 : Nat} {a1 : Int} {a2 : Nat} {a3 : zV} {a4 : zV} (h : (mC m a0 = 13) ∧ (mC m (mR m 775 a0) = 20) ∧ (0 ≤ a1 ∧ a1 < mN m (mR m 775 a0)) ∧ (mC m (mR m 774 a0) = 20) ∧ (0 ≤ a1 ∧ a1 < mN m (mR m 774 a0)) ∧ (20 ≤ a2 ∧ a2 < 50) ∧ zC xs xl d 209 [zE a2] m (fun r m6 => ∃ v7 : Int, r = .inl (some (zI v7)) ∧ (((wr ((mA m (mR m 775 a0) (Int.toNat a1)) - (mA m (mR m 774 a0) (Int.toNat a1)))) ≠ v7 → zW xs xl d cX12_is 12 (some .boolean) false [] 49 [zR a0, zI a1, zE a2, zI 0, zI 0] [] m6 Q) ∧ (¬ ((wr ((mA m (mR m 775 a0) (Int.toNat a1)) - (mA m (mR m 774 a0) (Int.toNat a1)))) ≠ v7) → zW xs xl d cX12_is 12 (some .boolean) false [] 49 [zR a0, zI a1, zE a2, zI 1, zI 0] [] m6 Q)))) : zW xs xl d cX12_is 12 (some .boolean) false [] 20 [zR a0, zI a1, zE a2, a3, a4] [] m Q := by
  refine (zq_aload_n dX12_is_20 rfl).mpr ?_
  obtain ⟨g1, h⟩ := h
  refine (zq_getR2 (f := 775) (v := (mR m 775 a0)) dX12_is_21 fl_12_23 (by decide) rfl rfl (by first | rfl | simp only [zm_Is, zm_Rs, zm_As, zm_Os, zm_In0, zm_Rn0])).mpr ⟨g1, ?_⟩
  refine (zq_iload_n dX12_is_24 rfl).mpr ?_
  obtain ⟨g2, h⟩ := h
  obtain ⟨g3, h⟩ := h
  refine (zq_iald2 (v := (mA m (mR m 775 a0) (Int.toNat a1))) dX12_is_25 (by first | rfl | simp only [zm_Is, zm_Rs, zm_As, zm_Os, zm_In0, zm_Rn0])).mpr ⟨⟨g2, g3⟩, ?_⟩
  refine (zq_aload_n dX12_is_26 rfl).mpr ?_
  refine (zq_getR2 (f := 774) (v := (mR m 774 a0)) dX12_is_27 fl_12_20 (by decide) rfl rfl (by first | rfl | simp only [zm_Is, zm_Rs, zm_As, zm_Os, zm_In0, zm_Rn0])).mpr ⟨g1, ?_⟩
  refine (zq_iload_n dX12_is_30 rfl).mpr ?_
  obtain ⟨g4, h⟩ := h
  obtain ⟨g5, h⟩ := h
  refine (zq_iald2 (v := (mA m (mR m 774 a0) (Int.toNat a1))) dX12_is_31 (by first | rfl | simp only [zm_Is, zm_Rs, zm_As, zm_Os, zm_In0, zm_Rn0])).mpr ⟨⟨g4, g5⟩, ?_⟩
  refine (zq_isub dX12_is_32).mpr ?_
  refine (zq_aload_nE dX12_is_33 rfl).mpr ?_
  obtain ⟨g8, h⟩ := h
  refine zq_virtualI (n := 0) dX12_is_34 mr_12_69 zn_209 rfl rfl rfl (zrcv_E zo_209 g8) (Nat.le_of_ble_eq_true rfl) ?_
  refine h.mono (fun r m6 h => ?_)
  obtain ⟨v7, rfl, h⟩ := h
  refine ⟨_, rfl, ?_⟩
  refine (zq_icmp_ne (t := 44) dX12_is_37 rfl).mpr ⟨fun c => ?_, fun c => ?_⟩
  · replace h := h.1 c
    refine (zq_iconst (v := 0) dX12_is_44 (by decide)).mpr ?_
    refine (zq_istore_n (l := [zR a0, zI a1, zE a2, zI 0, a4]) dX12_is_45 (Nat.le_of_ble_eq_true rfl) rfl).mpr ?_
    refine (zq_iconst (v := 0) dX12_is_46 (by decide)).mpr ?_
    refine (zq_istore (l := [zR a0, zI a1, zE a2, zI 0, zI 0]) dX12_is_47 (Nat.le_of_ble_eq_true rfl) rfl).mpr ?_
    exact h
  · replace h := h.2 c
    refine (zq_iconst (v := 1) dX12_is_40 (by decide)).mpr ?_
    refine (zq_goto (t := 45) dX12_is_41 rfl).mpr ?_
    refine (zq_istore_n (l := [zR a0, zI a1, zE a2, zI 1, a4]) dX12_is_45 (Nat.le_of_ble_eq_true rfl) rfl).mpr ?_
    refine (zq_iconst (v := 0) dX12_is_46 (by decide)).mpr ?_
    refine (zq_istore (l := [zR a0, zI a1, zE a2, zI 1, zI 0]) dX12_is_47 (Nat.le_of_ble_eq_true rfl) rfl).mpr ?_
    exact h
theorem bX12_is_49 {a0 : Nat} {a1 : Int} {a2 : Nat} {a3 : Int} {a4 : Int} (h : (20 ≤ a2 ∧ a2 < 50) ∧ zC xs xl d 209 [zE a2] m (fun r m1 => ∃ v2 : Int, r = .inl (some (zI v2)) ∧ ((v2 ≤ a4 → (a3 = 0 ∨ a3 = 1) ∧ Q (.inl (some (zI a3))) m1) ∧ (¬ (v2 ≤ a4) → ((a3 = 0 → (a3 = 0 ∨ a3 = 1) ∧ Q (.inl (some (zI a3))) m1) ∧ (¬ (a3 = 0) → (mC m1 a0 = 13) ∧ (mC m1 (mR m1 774 a0) = 20) ∧ (0 ≤ a1 ∧ a1 < mN m1 (mR m1 774 a0)) ∧ (mC m1 (mR m1 769 a0) = 20) ∧ (0 ≤ (wr ((mA m1 (mR m1 774 a0) (Int.toNat a1)) + a4)) ∧ (wr ((mA m1 (mR m1 774 a0) (Int.toNat a1)) + a4)) < mN m1 (mR m1 769 a0)) ∧ zC xs xl d 210 [zE a2, zI a4] m1 (fun r m11 => ∃ v12 : Int, r = .inl (some (zI v12)) ∧ (((mA m1 (mR m1 769 a0) (Int.toNat (wr ((mA m1 (mR m1 774 a0) (Int.toNat a1)) + a4)))) ≠ v12 → zW xs xl d cX12_is 12 (some .boolean) false [] 49 [zR a0, zI a1, zE a2, zI 0, zI (wr (a4 + 1))] [] m11 Q) ∧ (¬ ((mA m1 (mR m1 769 a0) (Int.toNat (wr ((mA m1 (mR m1 774 a0) (Int.toNat a1)) + a4)))) ≠ v12) → zW xs xl d cX12_is 12 (some .boolean) false [] 49 [zR a0, zI a1, zE a2, zI 1, zI (wr (a4 + 1))] [] m11 Q))))))))) : zW xs xl d cX12_is 12 (some .boolean) false [] 49 [zR a0, zI a1, zE a2, zI a3, zI a4] [] m Q := by
  refine (zq_iload dX12_is_49 rfl).mpr ?_
  refine (zq_aload_nE dX12_is_51 rfl).mpr ?_
  obtain ⟨g3, h⟩ := h
  refine zq_virtualI (n := 0) dX12_is_52 mr_12_69 zn_209 rfl rfl rfl (zrcv_E zo_209 g3) (Nat.le_of_ble_eq_true rfl) ?_
  refine h.mono (fun r m1 h => ?_)
  obtain ⟨v2, rfl, h⟩ := h
  refine ⟨_, rfl, ?_⟩
  refine (zq_icmp_ge (t := 97) dX12_is_55 rfl).mpr ⟨fun c => ?_, fun c => ?_⟩
  · replace h := h.1 c
    refine (zq_iload_n dX12_is_97 rfl).mpr ?_
    obtain ⟨g4, h⟩ := h
    exact (zq_iret dX12_is_98 rfl).mpr ⟨g4, h⟩
  · replace h := h.2 c
    refine (zq_iload_n dX12_is_58 rfl).mpr ?_
    refine (zq_if_eq (t := 97) dX12_is_59 rfl).mpr ⟨fun c => ?_, fun c => ?_⟩
    · replace h := h.1 c
      refine (zq_iload_n dX12_is_97 rfl).mpr ?_
      obtain ⟨g5, h⟩ := h
      exact (zq_iret dX12_is_98 rfl).mpr ⟨g5, h⟩
    · replace h := h.2 c
      refine (zq_aload_n dX12_is_62 rfl).mpr ?_
      obtain ⟨g6, h⟩ := h
      refine (zq_getR2 (f := 769) (v := (mR m1 769 a0)) dX12_is_63 fl_12_9 (by decide) rfl rfl (by first | rfl | simp only [zm_Is, zm_Rs, zm_As, zm_Os, zm_In0, zm_Rn0])).mpr ⟨g6, ?_⟩
      refine (zq_aload_n dX12_is_66 rfl).mpr ?_
      refine (zq_getR2 (f := 774) (v := (mR m1 774 a0)) dX12_is_67 fl_12_20 (by decide) rfl rfl (by first | rfl | simp only [zm_Is, zm_Rs, zm_As, zm_Os, zm_In0, zm_Rn0])).mpr ⟨g6, ?_⟩
      refine (zq_iload_n dX12_is_70 rfl).mpr ?_
      obtain ⟨g7, h⟩ := h
      obtain ⟨g8, h⟩ := h
      refine (zq_iald2 (v := (mA m1 (mR m1 774 a0) (Int.toNat a1))) dX12_is_71 (by first | rfl | simp only [zm_Is, zm_Rs, zm_As, zm_Os, zm_In0, zm_Rn0])).mpr ⟨⟨g7, g8⟩, ?_⟩
      refine (zq_iload dX12_is_72 rfl).mpr ?_
      refine (zq_iadd dX12_is_74).mpr ?_
      obtain ⟨g9, h⟩ := h
      obtain ⟨g10, h⟩ := h
      refine (zq_iald2 (v := (mA m1 (mR m1 769 a0) (Int.toNat (wr ((mA m1 (mR m1 774 a0) (Int.toNat a1)) + a4))))) dX12_is_75 (by first | rfl | simp only [zm_Is, zm_Rs, zm_As, zm_Os, zm_In0, zm_Rn0])).mpr ⟨⟨g9, g10⟩, ?_⟩
      refine (zq_aload_nE dX12_is_76 rfl).mpr ?_
      refine (zq_iload dX12_is_77 rfl).mpr ?_
      refine zq_virtualI (n := 1) dX12_is_79 mr_12_74 zn_210 rfl rfl rfl (zrcv_E zo_210 g3) (Nat.le_of_ble_eq_true rfl) ?_
      refine h.mono (fun r m11 h => ?_)
      obtain ⟨v12, rfl, h⟩ := h
      refine ⟨_, rfl, ?_⟩
      refine (zq_icmp_ne (t := 89) dX12_is_82 rfl).mpr ⟨fun c => ?_, fun c => ?_⟩
      · replace h := h.1 c
        refine (zq_iconst (v := 0) dX12_is_89 (by decide)).mpr ?_
        refine (zq_istore_n (l := [zR a0, zI a1, zE a2, zI 0, zI a4]) dX12_is_90 (Nat.le_of_ble_eq_true rfl) rfl).mpr ?_
        refine (zq_iinc (l := [zR a0, zI a1, zE a2, zI 0, zI (wr (a4 + 1))]) dX12_is_91 rfl rfl).mpr ?_
        refine (zq_goto (t := 49) dX12_is_94 rfl).mpr ?_
        exact h
      · replace h := h.2 c
        refine (zq_iconst (v := 1) dX12_is_85 (by decide)).mpr ?_
        refine (zq_goto (t := 90) dX12_is_86 rfl).mpr ?_
        refine (zq_istore_n (l := [zR a0, zI a1, zE a2, zI 1, zI a4]) dX12_is_90 (Nat.le_of_ble_eq_true rfl) rfl).mpr ?_
        refine (zq_iinc (l := [zR a0, zI a1, zE a2, zI 1, zI (wr (a4 + 1))]) dX12_is_91 rfl rfl).mpr ?_
        refine (zq_goto (t := 49) dX12_is_94 rfl).mpr ?_
        exact h
theorem bX12_which_0 {a0 : Nat} {a1 : Int} {a2 : Nat} (h : zW xs xl d cX12_which 12 (some .int) false [] 5 [zR a0, zI a1, zE a2, zI (-1), zI 0] [] m Q) : zC xs xl (d + 1) 171 [zR a0, zI a1, zE a2] m Q := by
  refine zk_171 ?_
  refine (zq_iconst (v := (-1)) dX12_which_0 (by decide)).mpr ?_
  refine (zq_istore_n (l := [zR a0, zI a1, zE a2, zI (-1), zU]) dX12_which_1 (Nat.le_of_ble_eq_true rfl) rfl).mpr ?_
  refine (zq_iconst (v := 0) dX12_which_2 (by decide)).mpr ?_
  refine (zq_istore (l := [zR a0, zI a1, zE a2, zI (-1), zI 0]) dX12_which_3 (Nat.le_of_ble_eq_true rfl) rfl).mpr ?_
  exact h
theorem bX12_which_5 {a0 : Nat} {a1 : Int} {a2 : Nat} {a3 : Int} {a4 : Int} (h : (zXk a2 ≠ 0) ∧ (((wr (zXN xl a2)) ≤ a4 → Q (.inl (some (zI a3))) m) ∧ (¬ ((wr (zXN xl a2)) ≤ a4) → (zXk a2 = 3 ∧ 0 ≤ a4 ∧ a4 < zXN xl a2) ∧ (mC m a0 = 13) ∧ zC xs xl d 170 [zR a0, zI a1, zE (zXQ a2 (a4).toNat)] m (fun r m3 => ∃ v4 : Int, r = .inl (some (zI v4)) ∧ ((v4 = 0 → zW xs xl d cX12_which 12 (some .int) false [] 5 [zR a0, zI a1, zE a2, zI a3, zI (wr (a4 + 1))] [] m3 Q) ∧ (¬ (v4 = 0) → zW xs xl d cX12_which 12 (some .int) false [] 5 [zR a0, zI a1, zE a2, zI a4, zI (wr (a4 + 1))] [] m3 Q)))))) : zW xs xl d cX12_which 12 (some .int) false [] 5 [zR a0, zI a1, zE a2, zI a3, zI a4] [] m Q := by
  refine (zq_iload dX12_which_5 rfl).mpr ?_
  refine (zq_aload_nE dX12_which_7 rfl).mpr ?_
  obtain ⟨g1, h⟩ := h
  refine (zq_alenE dX12_which_8).mpr ⟨g1, ?_⟩
  refine (zq_icmp_ge (t := 33) dX12_which_9 rfl).mpr ⟨fun c => ?_, fun c => ?_⟩
  · replace h := h.1 c
    refine (zq_iload_n dX12_which_33 rfl).mpr ?_
    exact (zq_iret dX12_which_34 rfl).mpr ⟨trivial, h⟩
  · replace h := h.2 c
    refine (zq_aload_n dX12_which_12 rfl).mpr ?_
    refine (zq_iload_n dX12_which_13 rfl).mpr ?_
    refine (zq_aload_nE dX12_which_14 rfl).mpr ?_
    refine (zq_iload dX12_which_15 rfl).mpr ?_
    obtain ⟨g2, h⟩ := h
    refine (zq_aaldE dX12_which_17).mpr ⟨g2, ?_⟩
    obtain ⟨g5, h⟩ := h
    refine zq_virtualI (n := 2) dX12_which_18 mr_12_78 zn_170 rfl rfl rfl (zrcv_R zo_170 (by decide) g5) (Nat.le_of_ble_eq_true rfl) ?_
    refine h.mono (fun r m3 h => ?_)
    obtain ⟨v4, rfl, h⟩ := h
    refine ⟨_, rfl, ?_⟩
    refine (zq_if_eq (t := 27) dX12_which_21 rfl).mpr ⟨fun c => ?_, fun c => ?_⟩
    · replace h := h.1 c
      refine (zq_iinc (l := [zR a0, zI a1, zE a2, zI a3, zI (wr (a4 + 1))]) dX12_which_27 rfl rfl).mpr ?_
      refine (zq_goto (t := 5) dX12_which_30 rfl).mpr ?_
      exact h
    · replace h := h.2 c
      refine (zq_iload dX12_which_24 rfl).mpr ?_
      refine (zq_istore_n (l := [zR a0, zI a1, zE a2, zI a4, zI a4]) dX12_which_26 (Nat.le_of_ble_eq_true rfl) rfl).mpr ?_
      refine (zq_iinc (l := [zR a0, zI a1, zE a2, zI a4, zI (wr (a4 + 1))]) dX12_which_27 rfl rfl).mpr ?_
      refine (zq_goto (t := 5) dX12_which_30 rfl).mpr ?_
      exact h
theorem bX12_numberAt_0 {a0 : Nat} {a1 : Int} (h : (mC m a0 = 13) ∧ (mC m (mR m 774 a0) = 20) ∧ (0 ≤ a1 ∧ a1 < mN m (mR m 774 a0)) ∧ zW xs xl d cX12_numberAt 12 (some .int) false [] 9 [zR a0, zI a1, zI 0, zI (mA m (mR m 774 a0) (Int.toNat a1))] [] m Q) : zC xs xl (d + 1) 172 [zR a0, zI a1] m Q := by
  refine zk_172 ?_
  refine (zq_iconst (v := 0) dX12_numberAt_0 (by decide)).mpr ?_
  refine (zq_istore_n (l := [zR a0, zI a1, zI 0, zU]) dX12_numberAt_1 (Nat.le_of_ble_eq_true rfl) rfl).mpr ?_
  refine (zq_aload_n dX12_numberAt_2 rfl).mpr ?_
  obtain ⟨g1, h⟩ := h
  refine (zq_getR2 (f := 774) (v := (mR m 774 a0)) dX12_numberAt_3 fl_12_20 (by decide) rfl rfl (by first | rfl | simp only [zm_Is, zm_Rs, zm_As, zm_Os, zm_In0, zm_Rn0])).mpr ⟨g1, ?_⟩
  refine (zq_iload_n dX12_numberAt_6 rfl).mpr ?_
  obtain ⟨g2, h⟩ := h
  obtain ⟨g3, h⟩ := h
  refine (zq_iald2 (v := (mA m (mR m 774 a0) (Int.toNat a1))) dX12_numberAt_7 (by first | rfl | simp only [zm_Is, zm_Rs, zm_As, zm_Os, zm_In0, zm_Rn0])).mpr ⟨⟨g2, g3⟩, ?_⟩
  refine (zq_istore_n (l := [zR a0, zI a1, zI 0, zI (mA m (mR m 774 a0) (Int.toNat a1))]) dX12_numberAt_8 (Nat.le_of_ble_eq_true rfl) rfl).mpr ?_
  exact h
theorem bX12_numberAt_9 {a0 : Nat} {a1 : Int} {a2 : Int} {a3 : Int} (h : (mC m a0 = 13) ∧ (mC m (mR m 775 a0) = 20) ∧ (0 ≤ a1 ∧ a1 < mN m (mR m 775 a0)) ∧ (((mA m (mR m 775 a0) (Int.toNat a1)) ≤ a3 → Q (.inl (some (zI a2))) m) ∧ (¬ ((mA m (mR m 775 a0) (Int.toNat a1)) ≤ a3) → (mC m (mR m 769 a0) = 20) ∧ (0 ≤ a3 ∧ a3 < mN m (mR m 769 a0)) ∧ zW xs xl d cX12_numberAt 12 (some .int) false [] 9 [zR a0, zI a1, zI (wr ((wr ((wr (10 * a2)) + (mA m (mR m 769 a0) (Int.toNat a3)))) - 48)), zI (wr (a3 + 1))] [] m Q))) : zW xs xl d cX12_numberAt 12 (some .int) false [] 9 [zR a0, zI a1, zI a2, zI a3] [] m Q := by
  refine (zq_iload_n dX12_numberAt_9 rfl).mpr ?_
  refine (zq_aload_n dX12_numberAt_10 rfl).mpr ?_
  obtain ⟨g1, h⟩ := h
  refine (zq_getR2 (f := 775) (v := (mR m 775 a0)) dX12_numberAt_11 fl_12_23 (by decide) rfl rfl (by first | rfl | simp only [zm_Is, zm_Rs, zm_As, zm_Os, zm_In0, zm_Rn0])).mpr ⟨g1, ?_⟩
  refine (zq_iload_n dX12_numberAt_14 rfl).mpr ?_
  obtain ⟨g2, h⟩ := h
  obtain ⟨g3, h⟩ := h
  refine (zq_iald2 (v := (mA m (mR m 775 a0) (Int.toNat a1))) dX12_numberAt_15 (by first | rfl | simp only [zm_Is, zm_Rs, zm_As, zm_Os, zm_In0, zm_Rn0])).mpr ⟨⟨g2, g3⟩, ?_⟩
  refine (zq_icmp_ge (t := 40) dX12_numberAt_16 rfl).mpr ⟨fun c => ?_, fun c => ?_⟩
  · replace h := h.1 c
    refine (zq_iload_n dX12_numberAt_40 rfl).mpr ?_
    exact (zq_iret dX12_numberAt_41 rfl).mpr ⟨trivial, h⟩
  · replace h := h.2 c
    refine (zq_bipush (v := 10) dX12_numberAt_19 (by decide)).mpr ?_
    refine (zq_iload_n dX12_numberAt_21 rfl).mpr ?_
    refine (zq_imul dX12_numberAt_22).mpr ?_
    refine (zq_aload_n dX12_numberAt_23 rfl).mpr ?_
    refine (zq_getR2 (f := 769) (v := (mR m 769 a0)) dX12_numberAt_24 fl_12_9 (by decide) rfl rfl (by first | rfl | simp only [zm_Is, zm_Rs, zm_As, zm_Os, zm_In0, zm_Rn0])).mpr ⟨g1, ?_⟩
    refine (zq_iload_n dX12_numberAt_27 rfl).mpr ?_
    obtain ⟨g4, h⟩ := h
    obtain ⟨g5, h⟩ := h
    refine (zq_iald2 (v := (mA m (mR m 769 a0) (Int.toNat a3))) dX12_numberAt_28 (by first | rfl | simp only [zm_Is, zm_Rs, zm_As, zm_Os, zm_In0, zm_Rn0])).mpr ⟨⟨g4, g5⟩, ?_⟩
    refine (zq_iadd dX12_numberAt_29).mpr ?_
    refine (zq_bipush (v := 48) dX12_numberAt_30 (by decide)).mpr ?_
    refine (zq_isub dX12_numberAt_32).mpr ?_
    refine (zq_istore_n (l := [zR a0, zI a1, zI (wr ((wr ((wr (10 * a2)) + (mA m (mR m 769 a0) (Int.toNat a3)))) - 48)), zI a3]) dX12_numberAt_33 (Nat.le_of_ble_eq_true rfl) rfl).mpr ?_
    refine (zq_iinc (l := [zR a0, zI a1, zI (wr ((wr ((wr (10 * a2)) + (mA m (mR m 769 a0) (Int.toNat a3)))) - 48)), zI (wr (a3 + 1))]) dX12_numberAt_34 rfl rfl).mpr ?_
    refine (zq_goto (t := 9) dX12_numberAt_37 rfl).mpr ?_
    exact h
theorem bX12_takes_0 {a0 : Nat} {a1 : Int} (h : ((a1 = 0 → (a1 = 0 ∨ a1 = 1) ∧ Q (.inl (some (zI a1))) m) ∧ (¬ (a1 = 0) → (mC m a0 = 13) ∧ (a1 = 0 ∨ a1 = 1) ∧ Q (.inl (some (zI a1))) (sI m 776 a0 (wr ((mI m 776 a0) + 1)))))) : zC xs xl (d + 1) 173 [zR a0, zI a1] m Q := by
  refine zk_173 ?_
  refine (zq_iload_n dX12_takes_0 rfl).mpr ?_
  refine (zq_if_eq (t := 14) dX12_takes_1 rfl).mpr ⟨fun c => ?_, fun c => ?_⟩
  · replace h := h.1 c
    refine (zq_iload_n dX12_takes_14 rfl).mpr ?_
    obtain ⟨g1, h⟩ := h
    exact (zq_iret dX12_takes_15 rfl).mpr ⟨g1, h⟩
  · replace h := h.2 c
    refine (zq_aload_n dX12_takes_4 rfl).mpr ?_
    refine (zq_dupR dX12_takes_5).mpr ?_
    obtain ⟨g2, h⟩ := h
    refine (zq_getI2 (f := 776) (v := (mI m 776 a0)) dX12_takes_6 fl_12_82 (by decide) rfl rfl (by first | rfl | simp only [zm_Is, zm_Rs, zm_As, zm_Os, zm_In0, zm_Rn0])).mpr ⟨g2, ?_⟩
    refine (zq_iconst (v := 1) dX12_takes_9 (by decide)).mpr ?_
    refine (zq_iadd dX12_takes_10).mpr ?_
    refine (zq_putI (f := 776) dX12_takes_11 fl_12_82 (by decide) rfl rfl rfl).mpr ⟨g2, ?_⟩
    refine (zq_iload_n dX12_takes_14 rfl).mpr ?_
    obtain ⟨g3, h⟩ := h
    exact (zq_iret dX12_takes_15 rfl).mpr ⟨g3, h⟩
theorem bX12_planForm_0 {a0 : Nat} (h : (mC m a0 = 13) ∧ zW xs xl d cX12_planForm 12 (some .boolean) false [] 5 [zR a0] [] (sI m 776 a0 0) Q) : zC xs xl (d + 1) 174 [zR a0] m Q := by
  refine zk_174 ?_
  refine (zq_aload_n dX12_planForm_0 rfl).mpr ?_
  refine (zq_iconst (v := 0) dX12_planForm_1 (by decide)).mpr ?_
  obtain ⟨g1, h⟩ := h
  refine (zq_putI (f := 776) dX12_planForm_2 fl_12_82 (by decide) rfl rfl rfl).mpr ⟨g1, ?_⟩
  exact h
theorem bX12_planForm_5 {a0 : Nat} (h : (mC m a0 = 13) ∧ zC xs xl d 175 [zR a0] m (fun r m1 => ∃ v2 : Int, r = .inl (some (zI v2)) ∧ ((v2 ≠ 0 → (mC m1 a0 = 13) ∧ (mC m1 (mR m1 773 a0) = 20) ∧ (0 ≤ (mI m1 776 a0) ∧ (mI m1 776 a0) < mN m1 (mR m1 773 a0)) ∧ (((mA m1 (mR m1 773 a0) (Int.toNat (mI m1 776 a0))) ≠ 0 → zW xs xl d cX12_planForm 12 (some .boolean) false [] 5 [zR a0] [] m1 Q) ∧ (¬ ((mA m1 (mR m1 773 a0) (Int.toNat (mI m1 776 a0))) ≠ 0) → Q (.inl (some (zI 1))) m1))) ∧ (¬ (v2 ≠ 0) → Q (.inl (some (zI 0))) m1)))) : zW xs xl d cX12_planForm 12 (some .boolean) false [] 5 [zR a0] [] m Q := by
  refine (zq_aload_n dX12_planForm_5 rfl).mpr ?_
  obtain ⟨g3, h⟩ := h
  refine zq_virtualI (n := 0) dX12_planForm_6 mr_12_85 zn_175 rfl rfl rfl (zrcv_R zo_175 (by decide) g3) (Nat.le_of_ble_eq_true rfl) ?_
  refine h.mono (fun r m1 h => ?_)
  obtain ⟨v2, rfl, h⟩ := h
  refine ⟨_, rfl, ?_⟩
  refine (zq_if_ne (t := 14) dX12_planForm_9 rfl).mpr ⟨fun c => ?_, fun c => ?_⟩
  · replace h := h.1 c
    refine (zq_aload_n dX12_planForm_14 rfl).mpr ?_
    obtain ⟨g4, h⟩ := h
    refine (zq_getR2 (f := 773) (v := (mR m1 773 a0)) dX12_planForm_15 fl_12_17 (by decide) rfl rfl (by first | rfl | simp only [zm_Is, zm_Rs, zm_As, zm_Os, zm_In0, zm_Rn0])).mpr ⟨g4, ?_⟩
    refine (zq_aload_n dX12_planForm_18 rfl).mpr ?_
    refine (zq_getI2 (f := 776) (v := (mI m1 776 a0)) dX12_planForm_19 fl_12_82 (by decide) rfl rfl (by first | rfl | simp only [zm_Is, zm_Rs, zm_As, zm_Os, zm_In0, zm_Rn0])).mpr ⟨g4, ?_⟩
    obtain ⟨g5, h⟩ := h
    obtain ⟨g6, h⟩ := h
    refine (zq_iald2 (v := (mA m1 (mR m1 773 a0) (Int.toNat (mI m1 776 a0)))) dX12_planForm_22 (by first | rfl | simp only [zm_Is, zm_Rs, zm_As, zm_Os, zm_In0, zm_Rn0])).mpr ⟨⟨g5, g6⟩, ?_⟩
    refine (zq_if_ne (t := 5) dX12_planForm_23 rfl).mpr ⟨fun c => ?_, fun c => ?_⟩
    · replace h := h.1 c
      exact h
    · replace h := h.2 c
      refine (zq_iconst (v := 1) dX12_planForm_26 (by decide)).mpr ?_
      exact (zq_iret dX12_planForm_27 rfl).mpr ⟨Or.inr rfl, h⟩
  · replace h := h.2 c
    refine (zq_iconst (v := 0) dX12_planForm_12 (by decide)).mpr ?_
    exact (zq_iret dX12_planForm_13 rfl).mpr ⟨Or.inl rfl, h⟩
theorem bX12_stepForm_0 {a0 : Nat} (h : zW xs xl d cX12_stepForm 12 (some .boolean) false [] 2 [zR a0, zI 0] [] m Q) : zC xs xl (d + 1) 175 [zR a0] m Q := by
  refine zk_175 ?_
  refine (zq_iconst (v := 0) dX12_stepForm_0 (by decide)).mpr ?_
  refine (zq_istore_n (l := [zR a0, zI 0]) dX12_stepForm_1 (Nat.le_of_ble_eq_true rfl) rfl).mpr ?_
  exact h
theorem bX12_stepForm_2 {a0 : Nat} {a1 : Int} (h : ((a1 ≤ 0 → zW xs xl d cX12_stepForm 12 (some .boolean) false [] 50 [zR a0, zI a1] [] m Q) ∧ (¬ (a1 ≤ 0) → (mC m a0 = 13) ∧ zC xs xl d 170 [zR a0, zI (mI m 776 a0), zE 29] m (fun r m2 => ∃ v3 : Int, r = .inl (some (zI v3)) ∧ ((v3 = 0 → zW xs xl d cX12_stepForm 12 (some .boolean) false [] 50 [zR a0, zI a1] [] m2 Q) ∧ (¬ (v3 = 0) → (mC m2 a0 = 13) ∧ zC xs xl d 170 [zR a0, zI (wr ((mI m2 776 a0) - 1)), zE 30] m2 (fun r m5 => ∃ v6 : Int, r = .inl (some (zI v6)) ∧ ((v6 ≠ 0 → zW xs xl d cX12_stepForm 12 (some .boolean) false [] 50 [zR a0, zI a1] [] m5 Q) ∧ (¬ (v6 ≠ 0) → (mC m5 a0 = 13) ∧ zW xs xl d cX12_stepForm 12 (some .boolean) false [] 149 [zR a0, zI (wr (a1 + (-1)))] [] (sI m5 776 a0 (wr ((mI m5 776 a0) + 1))) Q))))))))) : zW xs xl d cX12_stepForm 12 (some .boolean) false [] 2 [zR a0, zI a1] [] m Q := by
  refine (zq_iload_n dX12_stepForm_2 rfl).mpr ?_
  refine (zq_if_le (t := 50) dX12_stepForm_3 rfl).mpr ⟨fun c => ?_, fun c => ?_⟩
  · replace h := h.1 c
    exact h
  · replace h := h.2 c
    refine (zq_aload_n dX12_stepForm_6 rfl).mpr ?_
    refine (zq_aload_n dX12_stepForm_7 rfl).mpr ?_
    obtain ⟨g1, h⟩ := h
    refine (zq_getI2 (f := 776) (v := (mI m 776 a0)) dX12_stepForm_8 fl_12_82 (by decide) rfl rfl (by first | rfl | simp only [zm_Is, zm_Rs, zm_As, zm_Os, zm_In0, zm_Rn0])).mpr ⟨g1, ?_⟩
    refine (zq_ldc dX12_stepForm_11 ck_12_89).mpr ?_
    refine zq_virtualI (n := 2) dX12_stepForm_13 mr_12_78 zn_170 rfl rfl rfl (zrcv_R zo_170 (by decide) g1) (Nat.le_of_ble_eq_true rfl) ?_
    refine h.mono (fun r m2 h => ?_)
    obtain ⟨v3, rfl, h⟩ := h
    refine ⟨_, rfl, ?_⟩
    refine (zq_if_eq (t := 50) dX12_stepForm_16 rfl).mpr ⟨fun c => ?_, fun c => ?_⟩
    · replace h := h.1 c
      exact h
    · replace h := h.2 c
      refine (zq_aload_n dX12_stepForm_19 rfl).mpr ?_
      refine (zq_aload_n dX12_stepForm_20 rfl).mpr ?_
      obtain ⟨g4, h⟩ := h
      refine (zq_getI2 (f := 776) (v := (mI m2 776 a0)) dX12_stepForm_21 fl_12_82 (by decide) rfl rfl (by first | rfl | simp only [zm_Is, zm_Rs, zm_As, zm_Os, zm_In0, zm_Rn0])).mpr ⟨g4, ?_⟩
      refine (zq_iconst (v := 1) dX12_stepForm_24 (by decide)).mpr ?_
      refine (zq_isub dX12_stepForm_25).mpr ?_
      refine (zq_ldc dX12_stepForm_26 ck_12_91).mpr ?_
      refine zq_virtualI (n := 2) dX12_stepForm_28 mr_12_78 zn_170 rfl rfl rfl (zrcv_R zo_170 (by decide) g4) (Nat.le_of_ble_eq_true rfl) ?_
      refine h.mono (fun r m5 h => ?_)
      obtain ⟨v6, rfl, h⟩ := h
      refine ⟨_, rfl, ?_⟩
      refine (zq_if_ne (t := 50) dX12_stepForm_31 rfl).mpr ⟨fun c => ?_, fun c => ?_⟩
      · replace h := h.1 c
        exact h
      · replace h := h.2 c
        refine (zq_aload_n dX12_stepForm_34 rfl).mpr ?_
        refine (zq_dupR dX12_stepForm_35).mpr ?_
        obtain ⟨g7, h⟩ := h
        refine (zq_getI2 (f := 776) (v := (mI m5 776 a0)) dX12_stepForm_36 fl_12_82 (by decide) rfl rfl (by first | rfl | simp only [zm_Is, zm_Rs, zm_As, zm_Os, zm_In0, zm_Rn0])).mpr ⟨g7, ?_⟩
        refine (zq_iconst (v := 1) dX12_stepForm_39 (by decide)).mpr ?_
        refine (zq_iadd dX12_stepForm_40).mpr ?_
        refine (zq_putI (f := 776) dX12_stepForm_41 fl_12_82 (by decide) rfl rfl rfl).mpr ⟨g7, ?_⟩
        refine (zq_iinc (l := [zR a0, zI (wr (a1 + (-1)))]) dX12_stepForm_44 rfl rfl).mpr ?_
        refine (zq_goto (t := 149) dX12_stepForm_47 rfl).mpr ?_
        exact h
theorem bX12_stepForm_50 {a0 : Nat} {a1 : Int} (h : (mC m a0 = 13) ∧ zC xs xl d 170 [zR a0, zI (mI m 776 a0), zE 31] m (fun r m2 => ∃ v3 : Int, r = .inl (some (zI v3)) ∧ ((v3 = 0 → (mC m2 a0 = 13) ∧ zC xs xl d 176 [zR a0] m2 (fun r m4 => ∃ v5 : Int, r = .inl (some (zI v5)) ∧ ((v5 = 0 → Q (.inl (some (zI 0))) m4) ∧ (¬ (v5 = 0) → (mC m4 a0 = 13) ∧ zC xs xl d 170 [zR a0, zI (mI m4 776 a0), zE 32] m4 (fun r m8 => ∃ v9 : Int, r = .inl (some (zI v9)) ∧ (mC m8 a0 = 13) ∧ zC xs xl d 173 [zR a0, zI v9] m8 (fun r m10 => ∃ v11 : Int, r = .inl (some (zI v11)) ∧ ((v11 ≠ 0 → zW xs xl d cX12_stepForm 12 (some .boolean) false [] 149 [zR a0, zI a1] [] m10 Q) ∧ (¬ (v11 ≠ 0) → Q (.inl (some (zI 0))) m10)))))))) ∧ (¬ (v3 = 0) → (mC m2 a0 = 13) ∧ (mC m2 (mR m2 773 a0) = 20) ∧ (0 ≤ (wr ((mI m2 776 a0) + 1)) ∧ (wr ((mI m2 776 a0) + 1)) < mN m2 (mR m2 773 a0)) ∧ (((mA m2 (mR m2 773 a0) (Int.toNat (wr ((mI m2 776 a0) + 1)))) ≠ 2 → zC xs xl d 173 [zR a0, zI 0] (sI m2 776 a0 (wr ((mI m2 776 a0) + 1))) (fun r m16 => ∃ v17 : Int, r = .inl (some (zI v17)) ∧ ((v17 = 0 → Q (.inl (some (zI 0))) m16) ∧ (¬ (v17 = 0) → (mC m16 a0 = 13) ∧ zC xs xl d 170 [zR a0, zI (mI m16 776 a0), zE 30] m16 (fun r m19 => ∃ v20 : Int, r = .inl (some (zI v20)) ∧ (mC m19 a0 = 13) ∧ zC xs xl d 173 [zR a0, zI v20] m19 (fun r m21 => ∃ v22 : Int, r = .inl (some (zI v22)) ∧ ((v22 ≠ 0 → zW xs xl d cX12_stepForm 12 (some .boolean) false [] 149 [zR a0, zI (wr (a1 + 1))] [] m21 Q) ∧ (¬ (v22 ≠ 0) → Q (.inl (some (zI 0))) m21)))))))) ∧ (¬ ((mA m2 (mR m2 773 a0) (Int.toNat (wr ((mI m2 776 a0) + 1)))) ≠ 2) → zC xs xl d 173 [zR a0, zI 1] (sI m2 776 a0 (wr ((mI m2 776 a0) + 1))) (fun r m24 => ∃ v25 : Int, r = .inl (some (zI v25)) ∧ ((v25 = 0 → Q (.inl (some (zI 0))) m24) ∧ (¬ (v25 = 0) → (mC m24 a0 = 13) ∧ zC xs xl d 170 [zR a0, zI (mI m24 776 a0), zE 30] m24 (fun r m27 => ∃ v28 : Int, r = .inl (some (zI v28)) ∧ (mC m27 a0 = 13) ∧ zC xs xl d 173 [zR a0, zI v28] m27 (fun r m29 => ∃ v30 : Int, r = .inl (some (zI v30)) ∧ ((v30 ≠ 0 → zW xs xl d cX12_stepForm 12 (some .boolean) false [] 149 [zR a0, zI (wr (a1 + 1))] [] m29 Q) ∧ (¬ (v30 ≠ 0) → Q (.inl (some (zI 0))) m29))))))))))))) : zW xs xl d cX12_stepForm 12 (some .boolean) false [] 50 [zR a0, zI a1] [] m Q := by
  refine (zq_aload_n dX12_stepForm_50 rfl).mpr ?_
  refine (zq_aload_n dX12_stepForm_51 rfl).mpr ?_
  obtain ⟨g1, h⟩ := h
  refine (zq_getI2 (f := 776) (v := (mI m 776 a0)) dX12_stepForm_52 fl_12_82 (by decide) rfl rfl (by first | rfl | simp only [zm_Is, zm_Rs, zm_As, zm_Os, zm_In0, zm_Rn0])).mpr ⟨g1, ?_⟩
  refine (zq_ldc dX12_stepForm_55 ck_12_93).mpr ?_
  refine zq_virtualI (n := 2) dX12_stepForm_57 mr_12_78 zn_170 rfl rfl rfl (zrcv_R zo_170 (by decide) g1) (Nat.le_of_ble_eq_true rfl) ?_
  refine h.mono (fun r m2 h => ?_)
  obtain ⟨v3, rfl, h⟩ := h
  refine ⟨_, rfl, ?_⟩
  refine (zq_if_eq (t := 123) dX12_stepForm_60 rfl).mpr ⟨fun c => ?_, fun c => ?_⟩
  · replace h := h.1 c
    refine (zq_aload_n dX12_stepForm_123 rfl).mpr ?_
    obtain ⟨g6, h⟩ := h
    refine zq_virtualI (n := 0) dX12_stepForm_124 mr_12_99 zn_176 rfl rfl rfl (zrcv_R zo_176 (by decide) g6) (Nat.le_of_ble_eq_true rfl) ?_
    refine h.mono (fun r m4 h => ?_)
    obtain ⟨v5, rfl, h⟩ := h
    refine ⟨_, rfl, ?_⟩
    refine (zq_if_eq (t := 147) dX12_stepForm_127 rfl).mpr ⟨fun c => ?_, fun c => ?_⟩
    · replace h := h.1 c
      refine (zq_iconst (v := 0) dX12_stepForm_147 (by decide)).mpr ?_
      exact (zq_iret dX12_stepForm_148 rfl).mpr ⟨Or.inl rfl, h⟩
    · replace h := h.2 c
      refine (zq_aload_n dX12_stepForm_130 rfl).mpr ?_
      refine (zq_aload_n dX12_stepForm_131 rfl).mpr ?_
      refine (zq_aload_n dX12_stepForm_132 rfl).mpr ?_
      obtain ⟨g7, h⟩ := h
      refine (zq_getI2 (f := 776) (v := (mI m4 776 a0)) dX12_stepForm_133 fl_12_82 (by decide) rfl rfl (by first | rfl | simp only [zm_Is, zm_Rs, zm_As, zm_Os, zm_In0, zm_Rn0])).mpr ⟨g7, ?_⟩
      refine (zq_ldc dX12_stepForm_136 ck_12_102).mpr ?_
      refine zq_virtualI (n := 2) dX12_stepForm_138 mr_12_78 zn_170 rfl rfl rfl (zrcv_R zo_170 (by decide) g7) (Nat.le_of_ble_eq_true rfl) ?_
      refine h.mono (fun r m8 h => ?_)
      obtain ⟨v9, rfl, h⟩ := h
      refine ⟨_, rfl, ?_⟩
      obtain ⟨g12, h⟩ := h
      refine zq_virtualI (n := 1) dX12_stepForm_141 mr_12_95 zn_173 rfl rfl rfl (zrcv_R zo_173 (by decide) g12) (Nat.le_of_ble_eq_true rfl) ?_
      refine h.mono (fun r m10 h => ?_)
      obtain ⟨v11, rfl, h⟩ := h
      refine ⟨_, rfl, ?_⟩
      refine (zq_if_ne (t := 149) dX12_stepForm_144 rfl).mpr ⟨fun c => ?_, fun c => ?_⟩
      · replace h := h.1 c
        exact h
      · replace h := h.2 c
        refine (zq_iconst (v := 0) dX12_stepForm_147 (by decide)).mpr ?_
        exact (zq_iret dX12_stepForm_148 rfl).mpr ⟨Or.inl rfl, h⟩
  · replace h := h.2 c
    refine (zq_aload_n dX12_stepForm_63 rfl).mpr ?_
    refine (zq_dupR dX12_stepForm_64).mpr ?_
    obtain ⟨g13, h⟩ := h
    refine (zq_getI2 (f := 776) (v := (mI m2 776 a0)) dX12_stepForm_65 fl_12_82 (by decide) rfl rfl (by first | rfl | simp only [zm_Is, zm_Rs, zm_As, zm_Os, zm_In0, zm_Rn0])).mpr ⟨g13, ?_⟩
    refine (zq_iconst (v := 1) dX12_stepForm_68 (by decide)).mpr ?_
    refine (zq_iadd dX12_stepForm_69).mpr ?_
    refine (zq_putI (f := 776) dX12_stepForm_70 fl_12_82 (by decide) rfl rfl rfl).mpr ⟨g13, ?_⟩
    refine (zq_aload_n dX12_stepForm_73 rfl).mpr ?_
    refine (zq_aload_n dX12_stepForm_74 rfl).mpr ?_
    refine (zq_getR2 (f := 773) (v := (mR m2 773 a0)) dX12_stepForm_75 fl_12_17 (by decide) rfl rfl (by first | rfl | simp only [zm_Is, zm_Rs, zm_As, zm_Os, zm_In0, zm_Rn0])).mpr ⟨g13, ?_⟩
    refine (zq_aload_n dX12_stepForm_78 rfl).mpr ?_
    refine (zq_getI2 (f := 776) (v := (wr ((mI m2 776 a0) + 1))) dX12_stepForm_79 fl_12_82 (by decide) rfl rfl (by first | rfl | simp only [zm_Is, zm_Rs, zm_As, zm_Os, zm_In0, zm_Rn0])).mpr ⟨g13, ?_⟩
    obtain ⟨g14, h⟩ := h
    obtain ⟨g15, h⟩ := h
    refine (zq_iald2 (v := (mA m2 (mR m2 773 a0) (Int.toNat (wr ((mI m2 776 a0) + 1))))) dX12_stepForm_82 (by first | rfl | simp only [zm_Is, zm_Rs, zm_As, zm_Os, zm_In0, zm_Rn0])).mpr ⟨⟨g14, g15⟩, ?_⟩
    refine (zq_iconst (v := 2) dX12_stepForm_83 (by decide)).mpr ?_
    refine (zq_icmp_ne (t := 91) dX12_stepForm_84 rfl).mpr ⟨fun c => ?_, fun c => ?_⟩
    · replace h := h.1 c
      refine (zq_iconst (v := 0) dX12_stepForm_91 (by decide)).mpr ?_
      refine zq_virtualI (n := 1) dX12_stepForm_92 mr_12_95 zn_173 rfl rfl rfl (zrcv_R zo_173 (by decide) g13) (Nat.le_of_ble_eq_true rfl) ?_
      refine h.mono (fun r m16 h => ?_)
      obtain ⟨v17, rfl, h⟩ := h
      refine ⟨_, rfl, ?_⟩
      refine (zq_if_eq (t := 115) dX12_stepForm_95 rfl).mpr ⟨fun c => ?_, fun c => ?_⟩
      · replace h := h.1 c
        refine (zq_iconst (v := 0) dX12_stepForm_115 (by decide)).mpr ?_
        exact (zq_iret dX12_stepForm_116 rfl).mpr ⟨Or.inl rfl, h⟩
      · replace h := h.2 c
        refine (zq_aload_n dX12_stepForm_98 rfl).mpr ?_
        refine (zq_aload_n dX12_stepForm_99 rfl).mpr ?_
        refine (zq_aload_n dX12_stepForm_100 rfl).mpr ?_
        obtain ⟨g18, h⟩ := h
        refine (zq_getI2 (f := 776) (v := (mI m16 776 a0)) dX12_stepForm_101 fl_12_82 (by decide) rfl rfl (by first | rfl | simp only [zm_Is, zm_Rs, zm_As, zm_Os, zm_In0, zm_Rn0])).mpr ⟨g18, ?_⟩
        refine (zq_ldc dX12_stepForm_104 ck_12_91).mpr ?_
        refine zq_virtualI (n := 2) dX12_stepForm_106 mr_12_78 zn_170 rfl rfl rfl (zrcv_R zo_170 (by decide) g18) (Nat.le_of_ble_eq_true rfl) ?_
        refine h.mono (fun r m19 h => ?_)
        obtain ⟨v20, rfl, h⟩ := h
        refine ⟨_, rfl, ?_⟩
        obtain ⟨g23, h⟩ := h
        refine zq_virtualI (n := 1) dX12_stepForm_109 mr_12_95 zn_173 rfl rfl rfl (zrcv_R zo_173 (by decide) g23) (Nat.le_of_ble_eq_true rfl) ?_
        refine h.mono (fun r m21 h => ?_)
        obtain ⟨v22, rfl, h⟩ := h
        refine ⟨_, rfl, ?_⟩
        refine (zq_if_ne (t := 117) dX12_stepForm_112 rfl).mpr ⟨fun c => ?_, fun c => ?_⟩
        · replace h := h.1 c
          refine (zq_iinc (l := [zR a0, zI (wr (a1 + 1))]) dX12_stepForm_117 rfl rfl).mpr ?_
          refine (zq_goto (t := 149) dX12_stepForm_120 rfl).mpr ?_
          exact h
        · replace h := h.2 c
          refine (zq_iconst (v := 0) dX12_stepForm_115 (by decide)).mpr ?_
          exact (zq_iret dX12_stepForm_116 rfl).mpr ⟨Or.inl rfl, h⟩
    · replace h := h.2 c
      refine (zq_iconst (v := 1) dX12_stepForm_87 (by decide)).mpr ?_
      refine (zq_goto (t := 92) dX12_stepForm_88 rfl).mpr ?_
      refine zq_virtualI (n := 1) dX12_stepForm_92 mr_12_95 zn_173 rfl rfl rfl (zrcv_R zo_173 (by decide) g13) (Nat.le_of_ble_eq_true rfl) ?_
      refine h.mono (fun r m24 h => ?_)
      obtain ⟨v25, rfl, h⟩ := h
      refine ⟨_, rfl, ?_⟩
      refine (zq_if_eq (t := 115) dX12_stepForm_95 rfl).mpr ⟨fun c => ?_, fun c => ?_⟩
      · replace h := h.1 c
        refine (zq_iconst (v := 0) dX12_stepForm_115 (by decide)).mpr ?_
        exact (zq_iret dX12_stepForm_116 rfl).mpr ⟨Or.inl rfl, h⟩
      · replace h := h.2 c
        refine (zq_aload_n dX12_stepForm_98 rfl).mpr ?_
        refine (zq_aload_n dX12_stepForm_99 rfl).mpr ?_
        refine (zq_aload_n dX12_stepForm_100 rfl).mpr ?_
        obtain ⟨g26, h⟩ := h
        refine (zq_getI2 (f := 776) (v := (mI m24 776 a0)) dX12_stepForm_101 fl_12_82 (by decide) rfl rfl (by first | rfl | simp only [zm_Is, zm_Rs, zm_As, zm_Os, zm_In0, zm_Rn0])).mpr ⟨g26, ?_⟩
        refine (zq_ldc dX12_stepForm_104 ck_12_91).mpr ?_
        refine zq_virtualI (n := 2) dX12_stepForm_106 mr_12_78 zn_170 rfl rfl rfl (zrcv_R zo_170 (by decide) g26) (Nat.le_of_ble_eq_true rfl) ?_
        refine h.mono (fun r m27 h => ?_)
        obtain ⟨v28, rfl, h⟩ := h
        refine ⟨_, rfl, ?_⟩
        obtain ⟨g31, h⟩ := h
        refine zq_virtualI (n := 1) dX12_stepForm_109 mr_12_95 zn_173 rfl rfl rfl (zrcv_R zo_173 (by decide) g31) (Nat.le_of_ble_eq_true rfl) ?_
        refine h.mono (fun r m29 h => ?_)
        obtain ⟨v30, rfl, h⟩ := h
        refine ⟨_, rfl, ?_⟩
        refine (zq_if_ne (t := 117) dX12_stepForm_112 rfl).mpr ⟨fun c => ?_, fun c => ?_⟩
        · replace h := h.1 c
          refine (zq_iinc (l := [zR a0, zI (wr (a1 + 1))]) dX12_stepForm_117 rfl rfl).mpr ?_
          refine (zq_goto (t := 149) dX12_stepForm_120 rfl).mpr ?_
          exact h
        · replace h := h.2 c
          refine (zq_iconst (v := 0) dX12_stepForm_115 (by decide)).mpr ?_
          exact (zq_iret dX12_stepForm_116 rfl).mpr ⟨Or.inl rfl, h⟩
theorem bX12_stepForm_149 {a0 : Nat} {a1 : Int} (h : ((0 < a1 → zW xs xl d cX12_stepForm 12 (some .boolean) false [] 2 [zR a0, zI a1] [] m Q) ∧ (¬ (0 < a1) → Q (.inl (some (zI 1))) m))) : zW xs xl d cX12_stepForm 12 (some .boolean) false [] 149 [zR a0, zI a1] [] m Q := by
  refine (zq_iload_n dX12_stepForm_149 rfl).mpr ?_
  refine (zq_if_gt (t := 2) dX12_stepForm_150 rfl).mpr ⟨fun c => ?_, fun c => ?_⟩
  · replace h := h.1 c
    exact h
  · replace h := h.2 c
    refine (zq_iconst (v := 1) dX12_stepForm_153 (by decide)).mpr ?_
    exact (zq_iret dX12_stepForm_154 rfl).mpr ⟨Or.inr rfl, h⟩
theorem bX12_actionForm_0 {a0 : Nat} (h : (mC m a0 = 13) ∧ zC xs xl d 171 [zR a0, zI (mI m 776 a0), zE 1] m (fun r m2 => ∃ v3 : Int, r = .inl (some (zI v3)) ∧ ((v3 ≠ (-1) → (mC m2 a0 = 13) ∧ ((1 < v3 → zW xs xl d cX12_actionForm 12 (some .boolean) false [] 61 [zR a0, zI v3, zU] [] (sI m2 776 a0 (wr ((mI m2 776 a0) + 1))) Q) ∧ (¬ (1 < v3) → zC xs xl d 171 [zR a0, zI (wr ((mI m2 776 a0) + 1)), zE 2] (sI m2 776 a0 (wr ((mI m2 776 a0) + 1))) (fun r m5 => ∃ v6 : Int, r = .inl (some (zI v6)) ∧ ((v6 = (-1) → (mC m5 a0 = 13) ∧ zC xs xl d 173 [zR a0, zI 0] m5 (fun r m7 => ∃ v8 : Int, r = .inl (some (zI v8)) ∧ ((v8 = 0 → Q (.inl (some (zI 0))) m7) ∧ (¬ (v8 = 0) → zW xs xl d cX12_actionForm 12 (some .boolean) false [] 61 [zR a0, zI v3, zU] [] m7 Q)))) ∧ (¬ (v6 = (-1)) → (mC m5 a0 = 13) ∧ zC xs xl d 173 [zR a0, zI 1] m5 (fun r m10 => ∃ v11 : Int, r = .inl (some (zI v11)) ∧ ((v11 = 0 → Q (.inl (some (zI 0))) m10) ∧ (¬ (v11 = 0) → zW xs xl d cX12_actionForm 12 (some .boolean) false [] 61 [zR a0, zI v3, zU] [] m10 Q))))))))) ∧ (¬ (v3 ≠ (-1)) → Q (.inl (some (zI 0))) m2)))) : zC xs xl (d + 1) 176 [zR a0] m Q := by
  refine zk_176 ?_
  refine (zq_aload_n dX12_actionForm_0 rfl).mpr ?_
  refine (zq_aload_n dX12_actionForm_1 rfl).mpr ?_
  obtain ⟨g1, h⟩ := h
  refine (zq_getI2 (f := 776) (v := (mI m 776 a0)) dX12_actionForm_2 fl_12_82 (by decide) rfl rfl (by first | rfl | simp only [zm_Is, zm_Rs, zm_As, zm_Os, zm_In0, zm_Rn0])).mpr ⟨g1, ?_⟩
  refine (zq_gets dX12_actionForm_5 sl_12_104).mpr ?_
  refine zq_virtualI (n := 2) dX12_actionForm_8 mr_12_108 zn_171 rfl rfl rfl (zrcv_R zo_171 (by decide) g1) (Nat.le_of_ble_eq_true rfl) ?_
  refine h.mono (fun r m2 h => ?_)
  obtain ⟨v3, rfl, h⟩ := h
  refine ⟨_, rfl, ?_⟩
  refine (zq_istore_n (l := [zR a0, zI v3, zU]) dX12_actionForm_11 (Nat.le_of_ble_eq_true rfl) rfl).mpr ?_
  refine (zq_iload_n dX12_actionForm_12 rfl).mpr ?_
  refine (zq_iconst (v := (-1)) dX12_actionForm_13 (by decide)).mpr ?_
  refine (zq_icmp_ne (t := 19) dX12_actionForm_14 rfl).mpr ⟨fun c => ?_, fun c => ?_⟩
  · replace h := h.1 c
    refine (zq_aload_n dX12_actionForm_19 rfl).mpr ?_
    refine (zq_dupR dX12_actionForm_20).mpr ?_
    obtain ⟨g4, h⟩ := h
    refine (zq_getI2 (f := 776) (v := (mI m2 776 a0)) dX12_actionForm_21 fl_12_82 (by decide) rfl rfl (by first | rfl | simp only [zm_Is, zm_Rs, zm_As, zm_Os, zm_In0, zm_Rn0])).mpr ⟨g4, ?_⟩
    refine (zq_iconst (v := 1) dX12_actionForm_24 (by decide)).mpr ?_
    refine (zq_iadd dX12_actionForm_25).mpr ?_
    refine (zq_putI (f := 776) dX12_actionForm_26 fl_12_82 (by decide) rfl rfl rfl).mpr ⟨g4, ?_⟩
    refine (zq_iload_n dX12_actionForm_29 rfl).mpr ?_
    refine (zq_iconst (v := 1) dX12_actionForm_30 (by decide)).mpr ?_
    refine (zq_icmp_gt (t := 61) dX12_actionForm_31 rfl).mpr ⟨fun c => ?_, fun c => ?_⟩
    · replace h := h.1 c
      exact h
    · replace h := h.2 c
      refine (zq_aload_n dX12_actionForm_34 rfl).mpr ?_
      refine (zq_aload_n dX12_actionForm_35 rfl).mpr ?_
      refine (zq_aload_n dX12_actionForm_36 rfl).mpr ?_
      refine (zq_getI2 (f := 776) (v := (wr ((mI m2 776 a0) + 1))) dX12_actionForm_37 fl_12_82 (by decide) rfl rfl (by first | rfl | simp only [zm_Is, zm_Rs, zm_As, zm_Os, zm_In0, zm_Rn0])).mpr ⟨g4, ?_⟩
      refine (zq_gets dX12_actionForm_40 sl_12_112).mpr ?_
      refine zq_virtualI (n := 2) dX12_actionForm_43 mr_12_108 zn_171 rfl rfl rfl (zrcv_R zo_171 (by decide) g4) (Nat.le_of_ble_eq_true rfl) ?_
      refine h.mono (fun r m5 h => ?_)
      obtain ⟨v6, rfl, h⟩ := h
      refine ⟨_, rfl, ?_⟩
      refine (zq_iconst (v := (-1)) dX12_actionForm_46 (by decide)).mpr ?_
      refine (zq_icmp_eq (t := 54) dX12_actionForm_47 rfl).mpr ⟨fun c => ?_, fun c => ?_⟩
      · replace h := h.1 c
        refine (zq_iconst (v := 0) dX12_actionForm_54 (by decide)).mpr ?_
        obtain ⟨g9, h⟩ := h
        refine zq_virtualI (n := 1) dX12_actionForm_55 mr_12_95 zn_173 rfl rfl rfl (zrcv_R zo_173 (by decide) g9) (Nat.le_of_ble_eq_true rfl) ?_
        refine h.mono (fun r m7 h => ?_)
        obtain ⟨v8, rfl, h⟩ := h
        refine ⟨_, rfl, ?_⟩
        refine (zq_if_eq (t := 93) dX12_actionForm_58 rfl).mpr ⟨fun c => ?_, fun c => ?_⟩
        · replace h := h.1 c
          refine (zq_iconst (v := 0) dX12_actionForm_93 (by decide)).mpr ?_
          exact (zq_iret dX12_actionForm_94 rfl).mpr ⟨Or.inl rfl, h⟩
        · replace h := h.2 c
          exact h
      · replace h := h.2 c
        refine (zq_iconst (v := 1) dX12_actionForm_50 (by decide)).mpr ?_
        refine (zq_goto (t := 55) dX12_actionForm_51 rfl).mpr ?_
        obtain ⟨g12, h⟩ := h
        refine zq_virtualI (n := 1) dX12_actionForm_55 mr_12_95 zn_173 rfl rfl rfl (zrcv_R zo_173 (by decide) g12) (Nat.le_of_ble_eq_true rfl) ?_
        refine h.mono (fun r m10 h => ?_)
        obtain ⟨v11, rfl, h⟩ := h
        refine ⟨_, rfl, ?_⟩
        refine (zq_if_eq (t := 93) dX12_actionForm_58 rfl).mpr ⟨fun c => ?_, fun c => ?_⟩
        · replace h := h.1 c
          refine (zq_iconst (v := 0) dX12_actionForm_93 (by decide)).mpr ?_
          exact (zq_iret dX12_actionForm_94 rfl).mpr ⟨Or.inl rfl, h⟩
        · replace h := h.2 c
          exact h
  · replace h := h.2 c
    refine (zq_iconst (v := 0) dX12_actionForm_17 (by decide)).mpr ?_
    exact (zq_iret dX12_actionForm_18 rfl).mpr ⟨Or.inl rfl, h⟩
theorem bX12_actionForm_61 {a0 : Nat} {a1 : Int} {a2 : zV} (h : ((a1 ≠ 2 → zW xs xl d cX12_actionForm 12 (some .boolean) false [] 97 [zR a0, zI a1, zI 0] [] m Q) ∧ (¬ (a1 ≠ 2) → (mC m a0 = 13) ∧ zC xs xl d 171 [zR a0, zI (mI m 776 a0), zE 3] m (fun r m2 => ∃ v3 : Int, r = .inl (some (zI v3)) ∧ ((v3 = (-1) → (mC m2 a0 = 13) ∧ zC xs xl d 173 [zR a0, zI 0] m2 (fun r m4 => ∃ v5 : Int, r = .inl (some (zI v5)) ∧ ((v5 ≠ 0 → zW xs xl d cX12_actionForm 12 (some .boolean) false [] 97 [zR a0, zI a1, zI 0] [] m4 Q) ∧ (¬ (v5 ≠ 0) → Q (.inl (some (zI 0))) m4)))) ∧ (¬ (v3 = (-1)) → (mC m2 a0 = 13) ∧ zC xs xl d 173 [zR a0, zI 1] m2 (fun r m7 => ∃ v8 : Int, r = .inl (some (zI v8)) ∧ ((v8 ≠ 0 → zW xs xl d cX12_actionForm 12 (some .boolean) false [] 97 [zR a0, zI a1, zI 0] [] m7 Q) ∧ (¬ (v8 ≠ 0) → Q (.inl (some (zI 0))) m7))))))))) : zW xs xl d cX12_actionForm 12 (some .boolean) false [] 61 [zR a0, zI a1, a2] [] m Q := by
  refine (zq_iload_n dX12_actionForm_61 rfl).mpr ?_
  refine (zq_iconst (v := 2) dX12_actionForm_62 (by decide)).mpr ?_
  refine (zq_icmp_ne (t := 95) dX12_actionForm_63 rfl).mpr ⟨fun c => ?_, fun c => ?_⟩
  · replace h := h.1 c
    refine (zq_iconst (v := 0) dX12_actionForm_95 (by decide)).mpr ?_
    refine (zq_istore_n (l := [zR a0, zI a1, zI 0]) dX12_actionForm_96 (Nat.le_of_ble_eq_true rfl) rfl).mpr ?_
    exact h
  · replace h := h.2 c
    refine (zq_aload_n dX12_actionForm_66 rfl).mpr ?_
    refine (zq_aload_n dX12_actionForm_67 rfl).mpr ?_
    refine (zq_aload_n dX12_actionForm_68 rfl).mpr ?_
    obtain ⟨g1, h⟩ := h
    refine (zq_getI2 (f := 776) (v := (mI m 776 a0)) dX12_actionForm_69 fl_12_82 (by decide) rfl rfl (by first | rfl | simp only [zm_Is, zm_Rs, zm_As, zm_Os, zm_In0, zm_Rn0])).mpr ⟨g1, ?_⟩
    refine (zq_gets dX12_actionForm_72 sl_12_115).mpr ?_
    refine zq_virtualI (n := 2) dX12_actionForm_75 mr_12_108 zn_171 rfl rfl rfl (zrcv_R zo_171 (by decide) g1) (Nat.le_of_ble_eq_true rfl) ?_
    refine h.mono (fun r m2 h => ?_)
    obtain ⟨v3, rfl, h⟩ := h
    refine ⟨_, rfl, ?_⟩
    refine (zq_iconst (v := (-1)) dX12_actionForm_78 (by decide)).mpr ?_
    refine (zq_icmp_eq (t := 86) dX12_actionForm_79 rfl).mpr ⟨fun c => ?_, fun c => ?_⟩
    · replace h := h.1 c
      refine (zq_iconst (v := 0) dX12_actionForm_86 (by decide)).mpr ?_
      obtain ⟨g6, h⟩ := h
      refine zq_virtualI (n := 1) dX12_actionForm_87 mr_12_95 zn_173 rfl rfl rfl (zrcv_R zo_173 (by decide) g6) (Nat.le_of_ble_eq_true rfl) ?_
      refine h.mono (fun r m4 h => ?_)
      obtain ⟨v5, rfl, h⟩ := h
      refine ⟨_, rfl, ?_⟩
      refine (zq_if_ne (t := 95) dX12_actionForm_90 rfl).mpr ⟨fun c => ?_, fun c => ?_⟩
      · replace h := h.1 c
        refine (zq_iconst (v := 0) dX12_actionForm_95 (by decide)).mpr ?_
        refine (zq_istore_n (l := [zR a0, zI a1, zI 0]) dX12_actionForm_96 (Nat.le_of_ble_eq_true rfl) rfl).mpr ?_
        exact h
      · replace h := h.2 c
        refine (zq_iconst (v := 0) dX12_actionForm_93 (by decide)).mpr ?_
        exact (zq_iret dX12_actionForm_94 rfl).mpr ⟨Or.inl rfl, h⟩
    · replace h := h.2 c
      refine (zq_iconst (v := 1) dX12_actionForm_82 (by decide)).mpr ?_
      refine (zq_goto (t := 87) dX12_actionForm_83 rfl).mpr ?_
      obtain ⟨g9, h⟩ := h
      refine zq_virtualI (n := 1) dX12_actionForm_87 mr_12_95 zn_173 rfl rfl rfl (zrcv_R zo_173 (by decide) g9) (Nat.le_of_ble_eq_true rfl) ?_
      refine h.mono (fun r m7 h => ?_)
      obtain ⟨v8, rfl, h⟩ := h
      refine ⟨_, rfl, ?_⟩
      refine (zq_if_ne (t := 95) dX12_actionForm_90 rfl).mpr ⟨fun c => ?_, fun c => ?_⟩
      · replace h := h.1 c
        refine (zq_iconst (v := 0) dX12_actionForm_95 (by decide)).mpr ?_
        refine (zq_istore_n (l := [zR a0, zI a1, zI 0]) dX12_actionForm_96 (Nat.le_of_ble_eq_true rfl) rfl).mpr ?_
        exact h
      · replace h := h.2 c
        refine (zq_iconst (v := 0) dX12_actionForm_93 (by decide)).mpr ?_
        exact (zq_iret dX12_actionForm_94 rfl).mpr ⟨Or.inl rfl, h⟩
theorem bX12_actionForm_97 {a0 : Nat} {a1 : Int} {a2 : Int} (h : (zXk 5 = 1 ∧ 0 ≤ a1 ∧ a1 < zXN xl 5) ∧ (((zXI xs 5 (a1).toNat) ≤ a2 → Q (.inl (some (zI 1))) m) ∧ (¬ ((zXI xs 5 (a1).toNat) ≤ a2) → (mC m a0 = 13) ∧ (mC m (mR m 773 a0) = 20) ∧ (0 ≤ (mI m 776 a0) ∧ (mI m 776 a0) < mN m (mR m 773 a0)) ∧ (((mA m (mR m 773 a0) (Int.toNat (mI m 776 a0))) ≠ 2 → zC xs xl d 173 [zR a0, zI 0] m (fun r m5 => ∃ v6 : Int, r = .inl (some (zI v6)) ∧ ((v6 ≠ 0 → zW xs xl d cX12_actionForm 12 (some .boolean) false [] 97 [zR a0, zI a1, zI (wr (a2 + 1))] [] m5 Q) ∧ (¬ (v6 ≠ 0) → Q (.inl (some (zI 0))) m5)))) ∧ (¬ ((mA m (mR m 773 a0) (Int.toNat (mI m 776 a0))) ≠ 2) → zC xs xl d 173 [zR a0, zI 1] m (fun r m7 => ∃ v8 : Int, r = .inl (some (zI v8)) ∧ ((v8 ≠ 0 → zW xs xl d cX12_actionForm 12 (some .boolean) false [] 97 [zR a0, zI a1, zI (wr (a2 + 1))] [] m7 Q) ∧ (¬ (v8 ≠ 0) → Q (.inl (some (zI 0))) m7)))))))) : zW xs xl d cX12_actionForm 12 (some .boolean) false [] 97 [zR a0, zI a1, zI a2] [] m Q := by
  refine (zq_iload_n dX12_actionForm_97 rfl).mpr ?_
  refine (zq_gets dX12_actionForm_98 sl_12_118).mpr ?_
  refine (zq_iload_n dX12_actionForm_101 rfl).mpr ?_
  obtain ⟨g1, h⟩ := h
  refine (zq_ialdE dX12_actionForm_102).mpr ⟨g1, ?_⟩
  refine (zq_icmp_ge (t := 139) dX12_actionForm_103 rfl).mpr ⟨fun c => ?_, fun c => ?_⟩
  · replace h := h.1 c
    refine (zq_iconst (v := 1) dX12_actionForm_139 (by decide)).mpr ?_
    exact (zq_iret dX12_actionForm_140 rfl).mpr ⟨Or.inr rfl, h⟩
  · replace h := h.2 c
    refine (zq_aload_n dX12_actionForm_106 rfl).mpr ?_
    refine (zq_aload_n dX12_actionForm_107 rfl).mpr ?_
    obtain ⟨g2, h⟩ := h
    refine (zq_getR2 (f := 773) (v := (mR m 773 a0)) dX12_actionForm_108 fl_12_17 (by decide) rfl rfl (by first | rfl | simp only [zm_Is, zm_Rs, zm_As, zm_Os, zm_In0, zm_Rn0])).mpr ⟨g2, ?_⟩
    refine (zq_aload_n dX12_actionForm_111 rfl).mpr ?_
    refine (zq_getI2 (f := 776) (v := (mI m 776 a0)) dX12_actionForm_112 fl_12_82 (by decide) rfl rfl (by first | rfl | simp only [zm_Is, zm_Rs, zm_As, zm_Os, zm_In0, zm_Rn0])).mpr ⟨g2, ?_⟩
    obtain ⟨g3, h⟩ := h
    obtain ⟨g4, h⟩ := h
    refine (zq_iald2 (v := (mA m (mR m 773 a0) (Int.toNat (mI m 776 a0)))) dX12_actionForm_115 (by first | rfl | simp only [zm_Is, zm_Rs, zm_As, zm_Os, zm_In0, zm_Rn0])).mpr ⟨⟨g3, g4⟩, ?_⟩
    refine (zq_iconst (v := 2) dX12_actionForm_116 (by decide)).mpr ?_
    refine (zq_icmp_ne (t := 124) dX12_actionForm_117 rfl).mpr ⟨fun c => ?_, fun c => ?_⟩
    · replace h := h.1 c
      refine (zq_iconst (v := 0) dX12_actionForm_124 (by decide)).mpr ?_
      refine zq_virtualI (n := 1) dX12_actionForm_125 mr_12_95 zn_173 rfl rfl rfl (zrcv_R zo_173 (by decide) g2) (Nat.le_of_ble_eq_true rfl) ?_
      refine h.mono (fun r m5 h => ?_)
      obtain ⟨v6, rfl, h⟩ := h
      refine ⟨_, rfl, ?_⟩
      refine (zq_if_ne (t := 133) dX12_actionForm_128 rfl).mpr ⟨fun c => ?_, fun c => ?_⟩
      · replace h := h.1 c
        refine (zq_iinc (l := [zR a0, zI a1, zI (wr (a2 + 1))]) dX12_actionForm_133 rfl rfl).mpr ?_
        refine (zq_goto (t := 97) dX12_actionForm_136 rfl).mpr ?_
        exact h
      · replace h := h.2 c
        refine (zq_iconst (v := 0) dX12_actionForm_131 (by decide)).mpr ?_
        exact (zq_iret dX12_actionForm_132 rfl).mpr ⟨Or.inl rfl, h⟩
    · replace h := h.2 c
      refine (zq_iconst (v := 1) dX12_actionForm_120 (by decide)).mpr ?_
      refine (zq_goto (t := 125) dX12_actionForm_121 rfl).mpr ?_
      refine zq_virtualI (n := 1) dX12_actionForm_125 mr_12_95 zn_173 rfl rfl rfl (zrcv_R zo_173 (by decide) g2) (Nat.le_of_ble_eq_true rfl) ?_
      refine h.mono (fun r m7 h => ?_)
      obtain ⟨v8, rfl, h⟩ := h
      refine ⟨_, rfl, ?_⟩
      refine (zq_if_ne (t := 133) dX12_actionForm_128 rfl).mpr ⟨fun c => ?_, fun c => ?_⟩
      · replace h := h.1 c
        refine (zq_iinc (l := [zR a0, zI a1, zI (wr (a2 + 1))]) dX12_actionForm_133 rfl rfl).mpr ?_
        refine (zq_goto (t := 97) dX12_actionForm_136 rfl).mpr ?_
        exact h
      · replace h := h.2 c
        refine (zq_iconst (v := 0) dX12_actionForm_131 (by decide)).mpr ?_
        exact (zq_iret dX12_actionForm_132 rfl).mpr ⟨Or.inl rfl, h⟩
theorem bX12_wrong_0 {a0 : Nat} {a1 : Int} {a2 : Int} (h : (mC m a0 = 13) ∧ (mC m (mR m 774 a0) = 20) ∧ (0 ≤ a2 ∧ a2 < mN m (mR m 774 a0)) ∧ Q (.inl (some (zI 0))) (sI (sI m 772 a0 a1) 771 a0 (mA m (mR m 774 a0) (Int.toNat a2)))) : zC xs xl (d + 1) 177 [zR a0, zI a1, zI a2] m Q := by
  refine zk_177 ?_
  refine (zq_aload_n dX12_wrong_0 rfl).mpr ?_
  refine (zq_iload_n dX12_wrong_1 rfl).mpr ?_
  obtain ⟨g1, h⟩ := h
  refine (zq_putI (f := 772) dX12_wrong_2 fl_12_121 (by decide) rfl rfl rfl).mpr ⟨g1, ?_⟩
  refine (zq_aload_n dX12_wrong_5 rfl).mpr ?_
  refine (zq_aload_n dX12_wrong_6 rfl).mpr ?_
  refine (zq_getR2 (f := 774) (v := (mR m 774 a0)) dX12_wrong_7 fl_12_20 (by decide) rfl rfl (by first | rfl | simp only [zm_Is, zm_Rs, zm_As, zm_Os, zm_In0, zm_Rn0])).mpr ⟨g1, ?_⟩
  refine (zq_iload_n dX12_wrong_10 rfl).mpr ?_
  obtain ⟨g2, h⟩ := h
  obtain ⟨g3, h⟩ := h
  refine (zq_iald2 (v := (mA m (mR m 774 a0) (Int.toNat a2))) dX12_wrong_11 (by first | rfl | simp only [zm_Is, zm_Rs, zm_As, zm_Os, zm_In0, zm_Rn0])).mpr ⟨⟨g2, g3⟩, ?_⟩
  refine (zq_putI (f := 771) dX12_wrong_12 fl_12_13 (by decide) rfl rfl rfl).mpr ⟨g1, ?_⟩
  refine (zq_iconst (v := 0) dX12_wrong_15 (by decide)).mpr ?_
  exact (zq_iret dX12_wrong_16 rfl).mpr ⟨Or.inl rfl, h⟩
theorem bX12_go_0 {a0 : Nat} {a1 : Int} {a2 : Int} (h : (mC m a0 = 13) ∧ zW xs xl d cX12_go 12 (some .boolean) false [] 5 [zR a0, zI a1, zI a2] [] (sI m 776 a0 a1) Q) : zC xs xl (d + 1) 178 [zR a0, zI a1, zI a2] m Q := by
  refine zk_178 ?_
  refine (zq_aload_n dX12_go_0 rfl).mpr ?_
  refine (zq_iload_n dX12_go_1 rfl).mpr ?_
  obtain ⟨g1, h⟩ := h
  refine (zq_putI (f := 776) dX12_go_2 fl_12_82 (by decide) rfl rfl rfl).mpr ⟨g1, ?_⟩
  exact h
theorem bX12_go_5 {a0 : Nat} {a1 : Int} {a2 : Int} (h : (mC m a0 = 13) ∧ (mC m (mR m 773 a0) = 20) ∧ (0 ≤ (mI m 776 a0) ∧ (mI m 776 a0) < mN m (mR m 773 a0)) ∧ (((mA m (mR m 773 a0) (Int.toNat (mI m 776 a0))) = 0 → Q (.inl (some (zI 1))) m) ∧ (¬ ((mA m (mR m 773 a0) (Int.toNat (mI m 776 a0))) = 0) → zC xs xl d 170 [zR a0, zI (mI m 776 a0), zE 29] m (fun r m4 => ∃ v5 : Int, r = .inl (some (zI v5)) ∧ ((v5 ≠ 0 → Q (.inl (some (zI 1))) m4) ∧ (¬ (v5 ≠ 0) → (mC m4 a0 = 13) ∧ zC xs xl d 170 [zR a0, zI (mI m4 776 a0), zE 31] m4 (fun r m7 => ∃ v8 : Int, r = .inl (some (zI v8)) ∧ ((v8 = 0 → (mC m7 a0 = 13) ∧ zC xs xl d 181 [zR a0] m7 (fun r m9 => ∃ v10 : Int, r = .inl (some (zI v10)) ∧ ((v10 ≠ 0 → zW xs xl d cX12_go 12 (some .boolean) false [] 5 [zR a0, zI a1, zI a2] [] m9 Q) ∧ (¬ (v10 ≠ 0) → Q (.inl (some (zI 0))) m9)))) ∧ (¬ (v8 = 0) → (mC m7 a0 = 13) ∧ zC xs xl d 179 [zR a0, zI a2] m7 (fun r m12 => ∃ v13 : Int, r = .inl (some (zI v13)) ∧ ((v13 = 0 → Q (.inl (some (zI 0))) m12) ∧ (¬ (v13 = 0) → zW xs xl d cX12_go 12 (some .boolean) false [] 5 [zR a0, zI a1, zI a2] [] m12 Q)))))))))))) : zW xs xl d cX12_go 12 (some .boolean) false [] 5 [zR a0, zI a1, zI a2] [] m Q := by
  refine (zq_aload_n dX12_go_5 rfl).mpr ?_
  obtain ⟨g1, h⟩ := h
  refine (zq_getR2 (f := 773) (v := (mR m 773 a0)) dX12_go_6 fl_12_17 (by decide) rfl rfl (by first | rfl | simp only [zm_Is, zm_Rs, zm_As, zm_Os, zm_In0, zm_Rn0])).mpr ⟨g1, ?_⟩
  refine (zq_aload_n dX12_go_9 rfl).mpr ?_
  refine (zq_getI2 (f := 776) (v := (mI m 776 a0)) dX12_go_10 fl_12_82 (by decide) rfl rfl (by first | rfl | simp only [zm_Is, zm_Rs, zm_As, zm_Os, zm_In0, zm_Rn0])).mpr ⟨g1, ?_⟩
  obtain ⟨g2, h⟩ := h
  obtain ⟨g3, h⟩ := h
  refine (zq_iald2 (v := (mA m (mR m 773 a0) (Int.toNat (mI m 776 a0)))) dX12_go_13 (by first | rfl | simp only [zm_Is, zm_Rs, zm_As, zm_Os, zm_In0, zm_Rn0])).mpr ⟨⟨g2, g3⟩, ?_⟩
  refine (zq_if_eq (t := 63) dX12_go_14 rfl).mpr ⟨fun c => ?_, fun c => ?_⟩
  · replace h := h.1 c
    refine (zq_iconst (v := 1) dX12_go_63 (by decide)).mpr ?_
    exact (zq_iret dX12_go_64 rfl).mpr ⟨Or.inr rfl, h⟩
  · replace h := h.2 c
    refine (zq_aload_n dX12_go_17 rfl).mpr ?_
    refine (zq_aload_n dX12_go_18 rfl).mpr ?_
    refine (zq_getI2 (f := 776) (v := (mI m 776 a0)) dX12_go_19 fl_12_82 (by decide) rfl rfl (by first | rfl | simp only [zm_Is, zm_Rs, zm_As, zm_Os, zm_In0, zm_Rn0])).mpr ⟨g1, ?_⟩
    refine (zq_ldc dX12_go_22 ck_12_89).mpr ?_
    refine zq_virtualI (n := 2) dX12_go_24 mr_12_78 zn_170 rfl rfl rfl (zrcv_R zo_170 (by decide) g1) (Nat.le_of_ble_eq_true rfl) ?_
    refine h.mono (fun r m4 h => ?_)
    obtain ⟨v5, rfl, h⟩ := h
    refine ⟨_, rfl, ?_⟩
    refine (zq_if_ne (t := 63) dX12_go_27 rfl).mpr ⟨fun c => ?_, fun c => ?_⟩
    · replace h := h.1 c
      refine (zq_iconst (v := 1) dX12_go_63 (by decide)).mpr ?_
      exact (zq_iret dX12_go_64 rfl).mpr ⟨Or.inr rfl, h⟩
    · replace h := h.2 c
      refine (zq_aload_n dX12_go_30 rfl).mpr ?_
      refine (zq_aload_n dX12_go_31 rfl).mpr ?_
      obtain ⟨g6, h⟩ := h
      refine (zq_getI2 (f := 776) (v := (mI m4 776 a0)) dX12_go_32 fl_12_82 (by decide) rfl rfl (by first | rfl | simp only [zm_Is, zm_Rs, zm_As, zm_Os, zm_In0, zm_Rn0])).mpr ⟨g6, ?_⟩
      refine (zq_ldc dX12_go_35 ck_12_93).mpr ?_
      refine zq_virtualI (n := 2) dX12_go_37 mr_12_78 zn_170 rfl rfl rfl (zrcv_R zo_170 (by decide) g6) (Nat.le_of_ble_eq_true rfl) ?_
      refine h.mono (fun r m7 h => ?_)
      obtain ⟨v8, rfl, h⟩ := h
      refine ⟨_, rfl, ?_⟩
      refine (zq_if_eq (t := 54) dX12_go_40 rfl).mpr ⟨fun c => ?_, fun c => ?_⟩
      · replace h := h.1 c
        refine (zq_aload_n dX12_go_54 rfl).mpr ?_
        obtain ⟨g11, h⟩ := h
        refine zq_virtualI (n := 0) dX12_go_55 mr_12_127 zn_181 rfl rfl rfl (zrcv_R zo_181 (by decide) g11) (Nat.le_of_ble_eq_true rfl) ?_
        refine h.mono (fun r m9 h => ?_)
        obtain ⟨v10, rfl, h⟩ := h
        refine ⟨_, rfl, ?_⟩
        refine (zq_if_ne (t := 5) dX12_go_58 rfl).mpr ⟨fun c => ?_, fun c => ?_⟩
        · replace h := h.1 c
          exact h
        · replace h := h.2 c
          refine (zq_iconst (v := 0) dX12_go_61 (by decide)).mpr ?_
          exact (zq_iret dX12_go_62 rfl).mpr ⟨Or.inl rfl, h⟩
      · replace h := h.2 c
        refine (zq_aload_n dX12_go_43 rfl).mpr ?_
        refine (zq_iload_n dX12_go_44 rfl).mpr ?_
        obtain ⟨g14, h⟩ := h
        refine zq_virtualI (n := 1) dX12_go_45 mr_12_124 zn_179 rfl rfl rfl (zrcv_R zo_179 (by decide) g14) (Nat.le_of_ble_eq_true rfl) ?_
        refine h.mono (fun r m12 h => ?_)
        obtain ⟨v13, rfl, h⟩ := h
        refine ⟨_, rfl, ?_⟩
        refine (zq_if_eq (t := 61) dX12_go_48 rfl).mpr ⟨fun c => ?_, fun c => ?_⟩
        · replace h := h.1 c
          refine (zq_iconst (v := 0) dX12_go_61 (by decide)).mpr ?_
          exact (zq_iret dX12_go_62 rfl).mpr ⟨Or.inl rfl, h⟩
        · replace h := h.2 c
          refine (zq_goto (t := 5) dX12_go_51 rfl).mpr ?_
          exact h
theorem bX12_goTimes_0 {a0 : Nat} {a1 : Int} (h : ((a1 ≠ 3 → (mC m a0 = 13) ∧ zC xs xl d 172 [zR a0, zI (wr ((mI m 776 a0) + 1))] m (fun r m2 => ∃ v3 : Int, r = .inl (some (zI v3)) ∧ zC xs xl d 163 [zI v3, zI 1, zI 9] m2 (fun r m4 => ∃ v5 : Int, r = .inl (some (zI v5)) ∧ ((v5 ≠ 0 → (mC m4 a0 = 13) ∧ zC xs xl d 172 [zR a0, zI (wr ((mI m 776 a0) + 1))] m4 (fun r m6 => ∃ v7 : Int, r = .inl (some (zI v7)) ∧ zW xs xl d cX12_goTimes 12 (some .boolean) false [] 52 [zR a0, zI a1, zI (wr ((mI m 776 a0) + 1)), zI v7, zI 0] [] m6 Q)) ∧ (¬ (v5 ≠ 0) → (mC m4 a0 = 13) ∧ zC xs xl d 177 [zR a0, zI 2, zI (wr ((mI m 776 a0) + 1))] m4 (fun r m9 => ∃ v10 : Int, r = .inl (some (zI v10)) ∧ (v10 = 0 ∨ v10 = 1) ∧ Q (.inl (some (zI v10))) m9)))))) ∧ (¬ (a1 ≠ 3) → (mC m a0 = 13) ∧ zC xs xl d 177 [zR a0, zI 4, zI (mI m 776 a0)] m (fun r m14 => ∃ v15 : Int, r = .inl (some (zI v15)) ∧ (v15 = 0 ∨ v15 = 1) ∧ Q (.inl (some (zI v15))) m14)))) : zC xs xl (d + 1) 179 [zR a0, zI a1] m Q := by
  refine zk_179 ?_
  refine (zq_iload_n dX12_goTimes_0 rfl).mpr ?_
  refine (zq_iconst (v := 3) dX12_goTimes_1 (by decide)).mpr ?_
  refine (zq_icmp_ne (t := 15) dX12_goTimes_2 rfl).mpr ⟨fun c => ?_, fun c => ?_⟩
  · replace h := h.1 c
    refine (zq_aload_n dX12_goTimes_15 rfl).mpr ?_
    obtain ⟨g1, h⟩ := h
    refine (zq_getI2 (f := 776) (v := (mI m 776 a0)) dX12_goTimes_16 fl_12_82 (by decide) rfl rfl (by first | rfl | simp only [zm_Is, zm_Rs, zm_As, zm_Os, zm_In0, zm_Rn0])).mpr ⟨g1, ?_⟩
    refine (zq_iconst (v := 1) dX12_goTimes_19 (by decide)).mpr ?_
    refine (zq_iadd dX12_goTimes_20).mpr ?_
    refine (zq_istore_n (l := [zR a0, zI a1, zI (wr ((mI m 776 a0) + 1)), zU, zU]) dX12_goTimes_21 (Nat.le_of_ble_eq_true rfl) rfl).mpr ?_
    refine (zq_aload_n dX12_goTimes_22 rfl).mpr ?_
    refine (zq_iload_n dX12_goTimes_23 rfl).mpr ?_
    refine zq_virtualI (n := 1) dX12_goTimes_24 mr_12_134 zn_172 rfl rfl rfl (zrcv_R zo_172 (by decide) g1) (Nat.le_of_ble_eq_true rfl) ?_
    refine h.mono (fun r m2 h => ?_)
    obtain ⟨v3, rfl, h⟩ := h
    refine ⟨_, rfl, ?_⟩
    refine (zq_iconst (v := 1) dX12_goTimes_27 (by decide)).mpr ?_
    refine (zq_bipush (v := 9) dX12_goTimes_28 (by decide)).mpr ?_
    refine zq_staticI (n := 3) dX12_goTimes_30 mr_12_55 zn_163 rfl rfl (Nat.le_of_ble_eq_true rfl) (Nat.le_of_ble_eq_true rfl) ?_
    refine h.mono (fun r m4 h => ?_)
    obtain ⟨v5, rfl, h⟩ := h
    refine ⟨_, rfl, ?_⟩
    refine (zq_if_ne (t := 43) dX12_goTimes_33 rfl).mpr ⟨fun c => ?_, fun c => ?_⟩
    · replace h := h.1 c
      refine (zq_aload_n dX12_goTimes_43 rfl).mpr ?_
      refine (zq_iload_n dX12_goTimes_44 rfl).mpr ?_
      obtain ⟨g8, h⟩ := h
      refine zq_virtualI (n := 1) dX12_goTimes_45 mr_12_134 zn_172 rfl rfl rfl (zrcv_R zo_172 (by decide) g8) (Nat.le_of_ble_eq_true rfl) ?_
      refine h.mono (fun r m6 h => ?_)
      obtain ⟨v7, rfl, h⟩ := h
      refine ⟨_, rfl, ?_⟩
      refine (zq_istore_n (l := [zR a0, zI a1, zI (wr ((mI m 776 a0) + 1)), zI v7, zU]) dX12_goTimes_48 (Nat.le_of_ble_eq_true rfl) rfl).mpr ?_
      refine (zq_iconst (v := 0) dX12_goTimes_49 (by decide)).mpr ?_
      refine (zq_istore (l := [zR a0, zI a1, zI (wr ((mI m 776 a0) + 1)), zI v7, zI 0]) dX12_goTimes_50 (Nat.le_of_ble_eq_true rfl) rfl).mpr ?_
      exact h
    · replace h := h.2 c
      refine (zq_aload_n dX12_goTimes_36 rfl).mpr ?_
      refine (zq_iconst (v := 2) dX12_goTimes_37 (by decide)).mpr ?_
      refine (zq_iload_n dX12_goTimes_38 rfl).mpr ?_
      obtain ⟨g11, h⟩ := h
      refine zq_virtualI (n := 2) dX12_goTimes_39 mr_12_130 zn_177 rfl rfl rfl (zrcv_R zo_177 (by decide) g11) (Nat.le_of_ble_eq_true rfl) ?_
      refine h.mono (fun r m9 h => ?_)
      obtain ⟨v10, rfl, h⟩ := h
      refine ⟨_, rfl, ?_⟩
      obtain ⟨g12, h⟩ := h
      exact (zq_iret dX12_goTimes_42 rfl).mpr ⟨g12, h⟩
  · replace h := h.2 c
    refine (zq_aload_n dX12_goTimes_5 rfl).mpr ?_
    refine (zq_iconst (v := 4) dX12_goTimes_6 (by decide)).mpr ?_
    refine (zq_aload_n dX12_goTimes_7 rfl).mpr ?_
    obtain ⟨g13, h⟩ := h
    refine (zq_getI2 (f := 776) (v := (mI m 776 a0)) dX12_goTimes_8 fl_12_82 (by decide) rfl rfl (by first | rfl | simp only [zm_Is, zm_Rs, zm_As, zm_Os, zm_In0, zm_Rn0])).mpr ⟨g13, ?_⟩
    refine zq_virtualI (n := 2) dX12_goTimes_11 mr_12_130 zn_177 rfl rfl rfl (zrcv_R zo_177 (by decide) g13) (Nat.le_of_ble_eq_true rfl) ?_
    refine h.mono (fun r m14 h => ?_)
    obtain ⟨v15, rfl, h⟩ := h
    refine ⟨_, rfl, ?_⟩
    obtain ⟨g16, h⟩ := h
    exact (zq_iret dX12_goTimes_14 rfl).mpr ⟨g16, h⟩
theorem bX12_goTimes_52 {a0 : Nat} {a1 : Int} {a2 : Int} {a3 : Int} {a4 : Int} (h : ((a3 ≤ a4 → (mC m a0 = 13) ∧ Q (.inl (some (zI 1))) (sI m 776 a0 (wr ((mI m 776 a0) + 1)))) ∧ (¬ (a3 ≤ a4) → (mC m a0 = 13) ∧ zC xs xl d 178 [zR a0, zI (wr (a2 + 2)), zI (wr (a1 + 1))] m (fun r m2 => ∃ v3 : Int, r = .inl (some (zI v3)) ∧ ((v3 ≠ 0 → zW xs xl d cX12_goTimes 12 (some .boolean) false [] 52 [zR a0, zI a1, zI a2, zI a3, zI (wr (a4 + 1))] [] m2 Q) ∧ (¬ (v3 ≠ 0) → Q (.inl (some (zI 0))) m2)))))) : zW xs xl d cX12_goTimes 12 (some .boolean) false [] 52 [zR a0, zI a1, zI a2, zI a3, zI a4] [] m Q := by
  refine (zq_iload dX12_goTimes_52 rfl).mpr ?_
  refine (zq_iload_n dX12_goTimes_54 rfl).mpr ?_
  refine (zq_icmp_ge (t := 79) dX12_goTimes_55 rfl).mpr ⟨fun c => ?_, fun c => ?_⟩
  · replace h := h.1 c
    refine (zq_aload_n dX12_goTimes_79 rfl).mpr ?_
    refine (zq_dupR dX12_goTimes_80).mpr ?_
    obtain ⟨g1, h⟩ := h
    refine (zq_getI2 (f := 776) (v := (mI m 776 a0)) dX12_goTimes_81 fl_12_82 (by decide) rfl rfl (by first | rfl | simp only [zm_Is, zm_Rs, zm_As, zm_Os, zm_In0, zm_Rn0])).mpr ⟨g1, ?_⟩
    refine (zq_iconst (v := 1) dX12_goTimes_84 (by decide)).mpr ?_
    refine (zq_iadd dX12_goTimes_85).mpr ?_
    refine (zq_putI (f := 776) dX12_goTimes_86 fl_12_82 (by decide) rfl rfl rfl).mpr ⟨g1, ?_⟩
    refine (zq_iconst (v := 1) dX12_goTimes_89 (by decide)).mpr ?_
    exact (zq_iret dX12_goTimes_90 rfl).mpr ⟨Or.inr rfl, h⟩
  · replace h := h.2 c
    refine (zq_aload_n dX12_goTimes_58 rfl).mpr ?_
    refine (zq_iload_n dX12_goTimes_59 rfl).mpr ?_
    refine (zq_iconst (v := 2) dX12_goTimes_60 (by decide)).mpr ?_
    refine (zq_iadd dX12_goTimes_61).mpr ?_
    refine (zq_iload_n dX12_goTimes_62 rfl).mpr ?_
    refine (zq_iconst (v := 1) dX12_goTimes_63 (by decide)).mpr ?_
    refine (zq_iadd dX12_goTimes_64).mpr ?_
    obtain ⟨g4, h⟩ := h
    refine zq_virtualI (n := 2) dX12_goTimes_65 mr_12_137 zn_178 rfl rfl rfl (zrcv_R zo_178 (by decide) g4) (Nat.le_of_ble_eq_true rfl) ?_
    refine h.mono (fun r m2 h => ?_)
    obtain ⟨v3, rfl, h⟩ := h
    refine ⟨_, rfl, ?_⟩
    refine (zq_if_ne (t := 73) dX12_goTimes_68 rfl).mpr ⟨fun c => ?_, fun c => ?_⟩
    · replace h := h.1 c
      refine (zq_iinc (l := [zR a0, zI a1, zI a2, zI a3, zI (wr (a4 + 1))]) dX12_goTimes_73 rfl rfl).mpr ?_
      refine (zq_goto (t := 52) dX12_goTimes_76 rfl).mpr ?_
      exact h
    · replace h := h.2 c
      refine (zq_iconst (v := 0) dX12_goTimes_71 (by decide)).mpr ?_
      exact (zq_iret dX12_goTimes_72 rfl).mpr ⟨Or.inl rfl, h⟩
theorem bX12_isMisplaced_0 {a0 : Nat} {a1 : Int} {a2 : Int} (h : ((a1 ≠ 0 → ((a1 ≠ 1 → ((a1 ≠ 2 → (mC m a0 = 13) ∧ (((mI m 781 a0) = 0 → Q (.inl (some (zI 1))) m) ∧ (¬ ((mI m 781 a0) = 0) → ((a1 ≠ 6 → zW xs xl d cX12_isMisplaced 12 (some .boolean) false [] 74 [zR a0, zI a1, zI a2] [] m Q) ∧ (¬ (a1 ≠ 6) → (((mI m 783 a0) = 0 → Q (.inl (some (zI 1))) m) ∧ (¬ ((mI m 783 a0) = 0) → zW xs xl d cX12_isMisplaced 12 (some .boolean) false [] 74 [zR a0, zI a1, zI a2] [] m Q))))))) ∧ (¬ (a1 ≠ 2) → (mC m a0 = 13) ∧ ((mI m 781 a0) = 0 ∨ (mI m 781 a0) = 1) ∧ Q (.inl (some (zI (mI m 781 a0)))) m))) ∧ (¬ (a1 ≠ 1) → (mC m a0 = 13) ∧ (((bAnd (bShr (mI m 783 a0) a2) 1) ≠ 0 → Q (.inl (some (zI 0))) m) ∧ (¬ ((bAnd (bShr (mI m 783 a0) a2) 1) ≠ 0) → Q (.inl (some (zI 1))) m))))) ∧ (¬ (a1 ≠ 0) → (mC m a0 = 13) ∧ (((bAnd (bShr (mI m 783 a0) a2) 1) ≠ 1 → Q (.inl (some (zI 0))) m) ∧ (¬ ((bAnd (bShr (mI m 783 a0) a2) 1) ≠ 1) → Q (.inl (some (zI 1))) m))))) : zC xs xl (d + 1) 180 [zR a0, zI a1, zI a2] m Q := by
  refine zk_180 ?_
  refine (zq_iload_n dX12_isMisplaced_0 rfl).mpr ?_
  refine (zq_if_ne (t := 22) dX12_isMisplaced_1 rfl).mpr ⟨fun c => ?_, fun c => ?_⟩
  · replace h := h.1 c
    refine (zq_iload_n dX12_isMisplaced_22 rfl).mpr ?_
    refine (zq_iconst (v := 1) dX12_isMisplaced_23 (by decide)).mpr ?_
    refine (zq_icmp_ne (t := 44) dX12_isMisplaced_24 rfl).mpr ⟨fun c => ?_, fun c => ?_⟩
    · replace h := h.1 c
      refine (zq_iload_n dX12_isMisplaced_44 rfl).mpr ?_
      refine (zq_iconst (v := 2) dX12_isMisplaced_45 (by decide)).mpr ?_
      refine (zq_icmp_ne (t := 54) dX12_isMisplaced_46 rfl).mpr ⟨fun c => ?_, fun c => ?_⟩
      · replace h := h.1 c
        refine (zq_aload_n dX12_isMisplaced_54 rfl).mpr ?_
        obtain ⟨g1, h⟩ := h
        refine (zq_getI2 (f := 781) (v := (mI m 781 a0)) dX12_isMisplaced_55 fl_12_143 (by decide) rfl rfl (by first | rfl | simp only [zm_Is, zm_Rs, zm_As, zm_Os, zm_In0, zm_Rn0])).mpr ⟨g1, ?_⟩
        refine (zq_if_eq (t := 87) dX12_isMisplaced_58 rfl).mpr ⟨fun c => ?_, fun c => ?_⟩
        · replace h := h.1 c
          refine (zq_iconst (v := 1) dX12_isMisplaced_87 (by decide)).mpr ?_
          refine (zq_goto (t := 92) dX12_isMisplaced_88 rfl).mpr ?_
          exact (zq_iret dX12_isMisplaced_92 rfl).mpr ⟨Or.inr rfl, h⟩
        · replace h := h.2 c
          refine (zq_iload_n dX12_isMisplaced_61 rfl).mpr ?_
          refine (zq_bipush (v := 6) dX12_isMisplaced_62 (by decide)).mpr ?_
          refine (zq_icmp_ne (t := 74) dX12_isMisplaced_64 rfl).mpr ⟨fun c => ?_, fun c => ?_⟩
          · replace h := h.1 c
            exact h
          · replace h := h.2 c
            refine (zq_aload_n dX12_isMisplaced_67 rfl).mpr ?_
            refine (zq_getI2 (f := 783) (v := (mI m 783 a0)) dX12_isMisplaced_68 fl_12_140 (by decide) rfl rfl (by first | rfl | simp only [zm_Is, zm_Rs, zm_As, zm_Os, zm_In0, zm_Rn0])).mpr ⟨g1, ?_⟩
            refine (zq_if_eq (t := 87) dX12_isMisplaced_71 rfl).mpr ⟨fun c => ?_, fun c => ?_⟩
            · replace h := h.1 c
              refine (zq_iconst (v := 1) dX12_isMisplaced_87 (by decide)).mpr ?_
              refine (zq_goto (t := 92) dX12_isMisplaced_88 rfl).mpr ?_
              exact (zq_iret dX12_isMisplaced_92 rfl).mpr ⟨Or.inr rfl, h⟩
            · replace h := h.2 c
              exact h
      · replace h := h.2 c
        refine (zq_aload_n dX12_isMisplaced_49 rfl).mpr ?_
        obtain ⟨g2, h⟩ := h
        refine (zq_getI2 (f := 781) (v := (mI m 781 a0)) dX12_isMisplaced_50 fl_12_143 (by decide) rfl rfl (by first | rfl | simp only [zm_Is, zm_Rs, zm_As, zm_Os, zm_In0, zm_Rn0])).mpr ⟨g2, ?_⟩
        obtain ⟨g3, h⟩ := h
        exact (zq_iret dX12_isMisplaced_53 rfl).mpr ⟨g3, h⟩
    · replace h := h.2 c
      refine (zq_aload_n dX12_isMisplaced_27 rfl).mpr ?_
      obtain ⟨g4, h⟩ := h
      refine (zq_getI2 (f := 783) (v := (mI m 783 a0)) dX12_isMisplaced_28 fl_12_140 (by decide) rfl rfl (by first | rfl | simp only [zm_Is, zm_Rs, zm_As, zm_Os, zm_In0, zm_Rn0])).mpr ⟨g4, ?_⟩
      refine (zq_iload_n dX12_isMisplaced_31 rfl).mpr ?_
      refine (zq_ishr dX12_isMisplaced_32).mpr ?_
      refine (zq_iconst (v := 1) dX12_isMisplaced_33 (by decide)).mpr ?_
      refine (zq_iand dX12_isMisplaced_34).mpr ?_
      refine (zq_if_ne (t := 42) dX12_isMisplaced_35 rfl).mpr ⟨fun c => ?_, fun c => ?_⟩
      · replace h := h.1 c
        refine (zq_iconst (v := 0) dX12_isMisplaced_42 (by decide)).mpr ?_
        exact (zq_iret dX12_isMisplaced_43 rfl).mpr ⟨Or.inl rfl, h⟩
      · replace h := h.2 c
        refine (zq_iconst (v := 1) dX12_isMisplaced_38 (by decide)).mpr ?_
        refine (zq_goto (t := 43) dX12_isMisplaced_39 rfl).mpr ?_
        exact (zq_iret dX12_isMisplaced_43 rfl).mpr ⟨Or.inr rfl, h⟩
  · replace h := h.2 c
    refine (zq_aload_n dX12_isMisplaced_4 rfl).mpr ?_
    obtain ⟨g5, h⟩ := h
    refine (zq_getI2 (f := 783) (v := (mI m 783 a0)) dX12_isMisplaced_5 fl_12_140 (by decide) rfl rfl (by first | rfl | simp only [zm_Is, zm_Rs, zm_As, zm_Os, zm_In0, zm_Rn0])).mpr ⟨g5, ?_⟩
    refine (zq_iload_n dX12_isMisplaced_8 rfl).mpr ?_
    refine (zq_ishr dX12_isMisplaced_9).mpr ?_
    refine (zq_iconst (v := 1) dX12_isMisplaced_10 (by decide)).mpr ?_
    refine (zq_iand dX12_isMisplaced_11).mpr ?_
    refine (zq_iconst (v := 1) dX12_isMisplaced_12 (by decide)).mpr ?_
    refine (zq_icmp_ne (t := 20) dX12_isMisplaced_13 rfl).mpr ⟨fun c => ?_, fun c => ?_⟩
    · replace h := h.1 c
      refine (zq_iconst (v := 0) dX12_isMisplaced_20 (by decide)).mpr ?_
      exact (zq_iret dX12_isMisplaced_21 rfl).mpr ⟨Or.inl rfl, h⟩
    · replace h := h.2 c
      refine (zq_iconst (v := 1) dX12_isMisplaced_16 (by decide)).mpr ?_
      refine (zq_goto (t := 21) dX12_isMisplaced_17 rfl).mpr ?_
      exact (zq_iret dX12_isMisplaced_21 rfl).mpr ⟨Or.inr rfl, h⟩
theorem bX12_isMisplaced_74 {a0 : Nat} {a1 : Int} {a2 : Int} (h : ((a1 ≠ 7 → Q (.inl (some (zI 0))) m) ∧ (¬ (a1 ≠ 7) → (mC m a0 = 13) ∧ (((mI m 782 a0) ≠ 0 → Q (.inl (some (zI 0))) m) ∧ (¬ ((mI m 782 a0) ≠ 0) → Q (.inl (some (zI 1))) m))))) : zW xs xl d cX12_isMisplaced 12 (some .boolean) false [] 74 [zR a0, zI a1, zI a2] [] m Q := by
  refine (zq_iload_n dX12_isMisplaced_74 rfl).mpr ?_
  refine (zq_bipush (v := 7) dX12_isMisplaced_75 (by decide)).mpr ?_
  refine (zq_icmp_ne (t := 91) dX12_isMisplaced_77 rfl).mpr ⟨fun c => ?_, fun c => ?_⟩
  · replace h := h.1 c
    refine (zq_iconst (v := 0) dX12_isMisplaced_91 (by decide)).mpr ?_
    exact (zq_iret dX12_isMisplaced_92 rfl).mpr ⟨Or.inl rfl, h⟩
  · replace h := h.2 c
    refine (zq_aload_n dX12_isMisplaced_80 rfl).mpr ?_
    obtain ⟨g1, h⟩ := h
    refine (zq_getI2 (f := 782) (v := (mI m 782 a0)) dX12_isMisplaced_81 fl_12_147 (by decide) rfl rfl (by first | rfl | simp only [zm_Is, zm_Rs, zm_As, zm_Os, zm_In0, zm_Rn0])).mpr ⟨g1, ?_⟩
    refine (zq_if_ne (t := 91) dX12_isMisplaced_84 rfl).mpr ⟨fun c => ?_, fun c => ?_⟩
    · replace h := h.1 c
      refine (zq_iconst (v := 0) dX12_isMisplaced_91 (by decide)).mpr ?_
      exact (zq_iret dX12_isMisplaced_92 rfl).mpr ⟨Or.inl rfl, h⟩
    · replace h := h.2 c
      refine (zq_iconst (v := 1) dX12_isMisplaced_87 (by decide)).mpr ?_
      refine (zq_goto (t := 92) dX12_isMisplaced_88 rfl).mpr ?_
      exact (zq_iret dX12_isMisplaced_92 rfl).mpr ⟨Or.inr rfl, h⟩
theorem bX12_goAction_0 {a0 : Nat} (h : (mC m a0 = 13) ∧ zC xs xl d 171 [zR a0, zI (mI m 776 a0), zE 1] m (fun r m2 => ∃ v3 : Int, r = .inl (some (zI v3)) ∧ ((1 < v3 → ((v3 ≠ 2 → zW xs xl d cX12_goAction 12 (some .boolean) false [] 55 [zR a0, zI v3, zU, zU, zU, zU] [zI 0] m2 Q) ∧ (¬ (v3 ≠ 2) → (mC m2 a0 = 13) ∧ zC xs xl d 171 [zR a0, zI (wr ((mI m2 776 a0) + 1)), zE 3] m2 (fun r m5 => ∃ v6 : Int, r = .inl (some (zI v6)) ∧ zW xs xl d cX12_goAction 12 (some .boolean) false [] 55 [zR a0, zI v3, zU, zU, zU, zU] [zI v6] m5 Q)))) ∧ (¬ (1 < v3) → (mC m2 a0 = 13) ∧ zC xs xl d 171 [zR a0, zI (wr ((mI m2 776 a0) + 1)), zE 2] m2 (fun r m8 => ∃ v9 : Int, r = .inl (some (zI v9)) ∧ zW xs xl d cX12_goAction 12 (some .boolean) false [] 55 [zR a0, zI v3, zU, zU, zU, zU] [zI v9] m8 Q))))) : zC xs xl (d + 1) 181 [zR a0] m Q := by
  refine zk_181 ?_
  refine (zq_aload_n dX12_goAction_0 rfl).mpr ?_
  refine (zq_aload_n dX12_goAction_1 rfl).mpr ?_
  obtain ⟨g1, h⟩ := h
  refine (zq_getI2 (f := 776) (v := (mI m 776 a0)) dX12_goAction_2 fl_12_82 (by decide) rfl rfl (by first | rfl | simp only [zm_Is, zm_Rs, zm_As, zm_Os, zm_In0, zm_Rn0])).mpr ⟨g1, ?_⟩
  refine (zq_gets dX12_goAction_5 sl_12_104).mpr ?_
  refine zq_virtualI (n := 2) dX12_goAction_8 mr_12_108 zn_171 rfl rfl rfl (zrcv_R zo_171 (by decide) g1) (Nat.le_of_ble_eq_true rfl) ?_
  refine h.mono (fun r m2 h => ?_)
  obtain ⟨v3, rfl, h⟩ := h
  refine ⟨_, rfl, ?_⟩
  refine (zq_istore_n (l := [zR a0, zI v3, zU, zU, zU, zU]) dX12_goAction_11 (Nat.le_of_ble_eq_true rfl) rfl).mpr ?_
  refine (zq_iload_n dX12_goAction_12 rfl).mpr ?_
  refine (zq_iconst (v := 1) dX12_goAction_13 (by decide)).mpr ?_
  refine (zq_icmp_gt (t := 33) dX12_goAction_14 rfl).mpr ⟨fun c => ?_, fun c => ?_⟩
  · replace h := h.1 c
    refine (zq_iload_n dX12_goAction_33 rfl).mpr ?_
    refine (zq_iconst (v := 2) dX12_goAction_34 (by decide)).mpr ?_
    refine (zq_icmp_ne (t := 54) dX12_goAction_35 rfl).mpr ⟨fun c => ?_, fun c => ?_⟩
    · replace h := h.1 c
      refine (zq_iconst (v := 0) dX12_goAction_54 (by decide)).mpr ?_
      exact h
    · replace h := h.2 c
      refine (zq_aload_n dX12_goAction_38 rfl).mpr ?_
      refine (zq_aload_n dX12_goAction_39 rfl).mpr ?_
      obtain ⟨g4, h⟩ := h
      refine (zq_getI2 (f := 776) (v := (mI m2 776 a0)) dX12_goAction_40 fl_12_82 (by decide) rfl rfl (by first | rfl | simp only [zm_Is, zm_Rs, zm_As, zm_Os, zm_In0, zm_Rn0])).mpr ⟨g4, ?_⟩
      refine (zq_iconst (v := 1) dX12_goAction_43 (by decide)).mpr ?_
      refine (zq_iadd dX12_goAction_44).mpr ?_
      refine (zq_gets dX12_goAction_45 sl_12_115).mpr ?_
      refine zq_virtualI (n := 2) dX12_goAction_48 mr_12_108 zn_171 rfl rfl rfl (zrcv_R zo_171 (by decide) g4) (Nat.le_of_ble_eq_true rfl) ?_
      refine h.mono (fun r m5 h => ?_)
      obtain ⟨v6, rfl, h⟩ := h
      refine ⟨_, rfl, ?_⟩
      refine (zq_goto (t := 55) dX12_goAction_51 rfl).mpr ?_
      exact h
  · replace h := h.2 c
    refine (zq_aload_n dX12_goAction_17 rfl).mpr ?_
    refine (zq_aload_n dX12_goAction_18 rfl).mpr ?_
    obtain ⟨g7, h⟩ := h
    refine (zq_getI2 (f := 776) (v := (mI m2 776 a0)) dX12_goAction_19 fl_12_82 (by decide) rfl rfl (by first | rfl | simp only [zm_Is, zm_Rs, zm_As, zm_Os, zm_In0, zm_Rn0])).mpr ⟨g7, ?_⟩
    refine (zq_iconst (v := 1) dX12_goAction_22 (by decide)).mpr ?_
    refine (zq_iadd dX12_goAction_23).mpr ?_
    refine (zq_gets dX12_goAction_24 sl_12_112).mpr ?_
    refine zq_virtualI (n := 2) dX12_goAction_27 mr_12_108 zn_171 rfl rfl rfl (zrcv_R zo_171 (by decide) g7) (Nat.le_of_ble_eq_true rfl) ?_
    refine h.mono (fun r m8 h => ?_)
    obtain ⟨v9, rfl, h⟩ := h
    refine ⟨_, rfl, ?_⟩
    refine (zq_goto (t := 55) dX12_goAction_30 rfl).mpr ?_
    exact h
theorem bX12_goAction_55 {a0 : Nat} {a1 : Int} {a2 : zV} {a3 : zV} {a4 : zV} {a5 : zV} {s0 : Int} (h : (mC m a0 = 13) ∧ zC xs xl d 180 [zR a0, zI a1, zI s0] m (fun r m1 => ∃ v2 : Int, r = .inl (some (zI v2)) ∧ ((v2 = 0 → (mC m1 a0 = 13) ∧ (((mI m1 779 a0) ≠ 60 → (0 ≤ (wr (4 * (mI m1 779 a0))) ∧ (wr (4 * (mI m1 779 a0))) < mN m1 (mR m1 780 a0)) ∧ (mC m1 (mR m1 780 a0) = 20) ∧ (0 ≤ (wr ((wr (4 * (mI m1 779 a0))) + 1)) ∧ (wr ((wr (4 * (mI m1 779 a0))) + 1)) < mN m1 (mR m1 780 a0)) ∧ ((2 < a1 → zW xs xl d cX12_goAction 12 (some .boolean) false [] 139 [zR a0, zI a1, zI s0, zI (wr (4 * (mI m1 779 a0))), zI 0, a5] [] (sI (sA (sA m1 (mR m1 780 a0) (Int.toNat (wr (4 * (mI m1 779 a0)))) a1) (mR m1 780 a0) (Int.toNat (wr ((wr (4 * (mI m1 779 a0))) + 1))) s0) 776 a0 (wr ((mI m1 776 a0) + 1))) Q) ∧ (¬ (2 < a1) → zW xs xl d cX12_goAction 12 (some .boolean) false [] 139 [zR a0, zI a1, zI s0, zI (wr (4 * (mI m1 779 a0))), zI 0, a5] [] (sI (sA (sA m1 (mR m1 780 a0) (Int.toNat (wr (4 * (mI m1 779 a0)))) a1) (mR m1 780 a0) (Int.toNat (wr ((wr (4 * (mI m1 779 a0))) + 1))) s0) 776 a0 (wr ((mI m1 776 a0) + 2))) Q))) ∧ (¬ ((mI m1 779 a0) ≠ 60) → zC xs xl d 177 [zR a0, zI 4, zI (mI m1 776 a0)] m1 (fun r m8 => ∃ v9 : Int, r = .inl (some (zI v9)) ∧ (v9 = 0 ∨ v9 = 1) ∧ Q (.inl (some (zI v9))) m8)))) ∧ (¬ (v2 = 0) → (mC m1 a0 = 13) ∧ zC xs xl d 177 [zR a0, zI 3, zI (mI m1 776 a0)] m1 (fun r m12 => ∃ v13 : Int, r = .inl (some (zI v13)) ∧ (v13 = 0 ∨ v13 = 1) ∧ Q (.inl (some (zI v13))) m12))))) : zW xs xl d cX12_goAction 12 (some .boolean) false [] 55 [zR a0, zI a1, a2, a3, a4, a5] [zI s0] m Q := by
  refine (zq_istore_n (l := [zR a0, zI a1, zI s0, a3, a4, a5]) dX12_goAction_55 (Nat.le_of_ble_eq_true rfl) rfl).mpr ?_
  refine (zq_aload_n dX12_goAction_56 rfl).mpr ?_
  refine (zq_iload_n dX12_goAction_57 rfl).mpr ?_
  refine (zq_iload_n dX12_goAction_58 rfl).mpr ?_
  obtain ⟨g3, h⟩ := h
  refine zq_virtualI (n := 2) dX12_goAction_59 mr_12_150 zn_180 rfl rfl rfl (zrcv_R zo_180 (by decide) g3) (Nat.le_of_ble_eq_true rfl) ?_
  refine h.mono (fun r m1 h => ?_)
  obtain ⟨v2, rfl, h⟩ := h
  refine ⟨_, rfl, ?_⟩
  refine (zq_if_eq (t := 75) dX12_goAction_62 rfl).mpr ⟨fun c => ?_, fun c => ?_⟩
  · replace h := h.1 c
    refine (zq_aload_n dX12_goAction_75 rfl).mpr ?_
    obtain ⟨g4, h⟩ := h
    refine (zq_getI2 (f := 779) (v := (mI m1 779 a0)) dX12_goAction_76 fl_12_153 (by decide) rfl rfl (by first | rfl | simp only [zm_Is, zm_Rs, zm_As, zm_Os, zm_In0, zm_Rn0])).mpr ⟨g4, ?_⟩
    refine (zq_bipush (v := 60) dX12_goAction_79 (by decide)).mpr ?_
    refine (zq_icmp_ne (t := 94) dX12_goAction_81 rfl).mpr ⟨fun c => ?_, fun c => ?_⟩
    · replace h := h.1 c
      refine (zq_iconst (v := 4) dX12_goAction_94 (by decide)).mpr ?_
      refine (zq_aload_n dX12_goAction_95 rfl).mpr ?_
      refine (zq_getI2 (f := 779) (v := (mI m1 779 a0)) dX12_goAction_96 fl_12_153 (by decide) rfl rfl (by first | rfl | simp only [zm_Is, zm_Rs, zm_As, zm_Os, zm_In0, zm_Rn0])).mpr ⟨g4, ?_⟩
      refine (zq_imul dX12_goAction_99).mpr ?_
      refine (zq_istore_n (l := [zR a0, zI a1, zI s0, zI (wr (4 * (mI m1 779 a0))), a4, a5]) dX12_goAction_100 (Nat.le_of_ble_eq_true rfl) rfl).mpr ?_
      refine (zq_aload_n dX12_goAction_101 rfl).mpr ?_
      refine (zq_getR2 (f := 780) (v := (mR m1 780 a0)) dX12_goAction_102 fl_12_32 (by decide) rfl rfl (by first | rfl | simp only [zm_Is, zm_Rs, zm_As, zm_Os, zm_In0, zm_Rn0])).mpr ⟨g4, ?_⟩
      refine (zq_iload_n dX12_goAction_105 rfl).mpr ?_
      refine (zq_iload_n dX12_goAction_106 rfl).mpr ?_
      obtain ⟨g5, h⟩ := h
      obtain ⟨g6, h⟩ := h
      refine (zq_iast dX12_goAction_107).mpr ⟨⟨g6, g5⟩, ?_⟩
      refine (zq_aload_n dX12_goAction_108 rfl).mpr ?_
      refine (zq_getR2 (f := 780) (v := (mR m1 780 a0)) dX12_goAction_109 fl_12_32 (by decide) rfl rfl (by first | rfl | simp only [zm_Is, zm_Rs, zm_As, zm_Os, zm_In0, zm_Rn0])).mpr ⟨g4, ?_⟩
      refine (zq_iload_n dX12_goAction_112 rfl).mpr ?_
      refine (zq_iconst (v := 1) dX12_goAction_113 (by decide)).mpr ?_
      refine (zq_iadd dX12_goAction_114).mpr ?_
      refine (zq_iload_n dX12_goAction_115 rfl).mpr ?_
      obtain ⟨g7, h⟩ := h
      refine (zq_iast dX12_goAction_116).mpr ⟨⟨g6, g7⟩, ?_⟩
      refine (zq_aload_n dX12_goAction_117 rfl).mpr ?_
      refine (zq_dupR dX12_goAction_118).mpr ?_
      refine (zq_getI2 (f := 776) (v := (mI m1 776 a0)) dX12_goAction_119 fl_12_82 (by decide) rfl rfl (by first | rfl | simp only [zm_Is, zm_Rs, zm_As, zm_Os, zm_In0, zm_Rn0])).mpr ⟨g4, ?_⟩
      refine (zq_iload_n dX12_goAction_122 rfl).mpr ?_
      refine (zq_iconst (v := 2) dX12_goAction_123 (by decide)).mpr ?_
      refine (zq_icmp_gt (t := 131) dX12_goAction_124 rfl).mpr ⟨fun c => ?_, fun c => ?_⟩
      · replace h := h.1 c
        refine (zq_iconst (v := 1) dX12_goAction_131 (by decide)).mpr ?_
        refine (zq_iadd dX12_goAction_132).mpr ?_
        refine (zq_putI (f := 776) dX12_goAction_133 fl_12_82 (by decide) rfl rfl rfl).mpr ⟨g4, ?_⟩
        refine (zq_iconst (v := 0) dX12_goAction_136 (by decide)).mpr ?_
        refine (zq_istore (l := [zR a0, zI a1, zI s0, zI (wr (4 * (mI m1 779 a0))), zI 0, a5]) dX12_goAction_137 (Nat.le_of_ble_eq_true rfl) rfl).mpr ?_
        exact h
      · replace h := h.2 c
        refine (zq_iconst (v := 2) dX12_goAction_127 (by decide)).mpr ?_
        refine (zq_goto (t := 132) dX12_goAction_128 rfl).mpr ?_
        refine (zq_iadd dX12_goAction_132).mpr ?_
        refine (zq_putI (f := 776) dX12_goAction_133 fl_12_82 (by decide) rfl rfl rfl).mpr ⟨g4, ?_⟩
        refine (zq_iconst (v := 0) dX12_goAction_136 (by decide)).mpr ?_
        refine (zq_istore (l := [zR a0, zI a1, zI s0, zI (wr (4 * (mI m1 779 a0))), zI 0, a5]) dX12_goAction_137 (Nat.le_of_ble_eq_true rfl) rfl).mpr ?_
        exact h
    · replace h := h.2 c
      refine (zq_aload_n dX12_goAction_84 rfl).mpr ?_
      refine (zq_iconst (v := 4) dX12_goAction_85 (by decide)).mpr ?_
      refine (zq_aload_n dX12_goAction_86 rfl).mpr ?_
      refine (zq_getI2 (f := 776) (v := (mI m1 776 a0)) dX12_goAction_87 fl_12_82 (by decide) rfl rfl (by first | rfl | simp only [zm_Is, zm_Rs, zm_As, zm_Os, zm_In0, zm_Rn0])).mpr ⟨g4, ?_⟩
      refine zq_virtualI (n := 2) dX12_goAction_90 mr_12_130 zn_177 rfl rfl rfl (zrcv_R zo_177 (by decide) g4) (Nat.le_of_ble_eq_true rfl) ?_
      refine h.mono (fun r m8 h => ?_)
      obtain ⟨v9, rfl, h⟩ := h
      refine ⟨_, rfl, ?_⟩
      obtain ⟨g10, h⟩ := h
      exact (zq_iret dX12_goAction_93 rfl).mpr ⟨g10, h⟩
  · replace h := h.2 c
    refine (zq_aload_n dX12_goAction_65 rfl).mpr ?_
    refine (zq_iconst (v := 3) dX12_goAction_66 (by decide)).mpr ?_
    refine (zq_aload_n dX12_goAction_67 rfl).mpr ?_
    obtain ⟨g11, h⟩ := h
    refine (zq_getI2 (f := 776) (v := (mI m1 776 a0)) dX12_goAction_68 fl_12_82 (by decide) rfl rfl (by first | rfl | simp only [zm_Is, zm_Rs, zm_As, zm_Os, zm_In0, zm_Rn0])).mpr ⟨g11, ?_⟩
    refine zq_virtualI (n := 2) dX12_goAction_71 mr_12_130 zn_177 rfl rfl rfl (zrcv_R zo_177 (by decide) g11) (Nat.le_of_ble_eq_true rfl) ?_
    refine h.mono (fun r m12 h => ?_)
    obtain ⟨v13, rfl, h⟩ := h
    refine ⟨_, rfl, ?_⟩
    obtain ⟨g14, h⟩ := h
    exact (zq_iret dX12_goAction_74 rfl).mpr ⟨g14, h⟩
theorem bX12_goAction_139 {a0 : Nat} {a1 : Int} {a2 : Int} {a3 : Int} {a4 : Int} {a5 : zV} (h : (zXk 5 = 1 ∧ 0 ≤ a1 ∧ a1 < zXN xl 5) ∧ (((zXI xs 5 (a1).toNat) ≤ a4 → (mC m a0 = 13) ∧ ((1 < a1 → zW xs xl d cX12_goAction 12 (some .boolean) false [] 262 [zR a0, zI a1, zI a2, zI a3, zI a4, a5] [] (sI (sI m 776 a0 (wr ((mI m 776 a0) + 1))) 779 a0 (wr ((mI m 779 a0) + 1))) Q) ∧ (¬ (1 < a1) → zW xs xl d cX12_goAction 12 (some .boolean) false [] 262 [zR a0, zI a1, zI a2, zI a3, zI a4, a5] [] (sI (sI (sI m 776 a0 (wr ((mI m 776 a0) + 1))) 779 a0 (wr ((mI m 779 a0) + 1))) 783 a0 (bXor (mI m 783 a0) (bShl 1 a2))) Q))) ∧ (¬ ((zXI xs 5 (a1).toNat) ≤ a4) → (mC m a0 = 13) ∧ zC xs xl d 172 [zR a0, zI (mI m 776 a0)] m (fun r m4 => ∃ v5 : Int, r = .inl (some (zI v5)) ∧ (zXk 6 = 1 ∧ 0 ≤ a1 ∧ a1 < zXN xl 6) ∧ (zXk 7 = 1 ∧ 0 ≤ a1 ∧ a1 < zXN xl 7) ∧ zC xs xl d 163 [zI v5, zI (zXI xs 6 (a1).toNat), zI (zXI xs 7 (a1).toNat)] m4 (fun r m8 => ∃ v9 : Int, r = .inl (some (zI v9)) ∧ ((v9 ≠ 0 → (mC m8 a0 = 13) ∧ ((a1 ≠ 2 → (0 ≤ (wr (a3 + (wr (1 + a4)))) ∧ (wr (a3 + (wr (1 + a4)))) < mN m8 (mR m8 780 a0)) ∧ (mC m8 (mR m8 780 a0) = 20) ∧ zW xs xl d cX12_goAction 12 (some .boolean) false [] 139 [zR a0, zI a1, zI a2, zI a3, zI (wr (a4 + 1)), zI v5] [] (sI (sA m8 (mR m8 780 a0) (Int.toNat (wr (a3 + (wr (1 + a4))))) v5) 776 a0 (wr ((mI m8 776 a0) + 1))) Q) ∧ (¬ (a1 ≠ 2) → (0 ≤ (wr (a3 + 2)) ∧ (wr (a3 + 2)) < mN m8 (mR m8 780 a0)) ∧ (mC m8 (mR m8 780 a0) = 20) ∧ zW xs xl d cX12_goAction 12 (some .boolean) false [] 139 [zR a0, zI a1, zI a2, zI a3, zI (wr (a4 + 1)), zI v5] [] (sI (sA m8 (mR m8 780 a0) (Int.toNat (wr (a3 + 2))) v5) 776 a0 (wr ((mI m8 776 a0) + 1))) Q))) ∧ (¬ (v9 ≠ 0) → (mC m8 a0 = 13) ∧ zC xs xl d 177 [zR a0, zI 2, zI (mI m8 776 a0)] m8 (fun r m16 => ∃ v17 : Int, r = .inl (some (zI v17)) ∧ (v17 = 0 ∨ v17 = 1) ∧ Q (.inl (some (zI v17))) m16)))))))) : zW xs xl d cX12_goAction 12 (some .boolean) false [] 139 [zR a0, zI a1, zI a2, zI a3, zI a4, a5] [] m Q := by
  refine (zq_iload dX12_goAction_139 rfl).mpr ?_
  refine (zq_gets dX12_goAction_141 sl_12_118).mpr ?_
  refine (zq_iload_n dX12_goAction_144 rfl).mpr ?_
  obtain ⟨g1, h⟩ := h
  refine (zq_ialdE dX12_goAction_145).mpr ⟨g1, ?_⟩
  refine (zq_icmp_ge (t := 225) dX12_goAction_146 rfl).mpr ⟨fun c => ?_, fun c => ?_⟩
  · replace h := h.1 c
    refine (zq_aload_n dX12_goAction_225 rfl).mpr ?_
    refine (zq_dupR dX12_goAction_226).mpr ?_
    obtain ⟨g2, h⟩ := h
    refine (zq_getI2 (f := 776) (v := (mI m 776 a0)) dX12_goAction_227 fl_12_82 (by decide) rfl rfl (by first | rfl | simp only [zm_Is, zm_Rs, zm_As, zm_Os, zm_In0, zm_Rn0])).mpr ⟨g2, ?_⟩
    refine (zq_iconst (v := 1) dX12_goAction_230 (by decide)).mpr ?_
    refine (zq_iadd dX12_goAction_231).mpr ?_
    refine (zq_putI (f := 776) dX12_goAction_232 fl_12_82 (by decide) rfl rfl rfl).mpr ⟨g2, ?_⟩
    refine (zq_aload_n dX12_goAction_235 rfl).mpr ?_
    refine (zq_dupR dX12_goAction_236).mpr ?_
    refine (zq_getI2 (f := 779) (v := (mI m 779 a0)) dX12_goAction_237 fl_12_153 (by decide) rfl rfl (by first | rfl | simp only [zm_Is, zm_Rs, zm_As, zm_Os, zm_In0, zm_Rn0])).mpr ⟨g2, ?_⟩
    refine (zq_iconst (v := 1) dX12_goAction_240 (by decide)).mpr ?_
    refine (zq_iadd dX12_goAction_241).mpr ?_
    refine (zq_putI (f := 779) dX12_goAction_242 fl_12_153 (by decide) rfl rfl rfl).mpr ⟨g2, ?_⟩
    refine (zq_iload_n dX12_goAction_245 rfl).mpr ?_
    refine (zq_iconst (v := 1) dX12_goAction_246 (by decide)).mpr ?_
    refine (zq_icmp_gt (t := 262) dX12_goAction_247 rfl).mpr ⟨fun c => ?_, fun c => ?_⟩
    · replace h := h.1 c
      exact h
    · replace h := h.2 c
      refine (zq_aload_n dX12_goAction_250 rfl).mpr ?_
      refine (zq_dupR dX12_goAction_251).mpr ?_
      refine (zq_getI2 (f := 783) (v := (mI m 783 a0)) dX12_goAction_252 fl_12_140 (by decide) rfl rfl (by first | rfl | simp only [zm_Is, zm_Rs, zm_As, zm_Os, zm_In0, zm_Rn0])).mpr ⟨g2, ?_⟩
      refine (zq_iconst (v := 1) dX12_goAction_255 (by decide)).mpr ?_
      refine (zq_iload_n dX12_goAction_256 rfl).mpr ?_
      refine (zq_ishl dX12_goAction_257).mpr ?_
      refine (zq_ixor dX12_goAction_258).mpr ?_
      refine (zq_putI (f := 783) dX12_goAction_259 fl_12_140 (by decide) rfl rfl rfl).mpr ⟨g2, ?_⟩
      exact h
  · replace h := h.2 c
    refine (zq_aload_n dX12_goAction_149 rfl).mpr ?_
    refine (zq_aload_n dX12_goAction_150 rfl).mpr ?_
    obtain ⟨g3, h⟩ := h
    refine (zq_getI2 (f := 776) (v := (mI m 776 a0)) dX12_goAction_151 fl_12_82 (by decide) rfl rfl (by first | rfl | simp only [zm_Is, zm_Rs, zm_As, zm_Os, zm_In0, zm_Rn0])).mpr ⟨g3, ?_⟩
    refine zq_virtualI (n := 1) dX12_goAction_154 mr_12_134 zn_172 rfl rfl rfl (zrcv_R zo_172 (by decide) g3) (Nat.le_of_ble_eq_true rfl) ?_
    refine h.mono (fun r m4 h => ?_)
    obtain ⟨v5, rfl, h⟩ := h
    refine ⟨_, rfl, ?_⟩
    refine (zq_istore (l := [zR a0, zI a1, zI a2, zI a3, zI a4, zI v5]) dX12_goAction_157 (Nat.le_of_ble_eq_true rfl) rfl).mpr ?_
    refine (zq_iload dX12_goAction_159 rfl).mpr ?_
    refine (zq_gets dX12_goAction_161 sl_12_156).mpr ?_
    refine (zq_iload_n dX12_goAction_164 rfl).mpr ?_
    obtain ⟨g6, h⟩ := h
    refine (zq_ialdE dX12_goAction_165).mpr ⟨g6, ?_⟩
    refine (zq_gets dX12_goAction_166 sl_12_159).mpr ?_
    refine (zq_iload_n dX12_goAction_169 rfl).mpr ?_
    obtain ⟨g7, h⟩ := h
    refine (zq_ialdE dX12_goAction_170).mpr ⟨g7, ?_⟩
    refine zq_staticI (n := 3) dX12_goAction_171 mr_12_55 zn_163 rfl rfl (Nat.le_of_ble_eq_true rfl) (Nat.le_of_ble_eq_true rfl) ?_
    refine h.mono (fun r m8 h => ?_)
    obtain ⟨v9, rfl, h⟩ := h
    refine ⟨_, rfl, ?_⟩
    refine (zq_if_ne (t := 187) dX12_goAction_174 rfl).mpr ⟨fun c => ?_, fun c => ?_⟩
    · replace h := h.1 c
      refine (zq_aload_n dX12_goAction_187 rfl).mpr ?_
      obtain ⟨g10, h⟩ := h
      refine (zq_getR2 (f := 780) (v := (mR m8 780 a0)) dX12_goAction_188 fl_12_32 (by decide) rfl rfl (by first | rfl | simp only [zm_Is, zm_Rs, zm_As, zm_Os, zm_In0, zm_Rn0])).mpr ⟨g10, ?_⟩
      refine (zq_iload_n dX12_goAction_191 rfl).mpr ?_
      refine (zq_iload_n dX12_goAction_192 rfl).mpr ?_
      refine (zq_iconst (v := 2) dX12_goAction_193 (by decide)).mpr ?_
      refine (zq_icmp_ne (t := 201) dX12_goAction_194 rfl).mpr ⟨fun c => ?_, fun c => ?_⟩
      · replace h := h.1 c
        refine (zq_iconst (v := 1) dX12_goAction_201 (by decide)).mpr ?_
        refine (zq_iload dX12_goAction_202 rfl).mpr ?_
        refine (zq_iadd dX12_goAction_204).mpr ?_
        refine (zq_iadd dX12_goAction_205).mpr ?_
        refine (zq_iload dX12_goAction_206 rfl).mpr ?_
        obtain ⟨g11, h⟩ := h
        obtain ⟨g12, h⟩ := h
        refine (zq_iast dX12_goAction_208).mpr ⟨⟨g12, g11⟩, ?_⟩
        refine (zq_aload_n dX12_goAction_209 rfl).mpr ?_
        refine (zq_dupR dX12_goAction_210).mpr ?_
        refine (zq_getI2 (f := 776) (v := (mI m8 776 a0)) dX12_goAction_211 fl_12_82 (by decide) rfl rfl (by first | rfl | simp only [zm_Is, zm_Rs, zm_As, zm_Os, zm_In0, zm_Rn0])).mpr ⟨g10, ?_⟩
        refine (zq_iconst (v := 1) dX12_goAction_214 (by decide)).mpr ?_
        refine (zq_iadd dX12_goAction_215).mpr ?_
        refine (zq_putI (f := 776) dX12_goAction_216 fl_12_82 (by decide) rfl rfl rfl).mpr ⟨g10, ?_⟩
        refine (zq_iinc (l := [zR a0, zI a1, zI a2, zI a3, zI (wr (a4 + 1)), zI v5]) dX12_goAction_219 rfl rfl).mpr ?_
        refine (zq_goto (t := 139) dX12_goAction_222 rfl).mpr ?_
        exact h
      · replace h := h.2 c
        refine (zq_iconst (v := 2) dX12_goAction_197 (by decide)).mpr ?_
        refine (zq_goto (t := 205) dX12_goAction_198 rfl).mpr ?_
        refine (zq_iadd dX12_goAction_205).mpr ?_
        refine (zq_iload dX12_goAction_206 rfl).mpr ?_
        obtain ⟨g13, h⟩ := h
        obtain ⟨g14, h⟩ := h
        refine (zq_iast dX12_goAction_208).mpr ⟨⟨g14, g13⟩, ?_⟩
        refine (zq_aload_n dX12_goAction_209 rfl).mpr ?_
        refine (zq_dupR dX12_goAction_210).mpr ?_
        refine (zq_getI2 (f := 776) (v := (mI m8 776 a0)) dX12_goAction_211 fl_12_82 (by decide) rfl rfl (by first | rfl | simp only [zm_Is, zm_Rs, zm_As, zm_Os, zm_In0, zm_Rn0])).mpr ⟨g10, ?_⟩
        refine (zq_iconst (v := 1) dX12_goAction_214 (by decide)).mpr ?_
        refine (zq_iadd dX12_goAction_215).mpr ?_
        refine (zq_putI (f := 776) dX12_goAction_216 fl_12_82 (by decide) rfl rfl rfl).mpr ⟨g10, ?_⟩
        refine (zq_iinc (l := [zR a0, zI a1, zI a2, zI a3, zI (wr (a4 + 1)), zI v5]) dX12_goAction_219 rfl rfl).mpr ?_
        refine (zq_goto (t := 139) dX12_goAction_222 rfl).mpr ?_
        exact h
    · replace h := h.2 c
      refine (zq_aload_n dX12_goAction_177 rfl).mpr ?_
      refine (zq_iconst (v := 2) dX12_goAction_178 (by decide)).mpr ?_
      refine (zq_aload_n dX12_goAction_179 rfl).mpr ?_
      obtain ⟨g15, h⟩ := h
      refine (zq_getI2 (f := 776) (v := (mI m8 776 a0)) dX12_goAction_180 fl_12_82 (by decide) rfl rfl (by first | rfl | simp only [zm_Is, zm_Rs, zm_As, zm_Os, zm_In0, zm_Rn0])).mpr ⟨g15, ?_⟩
      refine zq_virtualI (n := 2) dX12_goAction_183 mr_12_130 zn_177 rfl rfl rfl (zrcv_R zo_177 (by decide) g15) (Nat.le_of_ble_eq_true rfl) ?_
      refine h.mono (fun r m16 h => ?_)
      obtain ⟨v17, rfl, h⟩ := h
      refine ⟨_, rfl, ?_⟩
      obtain ⟨g18, h⟩ := h
      exact (zq_iret dX12_goAction_186 rfl).mpr ⟨g18, h⟩
theorem bX12_goAction_262 {a0 : Nat} {a1 : Int} {a2 : Int} {a3 : Int} {a4 : Int} {a5 : zV} (h : ((a1 = 2 → (mC m a0 = 13) ∧ zW xs xl d cX12_goAction 12 (some .boolean) false [] 278 [zR a0, zI a1, zI a2, zI a3, zI a4, a5] [] (sI m 782 a0 0) Q) ∧ (¬ (a1 = 2) → ((a1 ≠ 7 → zW xs xl d cX12_goAction 12 (some .boolean) false [] 278 [zR a0, zI a1, zI a2, zI a3, zI a4, a5] [] m Q) ∧ (¬ (a1 ≠ 7) → (mC m a0 = 13) ∧ zW xs xl d cX12_goAction 12 (some .boolean) false [] 278 [zR a0, zI a1, zI a2, zI a3, zI a4, a5] [] (sI m 782 a0 0) Q))))) : zW xs xl d cX12_goAction 12 (some .boolean) false [] 262 [zR a0, zI a1, zI a2, zI a3, zI a4, a5] [] m Q := by
  refine (zq_iload_n dX12_goAction_262 rfl).mpr ?_
  refine (zq_iconst (v := 2) dX12_goAction_263 (by decide)).mpr ?_
  refine (zq_icmp_eq (t := 273) dX12_goAction_264 rfl).mpr ⟨fun c => ?_, fun c => ?_⟩
  · replace h := h.1 c
    refine (zq_aload_n dX12_goAction_273 rfl).mpr ?_
    refine (zq_iconst (v := 0) dX12_goAction_274 (by decide)).mpr ?_
    obtain ⟨g1, h⟩ := h
    refine (zq_putZ (f := 782) dX12_goAction_275 fl_12_147 (by decide) rfl rfl rfl).mpr ⟨⟨g1, (by decide)⟩, ?_⟩
    exact h
  · replace h := h.2 c
    refine (zq_iload_n dX12_goAction_267 rfl).mpr ?_
    refine (zq_bipush (v := 7) dX12_goAction_268 (by decide)).mpr ?_
    refine (zq_icmp_ne (t := 278) dX12_goAction_270 rfl).mpr ⟨fun c => ?_, fun c => ?_⟩
    · replace h := h.1 c
      exact h
    · replace h := h.2 c
      refine (zq_aload_n dX12_goAction_273 rfl).mpr ?_
      refine (zq_iconst (v := 0) dX12_goAction_274 (by decide)).mpr ?_
      obtain ⟨g2, h⟩ := h
      refine (zq_putZ (f := 782) dX12_goAction_275 fl_12_147 (by decide) rfl rfl rfl).mpr ⟨⟨g2, (by decide)⟩, ?_⟩
      exact h
theorem bX12_goAction_278 {a0 : Nat} {a1 : Int} {a2 : Int} {a3 : Int} {a4 : Int} {a5 : zV} (h : ((a1 ≠ 5 → zW xs xl d cX12_goAction 12 (some .boolean) false [] 288 [zR a0, zI a1, zI a2, zI a3, zI a4, a5] [] m Q) ∧ (¬ (a1 ≠ 5) → (mC m a0 = 13) ∧ zW xs xl d cX12_goAction 12 (some .boolean) false [] 288 [zR a0, zI a1, zI a2, zI a3, zI a4, a5] [] (sI m 782 a0 1) Q))) : zW xs xl d cX12_goAction 12 (some .boolean) false [] 278 [zR a0, zI a1, zI a2, zI a3, zI a4, a5] [] m Q := by
  refine (zq_iload_n dX12_goAction_278 rfl).mpr ?_
  refine (zq_iconst (v := 5) dX12_goAction_279 (by decide)).mpr ?_
  refine (zq_icmp_ne (t := 288) dX12_goAction_280 rfl).mpr ⟨fun c => ?_, fun c => ?_⟩
  · replace h := h.1 c
    exact h
  · replace h := h.2 c
    refine (zq_aload_n dX12_goAction_283 rfl).mpr ?_
    refine (zq_iconst (v := 1) dX12_goAction_284 (by decide)).mpr ?_
    obtain ⟨g1, h⟩ := h
    refine (zq_putZ (f := 782) dX12_goAction_285 fl_12_147 (by decide) rfl rfl rfl).mpr ⟨⟨g1, (by decide)⟩, ?_⟩
    exact h
theorem bX12_goAction_288 {a0 : Nat} {a1 : Int} {a2 : Int} {a3 : Int} {a4 : Int} {a5 : zV} (h : ((a1 = 2 → zW xs xl d cX12_goAction 12 (some .boolean) false [] 299 [zR a0, zI a1, zI a2, zI a3, zI a4, a5] [] m Q) ∧ (¬ (a1 = 2) → ((a1 ≠ 7 → Q (.inl (some (zI 1))) m) ∧ (¬ (a1 ≠ 7) → zW xs xl d cX12_goAction 12 (some .boolean) false [] 299 [zR a0, zI a1, zI a2, zI a3, zI a4, a5] [] m Q))))) : zW xs xl d cX12_goAction 12 (some .boolean) false [] 288 [zR a0, zI a1, zI a2, zI a3, zI a4, a5] [] m Q := by
  refine (zq_iload_n dX12_goAction_288 rfl).mpr ?_
  refine (zq_iconst (v := 2) dX12_goAction_289 (by decide)).mpr ?_
  refine (zq_icmp_eq (t := 299) dX12_goAction_290 rfl).mpr ⟨fun c => ?_, fun c => ?_⟩
  · replace h := h.1 c
    exact h
  · replace h := h.2 c
    refine (zq_iload_n dX12_goAction_293 rfl).mpr ?_
    refine (zq_bipush (v := 7) dX12_goAction_294 (by decide)).mpr ?_
    refine (zq_icmp_ne (t := 313) dX12_goAction_296 rfl).mpr ⟨fun c => ?_, fun c => ?_⟩
    · replace h := h.1 c
      refine (zq_iconst (v := 1) dX12_goAction_313 (by decide)).mpr ?_
      exact (zq_iret dX12_goAction_314 rfl).mpr ⟨Or.inr rfl, h⟩
    · replace h := h.2 c
      exact h
theorem bX12_goAction_299 {a0 : Nat} {a1 : Int} {a2 : Int} {a3 : Int} {a4 : Int} {a5 : zV} (h : ((a1 ≠ 2 → (mC m a0 = 13) ∧ Q (.inl (some (zI 1))) (sI m 781 a0 0)) ∧ (¬ (a1 ≠ 2) → (mC m a0 = 13) ∧ Q (.inl (some (zI 1))) (sI m 781 a0 1)))) : zW xs xl d cX12_goAction 12 (some .boolean) false [] 299 [zR a0, zI a1, zI a2, zI a3, zI a4, a5] [] m Q := by
  refine (zq_aload_n dX12_goAction_299 rfl).mpr ?_
  refine (zq_iload_n dX12_goAction_300 rfl).mpr ?_
  refine (zq_iconst (v := 2) dX12_goAction_301 (by decide)).mpr ?_
  refine (zq_icmp_ne (t := 309) dX12_goAction_302 rfl).mpr ⟨fun c => ?_, fun c => ?_⟩
  · replace h := h.1 c
    refine (zq_iconst (v := 0) dX12_goAction_309 (by decide)).mpr ?_
    obtain ⟨g1, h⟩ := h
    refine (zq_putZ (f := 781) dX12_goAction_310 fl_12_143 (by decide) rfl rfl rfl).mpr ⟨⟨g1, (by decide)⟩, ?_⟩
    refine (zq_iconst (v := 1) dX12_goAction_313 (by decide)).mpr ?_
    exact (zq_iret dX12_goAction_314 rfl).mpr ⟨Or.inr rfl, h⟩
  · replace h := h.2 c
    refine (zq_iconst (v := 1) dX12_goAction_305 (by decide)).mpr ?_
    refine (zq_goto (t := 310) dX12_goAction_306 rfl).mpr ?_
    obtain ⟨g2, h⟩ := h
    refine (zq_putZ (f := 781) dX12_goAction_310 fl_12_143 (by decide) rfl rfl rfl).mpr ⟨⟨g2, (by decide)⟩, ?_⟩
    refine (zq_iconst (v := 1) dX12_goAction_313 (by decide)).mpr ?_
    exact (zq_iret dX12_goAction_314 rfl).mpr ⟨Or.inr rfl, h⟩
end ZB7
