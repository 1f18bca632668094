section ZB9
variable {xs : Nat → Int} {xl d : Nat} {m : zM} {Q : zRes → zM → Prop}
theorem bX12_run_0 {a0 : Nat} {a1 : Int} (h : (mC m a0 = 13) ∧ zC xs xl d 163 [zI a1, zI 1, zI 200] (sI m 768 a0 0) (fun r m2 => ∃ v3 : Int, r = .inl (some (zI v3)) ∧ ((v3 ≠ 0 → (mC m2 a0 = 13) ∧ (mC m2 (mR m2 784 a0) = 12) ∧ zW xs xl d cX12_run 12 (some .int) false [] 32 [zR a0, zI a1, zI (mI m2 736 (mR m2 784 a0)), zI 0] [] m2 Q) ∧ (¬ (v3 ≠ 0) → (mC m2 a0 = 13) ∧ zC xs xl d 162 [zR a0, zI 1] m2 (fun r m6 => ∃ v7 : Int, r = .inl (some (zI v7)) ∧ Q (.inl (some (zI v7))) m6))))) : zC xs xl (d + 1) 202 [zR a0, zI a1] m Q := by
  refine zk_202 ?_
  refine (zq_aload_n dX12_run_0 rfl).mpr ?_
  refine (zq_iconst (v := 0) dX12_run_1 (by decide)).mpr ?_
  obtain ⟨g1, h⟩ := h
  refine (zq_putI (f := 768) dX12_run_2 fl_12_45 (by decide) rfl rfl rfl).mpr ⟨g1, ?_⟩
  refine (zq_iload_n dX12_run_5 rfl).mpr ?_
  refine (zq_iconst (v := 1) dX12_run_6 (by decide)).mpr ?_
  refine (zq_sipush (v := 200) dX12_run_7 (by decide)).mpr ?_
  refine zq_staticI (n := 3) dX12_run_10 mr_12_55 zn_163 rfl rfl (Nat.le_of_ble_eq_true rfl) (Nat.le_of_ble_eq_true rfl) ?_
  refine h.mono (fun r m2 h => ?_)
  obtain ⟨v3, rfl, h⟩ := h
  refine ⟨_, rfl, ?_⟩
  refine (zq_if_ne (t := 22) dX12_run_13 rfl).mpr ⟨fun c => ?_, fun c => ?_⟩
  · replace h := h.1 c
    refine (zq_aload_n dX12_run_22 rfl).mpr ?_
    obtain ⟨g4, h⟩ := h
    refine (zq_getR2 (f := 784) (v := (mR m2 784 a0)) dX12_run_23 fl_12_38 (by decide) rfl rfl (by first | rfl | simp only [zm_Is, zm_Rs, zm_As, zm_Os, zm_In0, zm_Rn0])).mpr ⟨g4, ?_⟩
    obtain ⟨g5, h⟩ := h
    refine (zq_getI2 (f := 736) (v := (mI m2 736 (mR m2 784 a0))) dX12_run_26 fl_12_306 (by decide) rfl rfl (by first | rfl | simp only [zm_Is, zm_Rs, zm_As, zm_Os, zm_In0, zm_Rn0])).mpr ⟨g5, ?_⟩
    refine (zq_istore_n (l := [zR a0, zI a1, zI (mI m2 736 (mR m2 784 a0)), zU]) dX12_run_29 (Nat.le_of_ble_eq_true rfl) rfl).mpr ?_
    refine (zq_iconst (v := 0) dX12_run_30 (by decide)).mpr ?_
    refine (zq_istore_n (l := [zR a0, zI a1, zI (mI m2 736 (mR m2 784 a0)), zI 0]) dX12_run_31 (Nat.le_of_ble_eq_true rfl) rfl).mpr ?_
    exact h
  · replace h := h.2 c
    refine (zq_aload_n dX12_run_16 rfl).mpr ?_
    refine (zq_iconst (v := 1) dX12_run_17 (by decide)).mpr ?_
    obtain ⟨g8, h⟩ := h
    refine zq_virtualI (n := 1) dX12_run_18 mr_12_51 zn_162 rfl rfl rfl (zrcv_R zo_162 (by decide) g8) (Nat.le_of_ble_eq_true rfl) ?_
    refine h.mono (fun r m6 h => ?_)
    obtain ⟨v7, rfl, h⟩ := h
    refine ⟨_, rfl, ?_⟩
    exact (zq_iret dX12_run_21 rfl).mpr ⟨trivial, h⟩
theorem bX12_run_32 {a0 : Nat} {a1 : Int} {a2 : Int} {a3 : Int} (h : ((a1 ≤ a3 → (mC m a0 = 13) ∧ (mC m (mR m 784 a0) = 12) ∧ Q (.inl (some (zI (wr ((mI m 736 (mR m 784 a0)) - a2))))) m) ∧ (¬ (a1 ≤ a3) → (mC m a0 = 13) ∧ (mC m (mR m 784 a0) = 12) ∧ zC xs xl d 147 [zR (mR m 784 a0)] m (fun r m4 => r = .inl none ∧ zW xs xl d cX12_run 12 (some .int) false [] 32 [zR a0, zI a1, zI a2, zI (wr (a3 + 1))] [] m4 Q)))) : zW xs xl d cX12_run 12 (some .int) false [] 32 [zR a0, zI a1, zI a2, zI a3] [] m Q := by
  refine (zq_iload_n dX12_run_32 rfl).mpr ?_
  refine (zq_iload_n dX12_run_33 rfl).mpr ?_
  refine (zq_icmp_ge (t := 50) dX12_run_34 rfl).mpr ⟨fun c => ?_, fun c => ?_⟩
  · replace h := h.1 c
    refine (zq_aload_n dX12_run_50 rfl).mpr ?_
    obtain ⟨g1, h⟩ := h
    refine (zq_getR2 (f := 784) (v := (mR m 784 a0)) dX12_run_51 fl_12_38 (by decide) rfl rfl (by first | rfl | simp only [zm_Is, zm_Rs, zm_As, zm_Os, zm_In0, zm_Rn0])).mpr ⟨g1, ?_⟩
    obtain ⟨g2, h⟩ := h
    refine (zq_getI2 (f := 736) (v := (mI m 736 (mR m 784 a0))) dX12_run_54 fl_12_306 (by decide) rfl rfl (by first | rfl | simp only [zm_Is, zm_Rs, zm_As, zm_Os, zm_In0, zm_Rn0])).mpr ⟨g2, ?_⟩
    refine (zq_iload_n dX12_run_57 rfl).mpr ?_
    refine (zq_isub dX12_run_58).mpr ?_
    exact (zq_iret dX12_run_59 rfl).mpr ⟨trivial, h⟩
  · replace h := h.2 c
    refine (zq_aload_n dX12_run_37 rfl).mpr ?_
    obtain ⟨g3, h⟩ := h
    refine (zq_getR2 (f := 784) (v := (mR m 784 a0)) dX12_run_38 fl_12_38 (by decide) rfl rfl (by first | rfl | simp only [zm_Is, zm_Rs, zm_As, zm_Os, zm_In0, zm_Rn0])).mpr ⟨g3, ?_⟩
    obtain ⟨g6, h⟩ := h
    refine zq_virtualV (n := 0) dX12_run_41 mr_12_309 zn_147 rfl rfl rfl (zrcv_R zo_147 (by decide) g6) (Nat.le_of_ble_eq_true rfl) ?_
    refine h.mono (fun r m4 h => ?_)
    obtain ⟨rfl, h⟩ := h
    refine ⟨rfl, ?_⟩
    refine (zq_iinc (l := [zR a0, zI a1, zI a2, zI (wr (a3 + 1))]) dX12_run_44 rfl rfl).mpr ?_
    refine (zq_goto (t := 32) dX12_run_47 rfl).mpr ?_
    exact h
theorem bX12_count_0 {a0 : Nat} {a1 : Int} (h : (mC m a0 = 13) ∧ zC xs xl d 163 [zI a1, zI 0, zI 8] (sI m 768 a0 0) (fun r m2 => ∃ v3 : Int, r = .inl (some (zI v3)) ∧ ((v3 = 0 → (mC m2 a0 = 13) ∧ zC xs xl d 162 [zR a0, zI 1] m2 (fun r m4 => ∃ v5 : Int, r = .inl (some (zI v5)) ∧ Q (.inl (some (zI v5))) m4)) ∧ (¬ (v3 = 0) → (mC m2 a0 = 13) ∧ (mC m2 (mR m2 784 a0) = 12) ∧ zC xs xl d 159 [zR (mR m2 784 a0), zI a1] m2 (fun r m8 => ∃ v9 : Int, r = .inl (some (zI v9)) ∧ Q (.inl (some (zI v9))) m8))))) : zC xs xl (d + 1) 203 [zR a0, zI a1] m Q := by
  refine zk_203 ?_
  refine (zq_aload_n dX12_count_0 rfl).mpr ?_
  refine (zq_iconst (v := 0) dX12_count_1 (by decide)).mpr ?_
  obtain ⟨g1, h⟩ := h
  refine (zq_putI (f := 768) dX12_count_2 fl_12_45 (by decide) rfl rfl rfl).mpr ⟨g1, ?_⟩
  refine (zq_iload_n dX12_count_5 rfl).mpr ?_
  refine (zq_iconst (v := 0) dX12_count_6 (by decide)).mpr ?_
  refine (zq_bipush (v := 8) dX12_count_7 (by decide)).mpr ?_
  refine zq_staticI (n := 3) dX12_count_9 mr_12_55 zn_163 rfl rfl (Nat.le_of_ble_eq_true rfl) (Nat.le_of_ble_eq_true rfl) ?_
  refine h.mono (fun r m2 h => ?_)
  obtain ⟨v3, rfl, h⟩ := h
  refine ⟨_, rfl, ?_⟩
  refine (zq_if_eq (t := 26) dX12_count_12 rfl).mpr ⟨fun c => ?_, fun c => ?_⟩
  · replace h := h.1 c
    refine (zq_aload_n dX12_count_26 rfl).mpr ?_
    refine (zq_iconst (v := 1) dX12_count_27 (by decide)).mpr ?_
    obtain ⟨g6, h⟩ := h
    refine zq_virtualI (n := 1) dX12_count_28 mr_12_51 zn_162 rfl rfl rfl (zrcv_R zo_162 (by decide) g6) (Nat.le_of_ble_eq_true rfl) ?_
    refine h.mono (fun r m4 h => ?_)
    obtain ⟨v5, rfl, h⟩ := h
    refine ⟨_, rfl, ?_⟩
    exact (zq_iret dX12_count_31 rfl).mpr ⟨trivial, h⟩
  · replace h := h.2 c
    refine (zq_aload_n dX12_count_15 rfl).mpr ?_
    obtain ⟨g7, h⟩ := h
    refine (zq_getR2 (f := 784) (v := (mR m2 784 a0)) dX12_count_16 fl_12_38 (by decide) rfl rfl (by first | rfl | simp only [zm_Is, zm_Rs, zm_As, zm_Os, zm_In0, zm_Rn0])).mpr ⟨g7, ?_⟩
    refine (zq_iload_n dX12_count_19 rfl).mpr ?_
    obtain ⟨g10, h⟩ := h
    refine zq_virtualI (n := 1) dX12_count_20 mr_12_274 zn_159 rfl rfl rfl (zrcv_R zo_159 (by decide) g10) (Nat.le_of_ble_eq_true rfl) ?_
    refine h.mono (fun r m8 h => ?_)
    obtain ⟨v9, rfl, h⟩ := h
    refine ⟨_, rfl, ?_⟩
    refine (zq_goto (t := 31) dX12_count_23 rfl).mpr ?_
    exact (zq_iret dX12_count_31 rfl).mpr ⟨trivial, h⟩
theorem bX12_kept_0 {a0 : Nat} (h : (mC m a0 = 13) ∧ (mC m (mR m 784 a0) = 12) ∧ Q (.inl (some (zI (if (mI m 736 (mR m 784 a0)) < 40 then (mI m 736 (mR m 784 a0)) else 40)))) m) : zC xs xl (d + 1) 204 [zR a0] m Q := by
  refine zk_204 ?_
  refine (zq_bipush (v := 40) dX12_kept_0 (by decide)).mpr ?_
  refine (zq_aload_n dX12_kept_2 rfl).mpr ?_
  obtain ⟨g1, h⟩ := h
  refine (zq_getR2 (f := 784) (v := (mR m 784 a0)) dX12_kept_3 fl_12_38 (by decide) rfl rfl (by first | rfl | simp only [zm_Is, zm_Rs, zm_As, zm_Os, zm_In0, zm_Rn0])).mpr ⟨g1, ?_⟩
  obtain ⟨g2, h⟩ := h
  refine (zq_getI2 (f := 736) (v := (mI m 736 (mR m 784 a0))) dX12_kept_6 fl_12_306 (by decide) rfl rfl (by first | rfl | simp only [zm_Is, zm_Rs, zm_As, zm_Os, zm_In0, zm_Rn0])).mpr ⟨g2, ?_⟩
  refine (zq_min dX12_kept_9 mr_12_312).mpr ⟨(Nat.le_of_ble_eq_true rfl), ?_⟩
  exact (zq_iret dX12_kept_12 rfl).mpr ⟨trivial, h⟩
theorem bX12_hull_0 {a0 : Nat} {a1 : Int} {a2 : Int} (h : (mC m a0 = 13) ∧ zC xs xl d 204 [zR a0] (sI m 768 a0 0) (fun r m2 => ∃ v3 : Int, r = .inl (some (zI v3)) ∧ zC xs xl d 163 [zI a1, zI 0, zI (wr (v3 - 1))] m2 (fun r m4 => ∃ v5 : Int, r = .inl (some (zI v5)) ∧ ((v5 = 0 → (mC m4 a0 = 13) ∧ zC xs xl d 162 [zR a0, zI 1] m4 (fun r m6 => ∃ v7 : Int, r = .inl (some (zI v7)) ∧ Q (.inl (some (zI v7))) m6)) ∧ (¬ (v5 = 0) → zC xs xl d 163 [zI a2, zI 0, zI 5] m4 (fun r m9 => ∃ v10 : Int, r = .inl (some (zI v10)) ∧ ((v10 = 0 → (mC m9 a0 = 13) ∧ zC xs xl d 162 [zR a0, zI 1] m9 (fun r m11 => ∃ v12 : Int, r = .inl (some (zI v12)) ∧ Q (.inl (some (zI v12))) m11)) ∧ (¬ (v10 = 0) → (mC m9 a0 = 13) ∧ (mC m9 (mR m9 784 a0) = 12) ∧ (mC m9 (mR m9 739 (mR m9 784 a0)) = 20) ∧ (0 ≤ (wr ((wr (6 * a1)) + a2)) ∧ (wr ((wr (6 * a1)) + a2)) < mN m9 (mR m9 739 (mR m9 784 a0))) ∧ Q (.inl (some (zI (mA m9 (mR m9 739 (mR m9 784 a0)) (Int.toNat (wr ((wr (6 * a1)) + a2))))))) m9)))))))) : zC xs xl (d + 1) 205 [zR a0, zI a1, zI a2] m Q := by
  refine zk_205 ?_
  refine (zq_aload_n dX12_hull_0 rfl).mpr ?_
  refine (zq_iconst (v := 0) dX12_hull_1 (by decide)).mpr ?_
  obtain ⟨g1, h⟩ := h
  refine (zq_putI (f := 768) dX12_hull_2 fl_12_45 (by decide) rfl rfl rfl).mpr ⟨g1, ?_⟩
  refine (zq_iload_n dX12_hull_5 rfl).mpr ?_
  refine (zq_iconst (v := 0) dX12_hull_6 (by decide)).mpr ?_
  refine (zq_aload_n dX12_hull_7 rfl).mpr ?_
  refine zq_virtualI (n := 0) dX12_hull_8 mr_12_317 zn_204 rfl rfl rfl (zrcv_R zo_204 (by decide) g1) (Nat.le_of_ble_eq_true rfl) ?_
  refine h.mono (fun r m2 h => ?_)
  obtain ⟨v3, rfl, h⟩ := h
  refine ⟨_, rfl, ?_⟩
  refine (zq_iconst (v := 1) dX12_hull_11 (by decide)).mpr ?_
  refine (zq_isub dX12_hull_12).mpr ?_
  refine zq_staticI (n := 3) dX12_hull_13 mr_12_55 zn_163 rfl rfl (Nat.le_of_ble_eq_true rfl) (Nat.le_of_ble_eq_true rfl) ?_
  refine h.mono (fun r m4 h => ?_)
  obtain ⟨v5, rfl, h⟩ := h
  refine ⟨_, rfl, ?_⟩
  refine (zq_if_eq (t := 45) dX12_hull_16 rfl).mpr ⟨fun c => ?_, fun c => ?_⟩
  · replace h := h.1 c
    refine (zq_aload_n dX12_hull_45 rfl).mpr ?_
    refine (zq_iconst (v := 1) dX12_hull_46 (by decide)).mpr ?_
    obtain ⟨g8, h⟩ := h
    refine zq_virtualI (n := 1) dX12_hull_47 mr_12_51 zn_162 rfl rfl rfl (zrcv_R zo_162 (by decide) g8) (Nat.le_of_ble_eq_true rfl) ?_
    refine h.mono (fun r m6 h => ?_)
    obtain ⟨v7, rfl, h⟩ := h
    refine ⟨_, rfl, ?_⟩
    exact (zq_iret dX12_hull_50 rfl).mpr ⟨trivial, h⟩
  · replace h := h.2 c
    refine (zq_iload_n dX12_hull_19 rfl).mpr ?_
    refine (zq_iconst (v := 0) dX12_hull_20 (by decide)).mpr ?_
    refine (zq_iconst (v := 5) dX12_hull_21 (by decide)).mpr ?_
    refine zq_staticI (n := 3) dX12_hull_22 mr_12_55 zn_163 rfl rfl (Nat.le_of_ble_eq_true rfl) (Nat.le_of_ble_eq_true rfl) ?_
    refine h.mono (fun r m9 h => ?_)
    obtain ⟨v10, rfl, h⟩ := h
    refine ⟨_, rfl, ?_⟩
    refine (zq_if_eq (t := 45) dX12_hull_25 rfl).mpr ⟨fun c => ?_, fun c => ?_⟩
    · replace h := h.1 c
      refine (zq_aload_n dX12_hull_45 rfl).mpr ?_
      refine (zq_iconst (v := 1) dX12_hull_46 (by decide)).mpr ?_
      obtain ⟨g13, h⟩ := h
      refine zq_virtualI (n := 1) dX12_hull_47 mr_12_51 zn_162 rfl rfl rfl (zrcv_R zo_162 (by decide) g13) (Nat.le_of_ble_eq_true rfl) ?_
      refine h.mono (fun r m11 h => ?_)
      obtain ⟨v12, rfl, h⟩ := h
      refine ⟨_, rfl, ?_⟩
      exact (zq_iret dX12_hull_50 rfl).mpr ⟨trivial, h⟩
    · replace h := h.2 c
      refine (zq_aload_n dX12_hull_28 rfl).mpr ?_
      obtain ⟨g14, h⟩ := h
      refine (zq_getR2 (f := 784) (v := (mR m9 784 a0)) dX12_hull_29 fl_12_38 (by decide) rfl rfl (by first | rfl | simp only [zm_Is, zm_Rs, zm_As, zm_Os, zm_In0, zm_Rn0])).mpr ⟨g14, ?_⟩
      obtain ⟨g15, h⟩ := h
      refine (zq_getR2 (f := 739) (v := (mR m9 739 (mR m9 784 a0))) dX12_hull_32 fl_12_320 (by decide) rfl rfl (by first | rfl | simp only [zm_Is, zm_Rs, zm_As, zm_Os, zm_In0, zm_Rn0])).mpr ⟨g15, ?_⟩
      refine (zq_bipush (v := 6) dX12_hull_35 (by decide)).mpr ?_
      refine (zq_iload_n dX12_hull_37 rfl).mpr ?_
      refine (zq_imul dX12_hull_38).mpr ?_
      refine (zq_iload_n dX12_hull_39 rfl).mpr ?_
      refine (zq_iadd dX12_hull_40).mpr ?_
      obtain ⟨g16, h⟩ := h
      obtain ⟨g17, h⟩ := h
      refine (zq_iald2 (v := (mA m9 (mR m9 739 (mR m9 784 a0)) (Int.toNat (wr ((wr (6 * a1)) + a2))))) dX12_hull_41 (by first | rfl | simp only [zm_Is, zm_Rs, zm_As, zm_Os, zm_In0, zm_Rn0])).mpr ⟨⟨g16, g17⟩, ?_⟩
      refine (zq_goto (t := 50) dX12_hull_42 rfl).mpr ?_
      exact (zq_iret dX12_hull_50 rfl).mpr ⟨trivial, h⟩
theorem bX12_foresee_0 {a0 : Nat} {a1 : Int} {a2 : Int} (h : (mC m a0 = 13) ∧ zC xs xl d 163 [zI a1, zI 1, zI 200] (sI m 768 a0 0) (fun r m2 => ∃ v3 : Int, r = .inl (some (zI v3)) ∧ ((v3 ≠ 0 → zC xs xl d 163 [zI a2, zI 0, zI 3] m2 (fun r m4 => ∃ v5 : Int, r = .inl (some (zI v5)) ∧ ((v5 ≠ 0 → (mC m4 a0 = 13) ∧ (mC m4 (mR m4 785 a0) = 12) ∧ zC xs xl d 132 [zR (mR m4 785 a0), zR (mR m4 784 a0)] m4 (fun r m7 => r = .inl none ∧ zW xs xl d cX12_foresee 12 (some .int) false [] 53 [zR a0, zI a1, zI a2, zI (-1), zI 0] [] m7 Q)) ∧ (¬ (v5 ≠ 0) → (mC m4 a0 = 13) ∧ zC xs xl d 162 [zR a0, zI 2] m4 (fun r m10 => ∃ v11 : Int, r = .inl (some (zI v11)) ∧ Q (.inl (some (zI v11))) m10))))) ∧ (¬ (v3 ≠ 0) → (mC m2 a0 = 13) ∧ zC xs xl d 162 [zR a0, zI 1] m2 (fun r m13 => ∃ v14 : Int, r = .inl (some (zI v14)) ∧ Q (.inl (some (zI v14))) m13))))) : zC xs xl (d + 1) 206 [zR a0, zI a1, zI a2] m Q := by
  refine zk_206 ?_
  refine (zq_aload_n dX12_foresee_0 rfl).mpr ?_
  refine (zq_iconst (v := 0) dX12_foresee_1 (by decide)).mpr ?_
  obtain ⟨g1, h⟩ := h
  refine (zq_putI (f := 768) dX12_foresee_2 fl_12_45 (by decide) rfl rfl rfl).mpr ⟨g1, ?_⟩
  refine (zq_iload_n dX12_foresee_5 rfl).mpr ?_
  refine (zq_iconst (v := 1) dX12_foresee_6 (by decide)).mpr ?_
  refine (zq_sipush (v := 200) dX12_foresee_7 (by decide)).mpr ?_
  refine zq_staticI (n := 3) dX12_foresee_10 mr_12_55 zn_163 rfl rfl (Nat.le_of_ble_eq_true rfl) (Nat.le_of_ble_eq_true rfl) ?_
  refine h.mono (fun r m2 h => ?_)
  obtain ⟨v3, rfl, h⟩ := h
  refine ⟨_, rfl, ?_⟩
  refine (zq_if_ne (t := 22) dX12_foresee_13 rfl).mpr ⟨fun c => ?_, fun c => ?_⟩
  · replace h := h.1 c
    refine (zq_iload_n dX12_foresee_22 rfl).mpr ?_
    refine (zq_iconst (v := 0) dX12_foresee_23 (by decide)).mpr ?_
    refine (zq_iconst (v := 3) dX12_foresee_24 (by decide)).mpr ?_
    refine zq_staticI (n := 3) dX12_foresee_25 mr_12_55 zn_163 rfl rfl (Nat.le_of_ble_eq_true rfl) (Nat.le_of_ble_eq_true rfl) ?_
    refine h.mono (fun r m4 h => ?_)
    obtain ⟨v5, rfl, h⟩ := h
    refine ⟨_, rfl, ?_⟩
    refine (zq_if_ne (t := 37) dX12_foresee_28 rfl).mpr ⟨fun c => ?_, fun c => ?_⟩
    · replace h := h.1 c
      refine (zq_aload_n dX12_foresee_37 rfl).mpr ?_
      obtain ⟨g6, h⟩ := h
      refine (zq_getR2 (f := 785) (v := (mR m4 785 a0)) dX12_foresee_38 fl_12_42 (by decide) rfl rfl (by first | rfl | simp only [zm_Is, zm_Rs, zm_As, zm_Os, zm_In0, zm_Rn0])).mpr ⟨g6, ?_⟩
      refine (zq_aload_n dX12_foresee_41 rfl).mpr ?_
      refine (zq_getR2 (f := 784) (v := (mR m4 784 a0)) dX12_foresee_42 fl_12_38 (by decide) rfl rfl (by first | rfl | simp only [zm_Is, zm_Rs, zm_As, zm_Os, zm_In0, zm_Rn0])).mpr ⟨g6, ?_⟩
      obtain ⟨g9, h⟩ := h
      refine zq_virtualV (n := 1) dX12_foresee_45 mr_12_323 zn_132 rfl rfl rfl (zrcv_R zo_132 (by decide) g9) (Nat.le_of_ble_eq_true rfl) ?_
      refine h.mono (fun r m7 h => ?_)
      obtain ⟨rfl, h⟩ := h
      refine ⟨rfl, ?_⟩
      refine (zq_iconst (v := (-1)) dX12_foresee_48 (by decide)).mpr ?_
      refine (zq_istore_n (l := [zR a0, zI a1, zI a2, zI (-1), zU]) dX12_foresee_49 (Nat.le_of_ble_eq_true rfl) rfl).mpr ?_
      refine (zq_iconst (v := 0) dX12_foresee_50 (by decide)).mpr ?_
      refine (zq_istore (l := [zR a0, zI a1, zI a2, zI (-1), zI 0]) dX12_foresee_51 (Nat.le_of_ble_eq_true rfl) rfl).mpr ?_
      exact h
    · replace h := h.2 c
      refine (zq_aload_n dX12_foresee_31 rfl).mpr ?_
      refine (zq_iconst (v := 2) dX12_foresee_32 (by decide)).mpr ?_
      obtain ⟨g12, h⟩ := h
      refine zq_virtualI (n := 1) dX12_foresee_33 mr_12_51 zn_162 rfl rfl rfl (zrcv_R zo_162 (by decide) g12) (Nat.le_of_ble_eq_true rfl) ?_
      refine h.mono (fun r m10 h => ?_)
      obtain ⟨v11, rfl, h⟩ := h
      refine ⟨_, rfl, ?_⟩
      exact (zq_iret dX12_foresee_36 rfl).mpr ⟨trivial, h⟩
  · replace h := h.2 c
    refine (zq_aload_n dX12_foresee_16 rfl).mpr ?_
    refine (zq_iconst (v := 1) dX12_foresee_17 (by decide)).mpr ?_
    obtain ⟨g15, h⟩ := h
    refine zq_virtualI (n := 1) dX12_foresee_18 mr_12_51 zn_162 rfl rfl rfl (zrcv_R zo_162 (by decide) g15) (Nat.le_of_ble_eq_true rfl) ?_
    refine h.mono (fun r m13 h => ?_)
    obtain ⟨v14, rfl, h⟩ := h
    refine ⟨_, rfl, ?_⟩
    exact (zq_iret dX12_foresee_21 rfl).mpr ⟨trivial, h⟩
theorem bX12_foresee_53 {a0 : Nat} {a1 : Int} {a2 : Int} {a3 : Int} {a4 : Int} (h : ((a1 ≤ a4 → ((a2 ≠ 0 → ((a2 ≠ 1 → ((a2 ≠ 2 → Q (.inl (some (zI a3))) m) ∧ (¬ (a2 ≠ 2) → (mC m a0 = 13) ∧ (mC m (mR m 785 a0) = 12) ∧ zC xs xl d 145 [zR (mR m 785 a0)] m (fun r m2 => ∃ v3 : Int, r = .inl (some (zI v3)) ∧ Q (.inl (some (zI v3))) m2)))) ∧ (¬ (a2 ≠ 1) → (mC m a0 = 13) ∧ (mC m (mR m 785 a0) = 12) ∧ (mC m (mR m 784 a0) = 12) ∧ Q (.inl (some (zI (wr ((mI m 737 (mR m 785 a0)) - (mI m 737 (mR m 784 a0))))))) m))) ∧ (¬ (a2 ≠ 0) → (mC m a0 = 13) ∧ (mC m (mR m 785 a0) = 12) ∧ (mC m (mR m 784 a0) = 12) ∧ Q (.inl (some (zI (wr ((mI m 736 (mR m 785 a0)) - (mI m 736 (mR m 784 a0))))))) m))) ∧ (¬ (a1 ≤ a4) → (mC m a0 = 13) ∧ (mC m (mR m 785 a0) = 12) ∧ zC xs xl d 147 [zR (mR m 785 a0)] m (fun r m12 => r = .inl none ∧ ((a3 ≠ (-1) → zW xs xl d cX12_foresee 12 (some .int) false [] 53 [zR a0, zI a1, zI a2, zI a3, zI (wr (a4 + 1))] [] m12 Q) ∧ (¬ (a3 ≠ (-1)) → (mC m12 a0 = 13) ∧ (mC m12 (mR m12 785 a0) = 12) ∧ (mC m12 (mR m12 784 a0) = 12) ∧ (((mI m12 736 (mR m12 785 a0)) ≤ (mI m12 736 (mR m12 784 a0)) → zW xs xl d cX12_foresee 12 (some .int) false [] 53 [zR a0, zI a1, zI a2, zI a3, zI (wr (a4 + 1))] [] m12 Q) ∧ (¬ ((mI m12 736 (mR m12 785 a0)) ≤ (mI m12 736 (mR m12 784 a0))) → zW xs xl d cX12_foresee 12 (some .int) false [] 53 [zR a0, zI a1, zI a2, zI (mI m12 704 (mR m12 785 a0)), zI (wr (a4 + 1))] [] m12 Q)))))))) : zW xs xl d cX12_foresee 12 (some .int) false [] 53 [zR a0, zI a1, zI a2, zI a3, zI a4] [] m Q := by
  refine (zq_iload dX12_foresee_53 rfl).mpr ?_
  refine (zq_iload_n dX12_foresee_55 rfl).mpr ?_
  refine (zq_icmp_ge (t := 102) dX12_foresee_56 rfl).mpr ⟨fun c => ?_, fun c => ?_⟩
  · replace h := h.1 c
    refine (zq_iload_n dX12_foresee_102 rfl).mpr ?_
    refine (zq_if_ne (t := 124) dX12_foresee_103 rfl).mpr ⟨fun c => ?_, fun c => ?_⟩
    · replace h := h.1 c
      refine (zq_iload_n dX12_foresee_124 rfl).mpr ?_
      refine (zq_iconst (v := 1) dX12_foresee_125 (by decide)).mpr ?_
      refine (zq_icmp_ne (t := 147) dX12_foresee_126 rfl).mpr ⟨fun c => ?_, fun c => ?_⟩
      · replace h := h.1 c
        refine (zq_iload_n dX12_foresee_147 rfl).mpr ?_
        refine (zq_iconst (v := 2) dX12_foresee_148 (by decide)).mpr ?_
        refine (zq_icmp_ne (t := 162) dX12_foresee_149 rfl).mpr ⟨fun c => ?_, fun c => ?_⟩
        · replace h := h.1 c
          refine (zq_iload_n dX12_foresee_162 rfl).mpr ?_
          exact (zq_iret dX12_foresee_163 rfl).mpr ⟨trivial, h⟩
        · replace h := h.2 c
          refine (zq_aload_n dX12_foresee_152 rfl).mpr ?_
          obtain ⟨g1, h⟩ := h
          refine (zq_getR2 (f := 785) (v := (mR m 785 a0)) dX12_foresee_153 fl_12_42 (by decide) rfl rfl (by first | rfl | simp only [zm_Is, zm_Rs, zm_As, zm_Os, zm_In0, zm_Rn0])).mpr ⟨g1, ?_⟩
          obtain ⟨g4, h⟩ := h
          refine zq_virtualI (n := 0) dX12_foresee_156 mr_12_303 zn_145 rfl rfl rfl (zrcv_R zo_145 (by decide) g4) (Nat.le_of_ble_eq_true rfl) ?_
          refine h.mono (fun r m2 h => ?_)
          obtain ⟨v3, rfl, h⟩ := h
          refine ⟨_, rfl, ?_⟩
          refine (zq_goto (t := 163) dX12_foresee_159 rfl).mpr ?_
          exact (zq_iret dX12_foresee_163 rfl).mpr ⟨trivial, h⟩
      · replace h := h.2 c
        refine (zq_aload_n dX12_foresee_129 rfl).mpr ?_
        obtain ⟨g5, h⟩ := h
        refine (zq_getR2 (f := 785) (v := (mR m 785 a0)) dX12_foresee_130 fl_12_42 (by decide) rfl rfl (by first | rfl | simp only [zm_Is, zm_Rs, zm_As, zm_Os, zm_In0, zm_Rn0])).mpr ⟨g5, ?_⟩
        obtain ⟨g6, h⟩ := h
        refine (zq_getI2 (f := 737) (v := (mI m 737 (mR m 785 a0))) dX12_foresee_133 fl_12_327 (by decide) rfl rfl (by first | rfl | simp only [zm_Is, zm_Rs, zm_As, zm_Os, zm_In0, zm_Rn0])).mpr ⟨g6, ?_⟩
        refine (zq_aload_n dX12_foresee_136 rfl).mpr ?_
        refine (zq_getR2 (f := 784) (v := (mR m 784 a0)) dX12_foresee_137 fl_12_38 (by decide) rfl rfl (by first | rfl | simp only [zm_Is, zm_Rs, zm_As, zm_Os, zm_In0, zm_Rn0])).mpr ⟨g5, ?_⟩
        obtain ⟨g7, h⟩ := h
        refine (zq_getI2 (f := 737) (v := (mI m 737 (mR m 784 a0))) dX12_foresee_140 fl_12_327 (by decide) rfl rfl (by first | rfl | simp only [zm_Is, zm_Rs, zm_As, zm_Os, zm_In0, zm_Rn0])).mpr ⟨g7, ?_⟩
        refine (zq_isub dX12_foresee_143).mpr ?_
        refine (zq_goto (t := 163) dX12_foresee_144 rfl).mpr ?_
        exact (zq_iret dX12_foresee_163 rfl).mpr ⟨trivial, h⟩
    · replace h := h.2 c
      refine (zq_aload_n dX12_foresee_106 rfl).mpr ?_
      obtain ⟨g8, h⟩ := h
      refine (zq_getR2 (f := 785) (v := (mR m 785 a0)) dX12_foresee_107 fl_12_42 (by decide) rfl rfl (by first | rfl | simp only [zm_Is, zm_Rs, zm_As, zm_Os, zm_In0, zm_Rn0])).mpr ⟨g8, ?_⟩
      obtain ⟨g9, h⟩ := h
      refine (zq_getI2 (f := 736) (v := (mI m 736 (mR m 785 a0))) dX12_foresee_110 fl_12_306 (by decide) rfl rfl (by first | rfl | simp only [zm_Is, zm_Rs, zm_As, zm_Os, zm_In0, zm_Rn0])).mpr ⟨g9, ?_⟩
      refine (zq_aload_n dX12_foresee_113 rfl).mpr ?_
      refine (zq_getR2 (f := 784) (v := (mR m 784 a0)) dX12_foresee_114 fl_12_38 (by decide) rfl rfl (by first | rfl | simp only [zm_Is, zm_Rs, zm_As, zm_Os, zm_In0, zm_Rn0])).mpr ⟨g8, ?_⟩
      obtain ⟨g10, h⟩ := h
      refine (zq_getI2 (f := 736) (v := (mI m 736 (mR m 784 a0))) dX12_foresee_117 fl_12_306 (by decide) rfl rfl (by first | rfl | simp only [zm_Is, zm_Rs, zm_As, zm_Os, zm_In0, zm_Rn0])).mpr ⟨g10, ?_⟩
      refine (zq_isub dX12_foresee_120).mpr ?_
      refine (zq_goto (t := 163) dX12_foresee_121 rfl).mpr ?_
      exact (zq_iret dX12_foresee_163 rfl).mpr ⟨trivial, h⟩
  · replace h := h.2 c
    refine (zq_aload_n dX12_foresee_59 rfl).mpr ?_
    obtain ⟨g11, h⟩ := h
    refine (zq_getR2 (f := 785) (v := (mR m 785 a0)) dX12_foresee_60 fl_12_42 (by decide) rfl rfl (by first | rfl | simp only [zm_Is, zm_Rs, zm_As, zm_Os, zm_In0, zm_Rn0])).mpr ⟨g11, ?_⟩
    obtain ⟨g14, h⟩ := h
    refine zq_virtualV (n := 0) dX12_foresee_63 mr_12_309 zn_147 rfl rfl rfl (zrcv_R zo_147 (by decide) g14) (Nat.le_of_ble_eq_true rfl) ?_
    refine h.mono (fun r m12 h => ?_)
    obtain ⟨rfl, h⟩ := h
    refine ⟨rfl, ?_⟩
    refine (zq_iload_n dX12_foresee_66 rfl).mpr ?_
    refine (zq_iconst (v := (-1)) dX12_foresee_67 (by decide)).mpr ?_
    refine (zq_icmp_ne (t := 96) dX12_foresee_68 rfl).mpr ⟨fun c => ?_, fun c => ?_⟩
    · replace h := h.1 c
      refine (zq_iinc (l := [zR a0, zI a1, zI a2, zI a3, zI (wr (a4 + 1))]) dX12_foresee_96 rfl rfl).mpr ?_
      refine (zq_goto (t := 53) dX12_foresee_99 rfl).mpr ?_
      exact h
    · replace h := h.2 c
      refine (zq_aload_n dX12_foresee_71 rfl).mpr ?_
      obtain ⟨g15, h⟩ := h
      refine (zq_getR2 (f := 785) (v := (mR m12 785 a0)) dX12_foresee_72 fl_12_42 (by decide) rfl rfl (by first | rfl | simp only [zm_Is, zm_Rs, zm_As, zm_Os, zm_In0, zm_Rn0])).mpr ⟨g15, ?_⟩
      obtain ⟨g16, h⟩ := h
      refine (zq_getI2 (f := 736) (v := (mI m12 736 (mR m12 785 a0))) dX12_foresee_75 fl_12_306 (by decide) rfl rfl (by first | rfl | simp only [zm_Is, zm_Rs, zm_As, zm_Os, zm_In0, zm_Rn0])).mpr ⟨g16, ?_⟩
      refine (zq_aload_n dX12_foresee_78 rfl).mpr ?_
      refine (zq_getR2 (f := 784) (v := (mR m12 784 a0)) dX12_foresee_79 fl_12_38 (by decide) rfl rfl (by first | rfl | simp only [zm_Is, zm_Rs, zm_As, zm_Os, zm_In0, zm_Rn0])).mpr ⟨g15, ?_⟩
      obtain ⟨g17, h⟩ := h
      refine (zq_getI2 (f := 736) (v := (mI m12 736 (mR m12 784 a0))) dX12_foresee_82 fl_12_306 (by decide) rfl rfl (by first | rfl | simp only [zm_Is, zm_Rs, zm_As, zm_Os, zm_In0, zm_Rn0])).mpr ⟨g17, ?_⟩
      refine (zq_icmp_le (t := 96) dX12_foresee_85 rfl).mpr ⟨fun c => ?_, fun c => ?_⟩
      · replace h := h.1 c
        refine (zq_iinc (l := [zR a0, zI a1, zI a2, zI a3, zI (wr (a4 + 1))]) dX12_foresee_96 rfl rfl).mpr ?_
        refine (zq_goto (t := 53) dX12_foresee_99 rfl).mpr ?_
        exact h
      · replace h := h.2 c
        refine (zq_aload_n dX12_foresee_88 rfl).mpr ?_
        refine (zq_getR2 (f := 785) (v := (mR m12 785 a0)) dX12_foresee_89 fl_12_42 (by decide) rfl rfl (by first | rfl | simp only [zm_Is, zm_Rs, zm_As, zm_Os, zm_In0, zm_Rn0])).mpr ⟨g15, ?_⟩
        refine (zq_getI2 (f := 704) (v := (mI m12 704 (mR m12 785 a0))) dX12_foresee_92 fl_12_271 (by decide) rfl rfl (by first | rfl | simp only [zm_Is, zm_Rs, zm_As, zm_Os, zm_In0, zm_Rn0])).mpr ⟨g16, ?_⟩
        refine (zq_istore_n (l := [zR a0, zI a1, zI a2, zI (mI m12 704 (mR m12 785 a0)), zI a4]) dX12_foresee_95 (Nat.le_of_ble_eq_true rfl) rfl).mpr ?_
        refine (zq_iinc (l := [zR a0, zI a1, zI a2, zI (mI m12 704 (mR m12 785 a0)), zI (wr (a4 + 1))]) dX12_foresee_96 rfl rfl).mpr ?_
        refine (zq_goto (t := 53) dX12_foresee_99 rfl).mpr ?_
        exact h
theorem bX12_flaw_0 {a0 : Nat} (h : (mC m a0 = 13) ∧ zW xs xl d cX12_flaw 12 (some .double) false [] 11 [zR a0, zI 0, zI 0, zI 0] [] (sI m 768 a0 0) Q) : zC xs xl (d + 1) 207 [zR a0] m Q := by
  refine zk_207 ?_
  refine (zq_aload_n dX12_flaw_0 rfl).mpr ?_
  refine (zq_iconst (v := 0) dX12_flaw_1 (by decide)).mpr ?_
  obtain ⟨g1, h⟩ := h
  refine (zq_putI (f := 768) dX12_flaw_2 fl_12_45 (by decide) rfl rfl rfl).mpr ⟨g1, ?_⟩
  refine (zq_iconst (v := 0) dX12_flaw_5 (by decide)).mpr ?_
  refine (zq_istore_n (l := [zR a0, zI 0, zU, zU]) dX12_flaw_6 (Nat.le_of_ble_eq_true rfl) rfl).mpr ?_
  refine (zq_iconst (v := 0) dX12_flaw_7 (by decide)).mpr ?_
  refine (zq_istore_n (l := [zR a0, zI 0, zI 0, zU]) dX12_flaw_8 (Nat.le_of_ble_eq_true rfl) rfl).mpr ?_
  refine (zq_iconst (v := 0) dX12_flaw_9 (by decide)).mpr ?_
  refine (zq_istore_n (l := [zR a0, zI 0, zI 0, zI 0]) dX12_flaw_10 (Nat.le_of_ble_eq_true rfl) rfl).mpr ?_
  exact h
theorem bX12_flaw_11 {a0 : Nat} {a1 : Int} {a2 : Int} {a3 : Int} (h : (mC m a0 = 13) ∧ zC xs xl d 204 [zR a0] m (fun r m1 => ∃ v2 : Int, r = .inl (some (zI v2)) ∧ ((v2 ≤ a3 → ((a2 ≠ 0 → (vf_n64 (FP.ddiv (FP.i2d (Int32.ofInt a1)) (FP.i2d (Int32.ofInt a2)))) ∧ Q (.inl (some (zD (FP.ddiv (FP.i2d (Int32.ofInt a1)) (FP.i2d (Int32.ofInt a2)))))) m1) ∧ (¬ (a2 ≠ 0) → Q (.inl (some (zD FP.dconst0))) m1))) ∧ (¬ (v2 ≤ a3) → (mC m1 a0 = 13) ∧ (mC m1 (mR m1 784 a0) = 12) ∧ (mC m1 (mR m1 739 (mR m1 784 a0)) = 20) ∧ (0 ≤ (wr ((wr (6 * a3)) + 3)) ∧ (wr ((wr (6 * a3)) + 3)) < mN m1 (mR m1 739 (mR m1 784 a0))) ∧ (0 ≤ (wr ((wr (6 * a3)) + 2)) ∧ (wr ((wr (6 * a3)) + 2)) < mN m1 (mR m1 739 (mR m1 784 a0))) ∧ zW xs xl d cX12_flaw 12 (some .double) false [] 11 [zR a0, zI (wr (a1 + (mA m1 (mR m1 739 (mR m1 784 a0)) (Int.toNat (wr ((wr (6 * a3)) + 3)))))), zI (wr (a2 + (mA m1 (mR m1 739 (mR m1 784 a0)) (Int.toNat (wr ((wr (6 * a3)) + 2)))))), zI (wr (a3 + 1))] [] m1 Q)))) : zW xs xl d cX12_flaw 12 (some .double) false [] 11 [zR a0, zI a1, zI a2, zI a3] [] m Q := by
  refine (zq_iload_n dX12_flaw_11 rfl).mpr ?_
  refine (zq_aload_n dX12_flaw_12 rfl).mpr ?_
  obtain ⟨g3, h⟩ := h
  refine zq_virtualI (n := 0) dX12_flaw_13 mr_12_317 zn_204 rfl rfl rfl (zrcv_R zo_204 (by decide) g3) (Nat.le_of_ble_eq_true rfl) ?_
  refine h.mono (fun r m1 h => ?_)
  obtain ⟨v2, rfl, h⟩ := h
  refine ⟨_, rfl, ?_⟩
  refine (zq_icmp_ge (t := 59) dX12_flaw_16 rfl).mpr ⟨fun c => ?_, fun c => ?_⟩
  · replace h := h.1 c
    refine (zq_iload_n dX12_flaw_59 rfl).mpr ?_
    refine (zq_if_ne (t := 67) dX12_flaw_60 rfl).mpr ⟨fun c => ?_, fun c => ?_⟩
    · replace h := h.1 c
      refine (zq_iload_n dX12_flaw_67 rfl).mpr ?_
      refine (zq_i2d dX12_flaw_68).mpr ?_
      refine (zq_iload_n dX12_flaw_69 rfl).mpr ?_
      refine (zq_i2d dX12_flaw_70).mpr ?_
      obtain ⟨g4, h⟩ := h
      refine (zq_ddiv dX12_flaw_71).mpr ⟨g4, ?_⟩
      exact (zq_dret dX12_flaw_72 rfl).mpr h
    · replace h := h.2 c
      refine (zq_dconst dX12_flaw_63).mpr ?_
      refine (zq_goto (t := 72) dX12_flaw_64 rfl).mpr ?_
      exact (zq_dret dX12_flaw_72 rfl).mpr h
  · replace h := h.2 c
    refine (zq_iload_n dX12_flaw_19 rfl).mpr ?_
    refine (zq_aload_n dX12_flaw_20 rfl).mpr ?_
    obtain ⟨g5, h⟩ := h
    refine (zq_getR2 (f := 784) (v := (mR m1 784 a0)) dX12_flaw_21 fl_12_38 (by decide) rfl rfl (by first | rfl | simp only [zm_Is, zm_Rs, zm_As, zm_Os, zm_In0, zm_Rn0])).mpr ⟨g5, ?_⟩
    obtain ⟨g6, h⟩ := h
    refine (zq_getR2 (f := 739) (v := (mR m1 739 (mR m1 784 a0))) dX12_flaw_24 fl_12_320 (by decide) rfl rfl (by first | rfl | simp only [zm_Is, zm_Rs, zm_As, zm_Os, zm_In0, zm_Rn0])).mpr ⟨g6, ?_⟩
    refine (zq_bipush (v := 6) dX12_flaw_27 (by decide)).mpr ?_
    refine (zq_iload_n dX12_flaw_29 rfl).mpr ?_
    refine (zq_imul dX12_flaw_30).mpr ?_
    refine (zq_iconst (v := 3) dX12_flaw_31 (by decide)).mpr ?_
    refine (zq_iadd dX12_flaw_32).mpr ?_
    obtain ⟨g7, h⟩ := h
    obtain ⟨g8, h⟩ := h
    refine (zq_iald2 (v := (mA m1 (mR m1 739 (mR m1 784 a0)) (Int.toNat (wr ((wr (6 * a3)) + 3))))) dX12_flaw_33 (by first | rfl | simp only [zm_Is, zm_Rs, zm_As, zm_Os, zm_In0, zm_Rn0])).mpr ⟨⟨g7, g8⟩, ?_⟩
    refine (zq_iadd dX12_flaw_34).mpr ?_
    refine (zq_istore_n (l := [zR a0, zI (wr (a1 + (mA m1 (mR m1 739 (mR m1 784 a0)) (Int.toNat (wr ((wr (6 * a3)) + 3)))))), zI a2, zI a3]) dX12_flaw_35 (Nat.le_of_ble_eq_true rfl) rfl).mpr ?_
    refine (zq_iload_n dX12_flaw_36 rfl).mpr ?_
    refine (zq_aload_n dX12_flaw_37 rfl).mpr ?_
    refine (zq_getR2 (f := 784) (v := (mR m1 784 a0)) dX12_flaw_38 fl_12_38 (by decide) rfl rfl (by first | rfl | simp only [zm_Is, zm_Rs, zm_As, zm_Os, zm_In0, zm_Rn0])).mpr ⟨g5, ?_⟩
    refine (zq_getR2 (f := 739) (v := (mR m1 739 (mR m1 784 a0))) dX12_flaw_41 fl_12_320 (by decide) rfl rfl (by first | rfl | simp only [zm_Is, zm_Rs, zm_As, zm_Os, zm_In0, zm_Rn0])).mpr ⟨g6, ?_⟩
    refine (zq_bipush (v := 6) dX12_flaw_44 (by decide)).mpr ?_
    refine (zq_iload_n dX12_flaw_46 rfl).mpr ?_
    refine (zq_imul dX12_flaw_47).mpr ?_
    refine (zq_iconst (v := 2) dX12_flaw_48 (by decide)).mpr ?_
    refine (zq_iadd dX12_flaw_49).mpr ?_
    obtain ⟨g9, h⟩ := h
    refine (zq_iald2 (v := (mA m1 (mR m1 739 (mR m1 784 a0)) (Int.toNat (wr ((wr (6 * a3)) + 2))))) dX12_flaw_50 (by first | rfl | simp only [zm_Is, zm_Rs, zm_As, zm_Os, zm_In0, zm_Rn0])).mpr ⟨⟨g7, g9⟩, ?_⟩
    refine (zq_iadd dX12_flaw_51).mpr ?_
    refine (zq_istore_n (l := [zR a0, zI (wr (a1 + (mA m1 (mR m1 739 (mR m1 784 a0)) (Int.toNat (wr ((wr (6 * a3)) + 3)))))), zI (wr (a2 + (mA m1 (mR m1 739 (mR m1 784 a0)) (Int.toNat (wr ((wr (6 * a3)) + 2)))))), zI a3]) dX12_flaw_52 (Nat.le_of_ble_eq_true rfl) rfl).mpr ?_
    refine (zq_iinc (l := [zR a0, zI (wr (a1 + (mA m1 (mR m1 739 (mR m1 784 a0)) (Int.toNat (wr ((wr (6 * a3)) + 3)))))), zI (wr (a2 + (mA m1 (mR m1 739 (mR m1 784 a0)) (Int.toNat (wr ((wr (6 * a3)) + 2)))))), zI (wr (a3 + 1))]) dX12_flaw_53 rfl rfl).mpr ?_
    refine (zq_goto (t := 11) dX12_flaw_56 rfl).mpr ?_
    exact h
theorem bX12_digest_0 {a0 : Nat} (h : (mC m a0 = 13) ∧ zW xs xl d cX12_digest 12 (some .long) false [] 11 [zR a0, zL 467, zU, zI 0, zU] [] (sI m 768 a0 0) Q) : zC xs xl (d + 1) 208 [zR a0] m Q := by
  refine zk_208 ?_
  refine (zq_aload_n dX12_digest_0 rfl).mpr ?_
  refine (zq_iconst (v := 0) dX12_digest_1 (by decide)).mpr ?_
  obtain ⟨g1, h⟩ := h
  refine (zq_putI (f := 768) dX12_digest_2 fl_12_45 (by decide) rfl rfl rfl).mpr ⟨g1, ?_⟩
  refine (zq_ldc2 dX12_digest_5 cq_12_330).mpr ?_
  refine (zq_lstore_n (l := [zR a0, zL 467, zU, zU, zU]) dX12_digest_8 (Nat.le_of_ble_eq_true rfl) rfl).mpr ?_
  refine (zq_iconst (v := 0) dX12_digest_9 (by decide)).mpr ?_
  refine (zq_istore_n (l := [zR a0, zL 467, zU, zI 0, zU]) dX12_digest_10 (Nat.le_of_ble_eq_true rfl) rfl).mpr ?_
  exact h
theorem bX12_digest_11 {a0 : Nat} {a1 : Int} {a2 : zV} {a3 : Int} {a4 : zV} (h : ((9 ≤ a3 → zW xs xl d cX12_digest 12 (some .long) false [] 41 [zR a0, zL a1, (zcl a2), zI 0, a4] [] m Q) ∧ (¬ (9 ≤ a3) → (mC m a0 = 13) ∧ (mC m (mR m 784 a0) = 12) ∧ zC xs xl d 159 [zR (mR m 784 a0), zI a3] m (fun r m2 => ∃ v3 : Int, r = .inl (some (zI v3)) ∧ zW xs xl d cX12_digest 12 (some .long) false [] 11 [zR a0, zL (wl ((wl (a1 * 31)) + v3)), zU, zI (wr (a3 + 1)), a4] [] m2 Q)))) : zW xs xl d cX12_digest 12 (some .long) false [] 11 [zR a0, zL a1, a2, zI a3, a4] [] m Q := by
  refine (zq_iload_n dX12_digest_11 rfl).mpr ?_
  refine (zq_bipush (v := 9) dX12_digest_12 (by decide)).mpr ?_
  refine (zq_icmp_ge (t := 39) dX12_digest_14 rfl).mpr ⟨fun c => ?_, fun c => ?_⟩
  · replace h := h.1 c
    refine (zq_iconst (v := 0) dX12_digest_39 (by decide)).mpr ?_
    refine (zq_istore_n (l := [zR a0, zL a1, (zcl a2), zI 0, a4]) dX12_digest_40 (Nat.le_of_ble_eq_true rfl) rfl).mpr ?_
    exact h
  · replace h := h.2 c
    refine (zq_lload_n dX12_digest_17 rfl).mpr ?_
    refine (zq_ldc2 dX12_digest_18 cq_12_332).mpr ?_
    refine (zq_lmul dX12_digest_21).mpr ?_
    refine (zq_aload_n dX12_digest_22 rfl).mpr ?_
    obtain ⟨g1, h⟩ := h
    refine (zq_getR2 (f := 784) (v := (mR m 784 a0)) dX12_digest_23 fl_12_38 (by decide) rfl rfl (by first | rfl | simp only [zm_Is, zm_Rs, zm_As, zm_Os, zm_In0, zm_Rn0])).mpr ⟨g1, ?_⟩
    refine (zq_iload_n dX12_digest_26 rfl).mpr ?_
    obtain ⟨g4, h⟩ := h
    refine zq_virtualI (n := 1) dX12_digest_27 mr_12_274 zn_159 rfl rfl rfl (zrcv_R zo_159 (by decide) g4) (Nat.le_of_ble_eq_true rfl) ?_
    refine h.mono (fun r m2 h => ?_)
    obtain ⟨v3, rfl, h⟩ := h
    refine ⟨_, rfl, ?_⟩
    refine (zq_i2l dX12_digest_30).mpr ?_
    refine (zq_ladd dX12_digest_31).mpr ?_
    refine (zq_lstore_n (l := [zR a0, zL (wl ((wl (a1 * 31)) + v3)), zU, zI a3, a4]) dX12_digest_32 (Nat.le_of_ble_eq_true rfl) rfl).mpr ?_
    refine (zq_iinc (l := [zR a0, zL (wl ((wl (a1 * 31)) + v3)), zU, zI (wr (a3 + 1)), a4]) dX12_digest_33 rfl rfl).mpr ?_
    refine (zq_goto (t := 11) dX12_digest_36 rfl).mpr ?_
    exact h
theorem bX12_digest_41 {a0 : Nat} {a1 : Int} {a2 : zV} {a3 : Int} {a4 : zV} (h : ((6 ≤ a3 → zW xs xl d cX12_digest 12 (some .long) false [] 85 [zR a0, zL a1, (zcl a2), zI 0, a4] [] m Q) ∧ (¬ (6 ≤ a3) → zW xs xl d cX12_digest 12 (some .long) false [] 50 [zR a0, zL a1, a2, zI a3, zI 0] [] m Q))) : zW xs xl d cX12_digest 12 (some .long) false [] 41 [zR a0, zL a1, a2, zI a3, a4] [] m Q := by
  refine (zq_iload_n dX12_digest_41 rfl).mpr ?_
  refine (zq_bipush (v := 6) dX12_digest_42 (by decide)).mpr ?_
  refine (zq_icmp_ge (t := 83) dX12_digest_44 rfl).mpr ⟨fun c => ?_, fun c => ?_⟩
  · replace h := h.1 c
    refine (zq_iconst (v := 0) dX12_digest_83 (by decide)).mpr ?_
    refine (zq_istore_n (l := [zR a0, zL a1, (zcl a2), zI 0, a4]) dX12_digest_84 (Nat.le_of_ble_eq_true rfl) rfl).mpr ?_
    exact h
  · replace h := h.2 c
    refine (zq_iconst (v := 0) dX12_digest_47 (by decide)).mpr ?_
    refine (zq_istore (l := [zR a0, zL a1, a2, zI a3, zI 0]) dX12_digest_48 (Nat.le_of_ble_eq_true rfl) rfl).mpr ?_
    exact h
theorem bX12_digest_50 {a0 : Nat} {a1 : Int} {a2 : zV} {a3 : Int} {a4 : Int} (h : ((4 ≤ a4 → zW xs xl d cX12_digest 12 (some .long) false [] 41 [zR a0, zL a1, (zcl a2), zI (wr (a3 + 1)), zI a4] [] m Q) ∧ (¬ (4 ≤ a4) → (mC m a0 = 13) ∧ zC xs xl d 184 [zR a0, zI a3, zI a4] m (fun r m1 => ∃ v2 : Int, r = .inl (some (zI v2)) ∧ zW xs xl d cX12_digest 12 (some .long) false [] 50 [zR a0, zL (wl ((wl (a1 * 31)) + v2)), zU, zI a3, zI (wr (a4 + 1))] [] m1 Q)))) : zW xs xl d cX12_digest 12 (some .long) false [] 50 [zR a0, zL a1, a2, zI a3, zI a4] [] m Q := by
  refine (zq_iload dX12_digest_50 rfl).mpr ?_
  refine (zq_iconst (v := 4) dX12_digest_52 (by decide)).mpr ?_
  refine (zq_icmp_ge (t := 77) dX12_digest_53 rfl).mpr ⟨fun c => ?_, fun c => ?_⟩
  · replace h := h.1 c
    refine (zq_iinc (l := [zR a0, zL a1, (zcl a2), zI (wr (a3 + 1)), zI a4]) dX12_digest_77 rfl rfl).mpr ?_
    refine (zq_goto (t := 41) dX12_digest_80 rfl).mpr ?_
    exact h
  · replace h := h.2 c
    refine (zq_lload_n dX12_digest_56 rfl).mpr ?_
    refine (zq_ldc2 dX12_digest_57 cq_12_332).mpr ?_
    refine (zq_lmul dX12_digest_60).mpr ?_
    refine (zq_aload_n dX12_digest_61 rfl).mpr ?_
    refine (zq_iload_n dX12_digest_62 rfl).mpr ?_
    refine (zq_iload dX12_digest_63 rfl).mpr ?_
    obtain ⟨g3, h⟩ := h
    refine zq_virtualI (n := 2) dX12_digest_65 mr_12_174 zn_184 rfl rfl rfl (zrcv_R zo_184 (by decide) g3) (Nat.le_of_ble_eq_true rfl) ?_
    refine h.mono (fun r m1 h => ?_)
    obtain ⟨v2, rfl, h⟩ := h
    refine ⟨_, rfl, ?_⟩
    refine (zq_i2l dX12_digest_68).mpr ?_
    refine (zq_ladd dX12_digest_69).mpr ?_
    refine (zq_lstore_n (l := [zR a0, zL (wl ((wl (a1 * 31)) + v2)), zU, zI a3, zI a4]) dX12_digest_70 (Nat.le_of_ble_eq_true rfl) rfl).mpr ?_
    refine (zq_iinc (l := [zR a0, zL (wl ((wl (a1 * 31)) + v2)), zU, zI a3, zI (wr (a4 + 1))]) dX12_digest_71 rfl rfl).mpr ?_
    refine (zq_goto (t := 50) dX12_digest_74 rfl).mpr ?_
    exact h
theorem bX12_digest_85 {a0 : Nat} {a1 : Int} {a2 : zV} {a3 : Int} {a4 : zV} (h : (mC m a0 = 13) ∧ (mC m (mR m 784 a0) = 12) ∧ (((mI m 705 (mR m 784 a0)) ≤ a3 → zW xs xl d cX12_digest 12 (some .long) false [] 134 [zR a0, zL a1, (zcl a2), zI 0, a4] [] m Q) ∧ (¬ ((mI m 705 (mR m 784 a0)) ≤ a3) → zW xs xl d cX12_digest 12 (some .long) false [] 99 [zR a0, zL a1, a2, zI a3, zI 0] [] m Q))) : zW xs xl d cX12_digest 12 (some .long) false [] 85 [zR a0, zL a1, a2, zI a3, a4] [] m Q := by
  refine (zq_iload_n dX12_digest_85 rfl).mpr ?_
  refine (zq_aload_n dX12_digest_86 rfl).mpr ?_
  obtain ⟨g1, h⟩ := h
  refine (zq_getR2 (f := 784) (v := (mR m 784 a0)) dX12_digest_87 fl_12_38 (by decide) rfl rfl (by first | rfl | simp only [zm_Is, zm_Rs, zm_As, zm_Os, zm_In0, zm_Rn0])).mpr ⟨g1, ?_⟩
  obtain ⟨g2, h⟩ := h
  refine (zq_getI2 (f := 705) (v := (mI m 705 (mR m 784 a0))) dX12_digest_90 fl_12_178 (by decide) rfl rfl (by first | rfl | simp only [zm_Is, zm_Rs, zm_As, zm_Os, zm_In0, zm_Rn0])).mpr ⟨g2, ?_⟩
  refine (zq_icmp_ge (t := 132) dX12_digest_93 rfl).mpr ⟨fun c => ?_, fun c => ?_⟩
  · replace h := h.1 c
    refine (zq_iconst (v := 0) dX12_digest_132 (by decide)).mpr ?_
    refine (zq_istore_n (l := [zR a0, zL a1, (zcl a2), zI 0, a4]) dX12_digest_133 (Nat.le_of_ble_eq_true rfl) rfl).mpr ?_
    exact h
  · replace h := h.2 c
    refine (zq_iconst (v := 0) dX12_digest_96 (by decide)).mpr ?_
    refine (zq_istore (l := [zR a0, zL a1, a2, zI a3, zI 0]) dX12_digest_97 (Nat.le_of_ble_eq_true rfl) rfl).mpr ?_
    exact h
theorem bX12_digest_99 {a0 : Nat} {a1 : Int} {a2 : zV} {a3 : Int} {a4 : Int} (h : ((5 ≤ a4 → zW xs xl d cX12_digest 12 (some .long) false [] 85 [zR a0, zL a1, (zcl a2), zI (wr (a3 + 1)), zI a4] [] m Q) ∧ (¬ (5 ≤ a4) → (mC m a0 = 13) ∧ zC xs xl d 189 [zR a0, zI a3, zI a4] m (fun r m1 => ∃ v2 : Int, r = .inl (some (zI v2)) ∧ zW xs xl d cX12_digest 12 (some .long) false [] 99 [zR a0, zL (wl ((wl (a1 * 31)) + v2)), zU, zI a3, zI (wr (a4 + 1))] [] m1 Q)))) : zW xs xl d cX12_digest 12 (some .long) false [] 99 [zR a0, zL a1, a2, zI a3, zI a4] [] m Q := by
  refine (zq_iload dX12_digest_99 rfl).mpr ?_
  refine (zq_iconst (v := 5) dX12_digest_101 (by decide)).mpr ?_
  refine (zq_icmp_ge (t := 126) dX12_digest_102 rfl).mpr ⟨fun c => ?_, fun c => ?_⟩
  · replace h := h.1 c
    refine (zq_iinc (l := [zR a0, zL a1, (zcl a2), zI (wr (a3 + 1)), zI a4]) dX12_digest_126 rfl rfl).mpr ?_
    refine (zq_goto (t := 85) dX12_digest_129 rfl).mpr ?_
    exact h
  · replace h := h.2 c
    refine (zq_lload_n dX12_digest_105 rfl).mpr ?_
    refine (zq_ldc2 dX12_digest_106 cq_12_332).mpr ?_
    refine (zq_lmul dX12_digest_109).mpr ?_
    refine (zq_aload_n dX12_digest_110 rfl).mpr ?_
    refine (zq_iload_n dX12_digest_111 rfl).mpr ?_
    refine (zq_iload dX12_digest_112 rfl).mpr ?_
    obtain ⟨g3, h⟩ := h
    refine zq_virtualI (n := 2) dX12_digest_114 mr_12_210 zn_189 rfl rfl rfl (zrcv_R zo_189 (by decide) g3) (Nat.le_of_ble_eq_true rfl) ?_
    refine h.mono (fun r m1 h => ?_)
    obtain ⟨v2, rfl, h⟩ := h
    refine ⟨_, rfl, ?_⟩
    refine (zq_i2l dX12_digest_117).mpr ?_
    refine (zq_ladd dX12_digest_118).mpr ?_
    refine (zq_lstore_n (l := [zR a0, zL (wl ((wl (a1 * 31)) + v2)), zU, zI a3, zI a4]) dX12_digest_119 (Nat.le_of_ble_eq_true rfl) rfl).mpr ?_
    refine (zq_iinc (l := [zR a0, zL (wl ((wl (a1 * 31)) + v2)), zU, zI a3, zI (wr (a4 + 1))]) dX12_digest_120 rfl rfl).mpr ?_
    refine (zq_goto (t := 99) dX12_digest_123 rfl).mpr ?_
    exact h
theorem bX12_digest_134 {a0 : Nat} {a1 : Int} {a2 : zV} {a3 : Int} {a4 : zV} (h : ((5 ≤ a3 → zW xs xl d cX12_digest 12 (some .long) false [] 177 [zR a0, zL a1, (zcl a2), zI 0, a4] [] m Q) ∧ (¬ (5 ≤ a3) → zW xs xl d cX12_digest 12 (some .long) false [] 142 [zR a0, zL a1, a2, zI a3, zI 0] [] m Q))) : zW xs xl d cX12_digest 12 (some .long) false [] 134 [zR a0, zL a1, a2, zI a3, a4] [] m Q := by
  refine (zq_iload_n dX12_digest_134 rfl).mpr ?_
  refine (zq_iconst (v := 5) dX12_digest_135 (by decide)).mpr ?_
  refine (zq_icmp_ge (t := 175) dX12_digest_136 rfl).mpr ⟨fun c => ?_, fun c => ?_⟩
  · replace h := h.1 c
    refine (zq_iconst (v := 0) dX12_digest_175 (by decide)).mpr ?_
    refine (zq_istore_n (l := [zR a0, zL a1, (zcl a2), zI 0, a4]) dX12_digest_176 (Nat.le_of_ble_eq_true rfl) rfl).mpr ?_
    exact h
  · replace h := h.2 c
    refine (zq_iconst (v := 0) dX12_digest_139 (by decide)).mpr ?_
    refine (zq_istore (l := [zR a0, zL a1, a2, zI a3, zI 0]) dX12_digest_140 (Nat.le_of_ble_eq_true rfl) rfl).mpr ?_
    exact h
theorem bX12_digest_142 {a0 : Nat} {a1 : Int} {a2 : zV} {a3 : Int} {a4 : Int} (h : ((3 ≤ a4 → zW xs xl d cX12_digest 12 (some .long) false [] 134 [zR a0, zL a1, (zcl a2), zI (wr (a3 + 1)), zI a4] [] m Q) ∧ (¬ (3 ≤ a4) → (mC m a0 = 13) ∧ zC xs xl d 193 [zR a0, zI a3, zI a4] m (fun r m1 => ∃ v2 : Int, r = .inl (some (zI v2)) ∧ zW xs xl d cX12_digest 12 (some .long) false [] 142 [zR a0, zL (wl ((wl (a1 * 31)) + v2)), zU, zI a3, zI (wr (a4 + 1))] [] m1 Q)))) : zW xs xl d cX12_digest 12 (some .long) false [] 142 [zR a0, zL a1, a2, zI a3, zI a4] [] m Q := by
  refine (zq_iload dX12_digest_142 rfl).mpr ?_
  refine (zq_iconst (v := 3) dX12_digest_144 (by decide)).mpr ?_
  refine (zq_icmp_ge (t := 169) dX12_digest_145 rfl).mpr ⟨fun c => ?_, fun c => ?_⟩
  · replace h := h.1 c
    refine (zq_iinc (l := [zR a0, zL a1, (zcl a2), zI (wr (a3 + 1)), zI a4]) dX12_digest_169 rfl rfl).mpr ?_
    refine (zq_goto (t := 134) dX12_digest_172 rfl).mpr ?_
    exact h
  · replace h := h.2 c
    refine (zq_lload_n dX12_digest_148 rfl).mpr ?_
    refine (zq_ldc2 dX12_digest_149 cq_12_332).mpr ?_
    refine (zq_lmul dX12_digest_152).mpr ?_
    refine (zq_aload_n dX12_digest_153 rfl).mpr ?_
    refine (zq_iload_n dX12_digest_154 rfl).mpr ?_
    refine (zq_iload dX12_digest_155 rfl).mpr ?_
    obtain ⟨g3, h⟩ := h
    refine zq_virtualI (n := 2) dX12_digest_157 mr_12_228 zn_193 rfl rfl rfl (zrcv_R zo_193 (by decide) g3) (Nat.le_of_ble_eq_true rfl) ?_
    refine h.mono (fun r m1 h => ?_)
    obtain ⟨v2, rfl, h⟩ := h
    refine ⟨_, rfl, ?_⟩
    refine (zq_i2l dX12_digest_160).mpr ?_
    refine (zq_ladd dX12_digest_161).mpr ?_
    refine (zq_lstore_n (l := [zR a0, zL (wl ((wl (a1 * 31)) + v2)), zU, zI a3, zI a4]) dX12_digest_162 (Nat.le_of_ble_eq_true rfl) rfl).mpr ?_
    refine (zq_iinc (l := [zR a0, zL (wl ((wl (a1 * 31)) + v2)), zU, zI a3, zI (wr (a4 + 1))]) dX12_digest_163 rfl rfl).mpr ?_
    refine (zq_goto (t := 142) dX12_digest_166 rfl).mpr ?_
    exact h
theorem bX12_digest_177 {a0 : Nat} {a1 : Int} {a2 : zV} {a3 : Int} {a4 : zV} (h : (mC m a0 = 13) ∧ (mC m (mR m 784 a0) = 12) ∧ (((mI m 712 (mR m 784 a0)) ≤ a3 → zW xs xl d cX12_digest 12 (some .long) false [] 304 [zR a0, zL a1, (zcl a2), zI 0, a4] [] m Q) ∧ (¬ ((mI m 712 (mR m 784 a0)) ≤ a3) → zW xs xl d cX12_digest 12 (some .long) false [] 191 [zR a0, zL a1, a2, zI a3, zI 0] [] m Q))) : zW xs xl d cX12_digest 12 (some .long) false [] 177 [zR a0, zL a1, a2, zI a3, a4] [] m Q := by
  refine (zq_iload_n dX12_digest_177 rfl).mpr ?_
  refine (zq_aload_n dX12_digest_178 rfl).mpr ?_
  obtain ⟨g1, h⟩ := h
  refine (zq_getR2 (f := 784) (v := (mR m 784 a0)) dX12_digest_179 fl_12_38 (by decide) rfl rfl (by first | rfl | simp only [zm_Is, zm_Rs, zm_As, zm_Os, zm_In0, zm_Rn0])).mpr ⟨g1, ?_⟩
  obtain ⟨g2, h⟩ := h
  refine (zq_getI2 (f := 712) (v := (mI m 712 (mR m 784 a0))) dX12_digest_182 fl_12_231 (by decide) rfl rfl (by first | rfl | simp only [zm_Is, zm_Rs, zm_As, zm_Os, zm_In0, zm_Rn0])).mpr ⟨g2, ?_⟩
  refine (zq_icmp_ge (t := 302) dX12_digest_185 rfl).mpr ⟨fun c => ?_, fun c => ?_⟩
  · replace h := h.1 c
    refine (zq_iconst (v := 0) dX12_digest_302 (by decide)).mpr ?_
    refine (zq_istore_n (l := [zR a0, zL a1, (zcl a2), zI 0, a4]) dX12_digest_303 (Nat.le_of_ble_eq_true rfl) rfl).mpr ?_
    exact h
  · replace h := h.2 c
    refine (zq_iconst (v := 0) dX12_digest_188 (by decide)).mpr ?_
    refine (zq_istore (l := [zR a0, zL a1, a2, zI a3, zI 0]) dX12_digest_189 (Nat.le_of_ble_eq_true rfl) rfl).mpr ?_
    exact h
theorem bX12_digest_191 {a0 : Nat} {a1 : Int} {a2 : zV} {a3 : Int} {a4 : Int} (h : ((15 ≤ a4 → zW xs xl d cX12_digest 12 (some .long) false [] 225 [zR a0, zL a1, a2, zI a3, zI 0] [] m Q) ∧ (¬ (15 ≤ a4) → (mC m a0 = 13) ∧ (mC m (mR m 784 a0) = 12) ∧ zC xs xl d 158 [zR (mR m 784 a0), zI a3, zI a4] m (fun r m2 => ∃ v3 : Int, r = .inl (some (zI v3)) ∧ zW xs xl d cX12_digest 12 (some .long) false [] 191 [zR a0, zL (wl ((wl (a1 * 31)) + v3)), zU, zI a3, zI (wr (a4 + 1))] [] m2 Q)))) : zW xs xl d cX12_digest 12 (some .long) false [] 191 [zR a0, zL a1, a2, zI a3, zI a4] [] m Q := by
  refine (zq_iload dX12_digest_191 rfl).mpr ?_
  refine (zq_bipush (v := 15) dX12_digest_193 (by decide)).mpr ?_
  refine (zq_icmp_ge (t := 222) dX12_digest_195 rfl).mpr ⟨fun c => ?_, fun c => ?_⟩
  · replace h := h.1 c
    refine (zq_iconst (v := 0) dX12_digest_222 (by decide)).mpr ?_
    refine (zq_istore (l := [zR a0, zL a1, a2, zI a3, zI 0]) dX12_digest_223 (Nat.le_of_ble_eq_true rfl) rfl).mpr ?_
    exact h
  · replace h := h.2 c
    refine (zq_lload_n dX12_digest_198 rfl).mpr ?_
    refine (zq_ldc2 dX12_digest_199 cq_12_332).mpr ?_
    refine (zq_lmul dX12_digest_202).mpr ?_
    refine (zq_aload_n dX12_digest_203 rfl).mpr ?_
    obtain ⟨g1, h⟩ := h
    refine (zq_getR2 (f := 784) (v := (mR m 784 a0)) dX12_digest_204 fl_12_38 (by decide) rfl rfl (by first | rfl | simp only [zm_Is, zm_Rs, zm_As, zm_Os, zm_In0, zm_Rn0])).mpr ⟨g1, ?_⟩
    refine (zq_iload_n dX12_digest_207 rfl).mpr ?_
    refine (zq_iload dX12_digest_208 rfl).mpr ?_
    obtain ⟨g4, h⟩ := h
    refine zq_virtualI (n := 2) dX12_digest_210 mr_12_294 zn_158 rfl rfl rfl (zrcv_R zo_158 (by decide) g4) (Nat.le_of_ble_eq_true rfl) ?_
    refine h.mono (fun r m2 h => ?_)
    obtain ⟨v3, rfl, h⟩ := h
    refine ⟨_, rfl, ?_⟩
    refine (zq_i2l dX12_digest_213).mpr ?_
    refine (zq_ladd dX12_digest_214).mpr ?_
    refine (zq_lstore_n (l := [zR a0, zL (wl ((wl (a1 * 31)) + v3)), zU, zI a3, zI a4]) dX12_digest_215 (Nat.le_of_ble_eq_true rfl) rfl).mpr ?_
    refine (zq_iinc (l := [zR a0, zL (wl ((wl (a1 * 31)) + v3)), zU, zI a3, zI (wr (a4 + 1))]) dX12_digest_216 rfl rfl).mpr ?_
    refine (zq_goto (t := 191) dX12_digest_219 rfl).mpr ?_
    exact h
theorem bX12_digest_225 {a0 : Nat} {a1 : Int} {a2 : zV} {a3 : Int} {a4 : Int} (h : ((3 ≤ a4 → zW xs xl d cX12_digest 12 (some .long) false [] 262 [zR a0, zL a1, a2, zI a3, zI 0] [] m Q) ∧ (¬ (3 ≤ a4) → (mC m a0 = 13) ∧ (mC m (mR m 784 a0) = 12) ∧ (mC m (mR m 734 (mR m 784 a0)) = 20) ∧ (0 ≤ (wr ((wr (3 * a3)) + a4)) ∧ (wr ((wr (3 * a3)) + a4)) < mN m (mR m 734 (mR m 784 a0))) ∧ zW xs xl d cX12_digest 12 (some .long) false [] 225 [zR a0, zL (wl ((wl (a1 * 31)) + (mA m (mR m 734 (mR m 784 a0)) (Int.toNat (wr ((wr (3 * a3)) + a4)))))), zU, zI a3, zI (wr (a4 + 1))] [] m Q))) : zW xs xl d cX12_digest 12 (some .long) false [] 225 [zR a0, zL a1, a2, zI a3, zI a4] [] m Q := by
  refine (zq_iload dX12_digest_225 rfl).mpr ?_
  refine (zq_iconst (v := 3) dX12_digest_227 (by decide)).mpr ?_
  refine (zq_icmp_ge (t := 259) dX12_digest_228 rfl).mpr ⟨fun c => ?_, fun c => ?_⟩
  · replace h := h.1 c
    refine (zq_iconst (v := 0) dX12_digest_259 (by decide)).mpr ?_
    refine (zq_istore (l := [zR a0, zL a1, a2, zI a3, zI 0]) dX12_digest_260 (Nat.le_of_ble_eq_true rfl) rfl).mpr ?_
    exact h
  · replace h := h.2 c
    refine (zq_lload_n dX12_digest_231 rfl).mpr ?_
    refine (zq_ldc2 dX12_digest_232 cq_12_332).mpr ?_
    refine (zq_lmul dX12_digest_235).mpr ?_
    refine (zq_aload_n dX12_digest_236 rfl).mpr ?_
    obtain ⟨g1, h⟩ := h
    refine (zq_getR2 (f := 784) (v := (mR m 784 a0)) dX12_digest_237 fl_12_38 (by decide) rfl rfl (by first | rfl | simp only [zm_Is, zm_Rs, zm_As, zm_Os, zm_In0, zm_Rn0])).mpr ⟨g1, ?_⟩
    obtain ⟨g2, h⟩ := h
    refine (zq_getR2 (f := 734) (v := (mR m 734 (mR m 784 a0))) dX12_digest_240 fl_12_300 (by decide) rfl rfl (by first | rfl | simp only [zm_Is, zm_Rs, zm_As, zm_Os, zm_In0, zm_Rn0])).mpr ⟨g2, ?_⟩
    refine (zq_iconst (v := 3) dX12_digest_243 (by decide)).mpr ?_
    refine (zq_iload_n dX12_digest_244 rfl).mpr ?_
    refine (zq_imul dX12_digest_245).mpr ?_
    refine (zq_iload dX12_digest_246 rfl).mpr ?_
    refine (zq_iadd dX12_digest_248).mpr ?_
    obtain ⟨g3, h⟩ := h
    obtain ⟨g4, h⟩ := h
    refine (zq_iald2 (v := (mA m (mR m 734 (mR m 784 a0)) (Int.toNat (wr ((wr (3 * a3)) + a4))))) dX12_digest_249 (by first | rfl | simp only [zm_Is, zm_Rs, zm_As, zm_Os, zm_In0, zm_Rn0])).mpr ⟨⟨g3, g4⟩, ?_⟩
    refine (zq_i2l dX12_digest_250).mpr ?_
    refine (zq_ladd dX12_digest_251).mpr ?_
    refine (zq_lstore_n (l := [zR a0, zL (wl ((wl (a1 * 31)) + (mA m (mR m 734 (mR m 784 a0)) (Int.toNat (wr ((wr (3 * a3)) + a4)))))), zU, zI a3, zI a4]) dX12_digest_252 (Nat.le_of_ble_eq_true rfl) rfl).mpr ?_
    refine (zq_iinc (l := [zR a0, zL (wl ((wl (a1 * 31)) + (mA m (mR m 734 (mR m 784 a0)) (Int.toNat (wr ((wr (3 * a3)) + a4)))))), zU, zI a3, zI (wr (a4 + 1))]) dX12_digest_253 rfl rfl).mpr ?_
    refine (zq_goto (t := 225) dX12_digest_256 rfl).mpr ?_
    exact h
theorem bX12_digest_262 {a0 : Nat} {a1 : Int} {a2 : zV} {a3 : Int} {a4 : Int} (h : ((3 ≤ a4 → zW xs xl d cX12_digest 12 (some .long) false [] 177 [zR a0, zL a1, (zcl a2), zI (wr (a3 + 1)), zI a4] [] m Q) ∧ (¬ (3 ≤ a4) → (mC m a0 = 13) ∧ (mC m (mR m 784 a0) = 12) ∧ (mC m (mR m 735 (mR m 784 a0)) = 20) ∧ (0 ≤ (wr ((wr (3 * a3)) + a4)) ∧ (wr ((wr (3 * a3)) + a4)) < mN m (mR m 735 (mR m 784 a0))) ∧ zW xs xl d cX12_digest 12 (some .long) false [] 262 [zR a0, zL (wl ((wl (a1 * 31)) + (mA m (mR m 735 (mR m 784 a0)) (Int.toNat (wr ((wr (3 * a3)) + a4)))))), zU, zI a3, zI (wr (a4 + 1))] [] m Q))) : zW xs xl d cX12_digest 12 (some .long) false [] 262 [zR a0, zL a1, a2, zI a3, zI a4] [] m Q := by
  refine (zq_iload dX12_digest_262 rfl).mpr ?_
  refine (zq_iconst (v := 3) dX12_digest_264 (by decide)).mpr ?_
  refine (zq_icmp_ge (t := 296) dX12_digest_265 rfl).mpr ⟨fun c => ?_, fun c => ?_⟩
  · replace h := h.1 c
    refine (zq_iinc (l := [zR a0, zL a1, (zcl a2), zI (wr (a3 + 1)), zI a4]) dX12_digest_296 rfl rfl).mpr ?_
    refine (zq_goto (t := 177) dX12_digest_299 rfl).mpr ?_
    exact h
  · replace h := h.2 c
    refine (zq_lload_n dX12_digest_268 rfl).mpr ?_
    refine (zq_ldc2 dX12_digest_269 cq_12_332).mpr ?_
    refine (zq_lmul dX12_digest_272).mpr ?_
    refine (zq_aload_n dX12_digest_273 rfl).mpr ?_
    obtain ⟨g1, h⟩ := h
    refine (zq_getR2 (f := 784) (v := (mR m 784 a0)) dX12_digest_274 fl_12_38 (by decide) rfl rfl (by first | rfl | simp only [zm_Is, zm_Rs, zm_As, zm_Os, zm_In0, zm_Rn0])).mpr ⟨g1, ?_⟩
    obtain ⟨g2, h⟩ := h
    refine (zq_getR2 (f := 735) (v := (mR m 735 (mR m 784 a0))) dX12_digest_277 fl_12_297 (by decide) rfl rfl (by first | rfl | simp only [zm_Is, zm_Rs, zm_As, zm_Os, zm_In0, zm_Rn0])).mpr ⟨g2, ?_⟩
    refine (zq_iconst (v := 3) dX12_digest_280 (by decide)).mpr ?_
    refine (zq_iload_n dX12_digest_281 rfl).mpr ?_
    refine (zq_imul dX12_digest_282).mpr ?_
    refine (zq_iload dX12_digest_283 rfl).mpr ?_
    refine (zq_iadd dX12_digest_285).mpr ?_
    obtain ⟨g3, h⟩ := h
    obtain ⟨g4, h⟩ := h
    refine (zq_iald2 (v := (mA m (mR m 735 (mR m 784 a0)) (Int.toNat (wr ((wr (3 * a3)) + a4))))) dX12_digest_286 (by first | rfl | simp only [zm_Is, zm_Rs, zm_As, zm_Os, zm_In0, zm_Rn0])).mpr ⟨⟨g3, g4⟩, ?_⟩
    refine (zq_i2l dX12_digest_287).mpr ?_
    refine (zq_ladd dX12_digest_288).mpr ?_
    refine (zq_lstore_n (l := [zR a0, zL (wl ((wl (a1 * 31)) + (mA m (mR m 735 (mR m 784 a0)) (Int.toNat (wr ((wr (3 * a3)) + a4)))))), zU, zI a3, zI a4]) dX12_digest_289 (Nat.le_of_ble_eq_true rfl) rfl).mpr ?_
    refine (zq_iinc (l := [zR a0, zL (wl ((wl (a1 * 31)) + (mA m (mR m 735 (mR m 784 a0)) (Int.toNat (wr ((wr (3 * a3)) + a4)))))), zU, zI a3, zI (wr (a4 + 1))]) dX12_digest_290 rfl rfl).mpr ?_
    refine (zq_goto (t := 262) dX12_digest_293 rfl).mpr ?_
    exact h
theorem bX12_digest_304 {a0 : Nat} {a1 : Int} {a2 : zV} {a3 : Int} {a4 : zV} (h : (mC m a0 = 13) ∧ zC xs xl d 204 [zR a0] m (fun r m1 => ∃ v2 : Int, r = .inl (some (zI v2)) ∧ (((wr (6 * v2)) ≤ a3 → Q (.inl (some (zL a1))) m1) ∧ (¬ ((wr (6 * v2)) ≤ a3) → (mC m1 a0 = 13) ∧ (mC m1 (mR m1 784 a0) = 12) ∧ (mC m1 (mR m1 739 (mR m1 784 a0)) = 20) ∧ (0 ≤ a3 ∧ a3 < mN m1 (mR m1 739 (mR m1 784 a0))) ∧ zW xs xl d cX12_digest 12 (some .long) false [] 304 [zR a0, zL (wl ((wl (a1 * 31)) + (mA m1 (mR m1 739 (mR m1 784 a0)) (Int.toNat a3)))), zU, zI (wr (a3 + 1)), a4] [] m1 Q)))) : zW xs xl d cX12_digest 12 (some .long) false [] 304 [zR a0, zL a1, a2, zI a3, a4] [] m Q := by
  refine (zq_iload_n dX12_digest_304 rfl).mpr ?_
  refine (zq_bipush (v := 6) dX12_digest_305 (by decide)).mpr ?_
  refine (zq_aload_n dX12_digest_307 rfl).mpr ?_
  obtain ⟨g3, h⟩ := h
  refine zq_virtualI (n := 0) dX12_digest_308 mr_12_317 zn_204 rfl rfl rfl (zrcv_R zo_204 (by decide) g3) (Nat.le_of_ble_eq_true rfl) ?_
  refine h.mono (fun r m1 h => ?_)
  obtain ⟨v2, rfl, h⟩ := h
  refine ⟨_, rfl, ?_⟩
  refine (zq_imul dX12_digest_311).mpr ?_
  refine (zq_icmp_ge (t := 338) dX12_digest_312 rfl).mpr ⟨fun c => ?_, fun c => ?_⟩
  · replace h := h.1 c
    refine (zq_lload_n dX12_digest_338 rfl).mpr ?_
    exact (zq_lret dX12_digest_339 rfl).mpr h
  · replace h := h.2 c
    refine (zq_lload_n dX12_digest_315 rfl).mpr ?_
    refine (zq_ldc2 dX12_digest_316 cq_12_332).mpr ?_
    refine (zq_lmul dX12_digest_319).mpr ?_
    refine (zq_aload_n dX12_digest_320 rfl).mpr ?_
    obtain ⟨g4, h⟩ := h
    refine (zq_getR2 (f := 784) (v := (mR m1 784 a0)) dX12_digest_321 fl_12_38 (by decide) rfl rfl (by first | rfl | simp only [zm_Is, zm_Rs, zm_As, zm_Os, zm_In0, zm_Rn0])).mpr ⟨g4, ?_⟩
    obtain ⟨g5, h⟩ := h
    refine (zq_getR2 (f := 739) (v := (mR m1 739 (mR m1 784 a0))) dX12_digest_324 fl_12_320 (by decide) rfl rfl (by first | rfl | simp only [zm_Is, zm_Rs, zm_As, zm_Os, zm_In0, zm_Rn0])).mpr ⟨g5, ?_⟩
    refine (zq_iload_n dX12_digest_327 rfl).mpr ?_
    obtain ⟨g6, h⟩ := h
    obtain ⟨g7, h⟩ := h
    refine (zq_iald2 (v := (mA m1 (mR m1 739 (mR m1 784 a0)) (Int.toNat a3))) dX12_digest_328 (by first | rfl | simp only [zm_Is, zm_Rs, zm_As, zm_Os, zm_In0, zm_Rn0])).mpr ⟨⟨g6, g7⟩, ?_⟩
    refine (zq_i2l dX12_digest_329).mpr ?_
    refine (zq_ladd dX12_digest_330).mpr ?_
    refine (zq_lstore_n (l := [zR a0, zL (wl ((wl (a1 * 31)) + (mA m1 (mR m1 739 (mR m1 784 a0)) (Int.toNat a3)))), zU, zI a3, a4]) dX12_digest_331 (Nat.le_of_ble_eq_true rfl) rfl).mpr ?_
    refine (zq_iinc (l := [zR a0, zL (wl ((wl (a1 * 31)) + (mA m1 (mR m1 739 (mR m1 784 a0)) (Int.toNat a3)))), zU, zI (wr (a3 + 1)), a4]) dX12_digest_332 rfl rfl).mpr ?_
    refine (zq_goto (t := 304) dX12_digest_335 rfl).mpr ?_
    exact h
theorem bJ0_length_8abf5_0 {a0 : Nat} (h : (20 ≤ a0 ∧ a0 < 50) ∧ (zXk (a0 + 100) ≠ 0) ∧ zC xs xl d 211 [zE a0] m (fun r m3 => ∃ v4 : Int, r = .inl (some (zI v4)) ∧ Q (.inl (some (zI (bShr (wr (zXN xl (a0 + 100))) v4)))) m3)) : zC xs xl (d + 1) 209 [zE a0] m Q := by
  refine zk_209 ?_
  refine (zq_aload_nE dJ0_length_8abf5_0 rfl).mpr ?_
  obtain ⟨g1, h⟩ := h
  refine (zq_getX (v := zE (a0 + 100)) dJ0_length_8abf5_1 fl_14_9 rfl).mpr ⟨g1, ?_⟩
  obtain ⟨g2, h⟩ := h
  refine (zq_alenE dJ0_length_8abf5_4).mpr ⟨g2, ?_⟩
  refine (zq_aload_nE dJ0_length_8abf5_5 rfl).mpr ?_
  refine zq_virtualI (n := 0) dJ0_length_8abf5_6 mr_14_335 zn_211 rfl rfl rfl (zrcv_E zo_211 g1) (Nat.le_of_ble_eq_true rfl) ?_
  refine h.mono (fun r m3 h => ?_)
  obtain ⟨v4, rfl, h⟩ := h
  refine ⟨_, rfl, ?_⟩
  refine (zq_ishr dJ0_length_8abf5_9).mpr ?_
  exact (zq_iret dJ0_length_8abf5_10 rfl).mpr ⟨trivial, h⟩
theorem bJ0_charAt_5068e_0 {a0 : Nat} {a1 : Int} (h : (20 ≤ a0 ∧ a0 < 50) ∧ zC xs xl d 212 [zE a0] m (fun r m1 => ∃ v2 : Int, r = .inl (some (zI v2)) ∧ ((v2 = 0 → zC xs xl d 217 [zE (a0 + 100), zI a1] m1 (fun r m4 => ∃ v5 : Int, r = .inl (some (zI v5)) ∧ (0 ≤ v5 ∧ v5 ≤ 65535) ∧ Q (.inl (some (zI v5))) m4)) ∧ (¬ (v2 = 0) → zC xs xl d 214 [zE (a0 + 100), zI a1] m1 (fun r m7 => ∃ v8 : Int, r = .inl (some (zI v8)) ∧ (0 ≤ v8 ∧ v8 ≤ 65535) ∧ Q (.inl (some (zI v8))) m7))))) : zC xs xl (d + 1) 210 [zE a0, zI a1] m Q := by
  refine zk_210 ?_
  refine (zq_aload_nE dJ0_charAt_5068e_0 rfl).mpr ?_
  obtain ⟨g3, h⟩ := h
  refine zq_virtualI (n := 0) dJ0_charAt_5068e_1 mr_14_492 zn_212 rfl rfl rfl (zrcv_E zo_212 g3) (Nat.le_of_ble_eq_true rfl) ?_
  refine h.mono (fun r m1 h => ?_)
  obtain ⟨v2, rfl, h⟩ := h
  refine ⟨_, rfl, ?_⟩
  refine (zq_if_eq (t := 16) dJ0_charAt_5068e_4 rfl).mpr ⟨fun c => ?_, fun c => ?_⟩
  · replace h := h.1 c
    refine (zq_aload_nE dJ0_charAt_5068e_16 rfl).mpr ?_
    refine (zq_getX (v := zE (a0 + 100)) dJ0_charAt_5068e_17 fl_14_9 rfl).mpr ⟨g3, ?_⟩
    refine (zq_iload_n dJ0_charAt_5068e_20 rfl).mpr ?_
    refine zq_staticI (n := 2) dJ0_charAt_5068e_21 mr_14_498 zn_217 rfl rfl (Nat.le_of_ble_eq_true rfl) (Nat.le_of_ble_eq_true rfl) ?_
    refine h.mono (fun r m4 h => ?_)
    obtain ⟨v5, rfl, h⟩ := h
    refine ⟨_, rfl, ?_⟩
    obtain ⟨g6, h⟩ := h
    exact (zq_iret dJ0_charAt_5068e_24 rfl).mpr ⟨g6, h⟩
  · replace h := h.2 c
    refine (zq_aload_nE dJ0_charAt_5068e_7 rfl).mpr ?_
    refine (zq_getX (v := zE (a0 + 100)) dJ0_charAt_5068e_8 fl_14_9 rfl).mpr ⟨g3, ?_⟩
    refine (zq_iload_n dJ0_charAt_5068e_11 rfl).mpr ?_
    refine zq_staticI (n := 2) dJ0_charAt_5068e_12 mr_14_495 zn_214 rfl rfl (Nat.le_of_ble_eq_true rfl) (Nat.le_of_ble_eq_true rfl) ?_
    refine h.mono (fun r m7 h => ?_)
    obtain ⟨v8, rfl, h⟩ := h
    refine ⟨_, rfl, ?_⟩
    obtain ⟨g9, h⟩ := h
    exact (zq_iret dJ0_charAt_5068e_15 rfl).mpr ⟨g9, h⟩
theorem bJ0_coder_7d493_0 {a0 : Nat} (h : (20 ≤ a0 ∧ a0 < 50) ∧ Q (.inl (some (zI 0))) m) : zC xs xl (d + 1) 211 [zE a0] m Q := by
  refine zk_211 ?_
  refine (zq_gets dJ0_coder_7d493_0 sl_14_38).mpr ?_
  refine (zq_if_eq (t := 13) dJ0_coder_7d493_3 rfl).mpr ⟨fun c => absurd c (by decide), fun _ => ?_⟩
  refine (zq_aload_nE dJ0_coder_7d493_6 rfl).mpr ?_
  obtain ⟨g1, h⟩ := h
  refine (zq_getX (v := zI 0) dJ0_coder_7d493_7 fl_14_15 rfl).mpr ⟨g1, ?_⟩
  refine (zq_goto (t := 14) dJ0_coder_7d493_10 rfl).mpr ?_
  exact (zq_iret dJ0_coder_7d493_14 rfl).mpr ⟨⟨by decide, by decide⟩, h⟩
theorem bJ0_isLatin1_aae02_0 {a0 : Nat} (h : (20 ≤ a0 ∧ a0 < 50) ∧ Q (.inl (some (zI 1))) m) : zC xs xl (d + 1) 212 [zE a0] m Q := by
  refine zk_212 ?_
  refine (zq_gets dJ0_isLatin1_aae02_0 sl_14_38).mpr ?_
  refine (zq_if_eq (t := 17) dJ0_isLatin1_aae02_3 rfl).mpr ⟨fun c => absurd c (by decide), fun _ => ?_⟩
  refine (zq_aload_nE dJ0_isLatin1_aae02_6 rfl).mpr ?_
  obtain ⟨g1, h⟩ := h
  refine (zq_getX (v := zI 0) dJ0_isLatin1_aae02_7 fl_14_15 rfl).mpr ⟨g1, ?_⟩
  refine (zq_if_ne (t := 17) dJ0_isLatin1_aae02_10 rfl).mpr ⟨fun c => absurd c (by decide), fun _ => ?_⟩
  refine (zq_iconst (v := 1) dJ0_isLatin1_aae02_13 (by decide)).mpr ?_
  refine (zq_goto (t := 18) dJ0_isLatin1_aae02_14 rfl).mpr ?_
  exact (zq_iret dJ0_isLatin1_aae02_18 rfl).mpr ⟨Or.inr rfl, h⟩
theorem bJ0_checkIndex_df160_0 {a0 : Int} {a1 : Int} (h : zC xs xl d 219 [zI a0, zI a1, zE 8] m (fun r m1 => ∃ v2 : Int, r = .inl (some (zI v2)) ∧ Q (.inl none) m1)) : zC xs xl (d + 1) 213 [zI a0, zI a1] m Q := by
  refine zk_213 ?_
  refine (zq_iload_n dJ0_checkIndex_df160_0 rfl).mpr ?_
  refine (zq_iload_n dJ0_checkIndex_df160_1 rfl).mpr ?_
  refine (zq_gets dJ0_checkIndex_df160_2 sl_14_1053).mpr ?_
  refine zq_staticI (n := 3) dJ0_checkIndex_df160_5 mr_14_1059 zn_219 rfl rfl (Nat.le_of_ble_eq_true rfl) (Nat.le_of_ble_eq_true rfl) ?_
  refine h.mono (fun r m1 h => ?_)
  obtain ⟨v2, rfl, h⟩ := h
  refine ⟨_, rfl, ?_⟩
  refine (zq_popI dJ0_checkIndex_df160_8).mpr ?_
  exact (zq_ret dJ0_checkIndex_df160_9 rfl).mpr h
theorem bJ1_charAt_3b067_0 {a0 : Nat} {a1 : Int} (h : (zXk a0 ≠ 0) ∧ zC xs xl d 213 [zI a1, zI (wr (zXN xl a0))] m (fun r m2 => r = .inl none ∧ (zXk a0 = 2 ∧ 0 ≤ a1 ∧ a1 < zXN xl a0) ∧ (0 ≤ (bI2c (bAnd (zXI xs a0 (a1).toNat) 255)) ∧ (bI2c (bAnd (zXI xs a0 (a1).toNat) 255)) ≤ 65535) ∧ Q (.inl (some (zI (bI2c (bAnd (zXI xs a0 (a1).toNat) 255))))) m2)) : zC xs xl (d + 1) 214 [zE a0, zI a1] m Q := by
  refine zk_214 ?_
  refine (zq_iload_n dJ1_charAt_3b067_0 rfl).mpr ?_
  refine (zq_aload_nE dJ1_charAt_3b067_1 rfl).mpr ?_
  obtain ⟨g1, h⟩ := h
  refine (zq_alenE dJ1_charAt_3b067_2).mpr ⟨g1, ?_⟩
  refine zq_staticV (n := 2) dJ1_charAt_3b067_3 mr_15_9 zn_213 rfl rfl (Nat.le_of_ble_eq_true rfl) (Nat.le_of_ble_eq_true rfl) ?_
  refine h.mono (fun r m2 h => ?_)
  obtain ⟨rfl, h⟩ := h
  refine ⟨rfl, ?_⟩
  refine (zq_aload_nE dJ1_charAt_3b067_6 rfl).mpr ?_
  refine (zq_iload_n dJ1_charAt_3b067_7 rfl).mpr ?_
  obtain ⟨g4, h⟩ := h
  refine (zq_baldE dJ1_charAt_3b067_8).mpr ⟨g4, ?_⟩
  refine (zq_sipush (v := 255) dJ1_charAt_3b067_9 (by decide)).mpr ?_
  refine (zq_iand dJ1_charAt_3b067_12).mpr ?_
  refine (zq_i2c dJ1_charAt_3b067_13).mpr ?_
  obtain ⟨g5, h⟩ := h
  exact (zq_iret dJ1_charAt_3b067_14 rfl).mpr ⟨g5, h⟩
theorem bJ3_checkIndex_8e157_0 {a0 : Int} {a1 : Int} {a2 : Nat} (h : ((a0 < 0 → False) ∧ (¬ (a0 < 0) → ((a0 < a1 → Q (.inl (some (zI a0))) m) ∧ (¬ (a0 < a1) → False))))) : zC xs xl (d + 1) 219 [zI a0, zI a1, zE a2] m Q := by
  refine zk_219 ?_
  refine (zq_iload_n dJ3_checkIndex_8e157_0 rfl).mpr ?_
  refine (zq_if_lt (t := 9) dJ3_checkIndex_8e157_1 rfl).mpr ⟨fun c => ?_, fun c => ?_⟩
  · replace h := h.1 c
    refine (zq_aload_nE dJ3_checkIndex_8e157_9 rfl).mpr ?_
    refine (zq_iload_n dJ3_checkIndex_8e157_10 rfl).mpr ?_
    refine (zq_iload_n dJ3_checkIndex_8e157_11 rfl).mpr ?_
    exact h.elim
  · replace h := h.2 c
    refine (zq_iload_n dJ3_checkIndex_8e157_4 rfl).mpr ?_
    refine (zq_iload_n dJ3_checkIndex_8e157_5 rfl).mpr ?_
    refine (zq_icmp_lt (t := 16) dJ3_checkIndex_8e157_6 rfl).mpr ⟨fun c => ?_, fun c => ?_⟩
    · replace h := h.1 c
      refine (zq_iload_n dJ3_checkIndex_8e157_16 rfl).mpr ?_
      exact (zq_iret dJ3_checkIndex_8e157_17 rfl).mpr ⟨trivial, h⟩
    · replace h := h.2 c
      refine (zq_aload_nE dJ3_checkIndex_8e157_9 rfl).mpr ?_
      refine (zq_iload_n dJ3_checkIndex_8e157_10 rfl).mpr ?_
      refine (zq_iload_n dJ3_checkIndex_8e157_11 rfl).mpr ?_
      exact h.elim
theorem bJ6_signum_0f7a4_0 {a0 : Int} (h : Q (.inl (some (zI (bOr (bShr a0 31) (bUsh (wr (-a0)) 31))))) m) : zC xs xl (d + 1) 220 [zI a0] m Q := by
  refine zk_220 ?_
  refine (zq_iload_n dJ6_signum_0f7a4_0 rfl).mpr ?_
  refine (zq_bipush (v := 31) dJ6_signum_0f7a4_1 (by decide)).mpr ?_
  refine (zq_ishr dJ6_signum_0f7a4_3).mpr ?_
  refine (zq_iload_n dJ6_signum_0f7a4_4 rfl).mpr ?_
  refine (zq_ineg dJ6_signum_0f7a4_5).mpr ?_
  refine (zq_bipush (v := 31) dJ6_signum_0f7a4_6 (by decide)).mpr ?_
  refine (zq_iushr dJ6_signum_0f7a4_8).mpr ?_
  refine (zq_ior dJ6_signum_0f7a4_9).mpr ?_
  exact (zq_iret dJ6_signum_0f7a4_10 rfl).mpr ⟨trivial, h⟩
theorem bJ7_fill_53178_0 {a0 : Nat} {a1 : Int} (h : (20 ≤ mC m a0 ∧ mC m a0 < 43) ∧ zW xs xl d cJ7_fill_53178 19 (none) false [] 5 [zR a0, zI a1, zI 0, zI (wr (mN m a0))] [] m Q) : zC xs xl (d + 1) 221 [zR a0, zI a1] m Q := by
  refine zk_221 ?_
  refine (zq_iconst (v := 0) dJ7_fill_53178_0 (by decide)).mpr ?_
  refine (zq_istore_n (l := [zR a0, zI a1, zI 0, zU]) dJ7_fill_53178_1 (Nat.le_of_ble_eq_true rfl) rfl).mpr ?_
  refine (zq_aload_n dJ7_fill_53178_2 rfl).mpr ?_
  obtain ⟨g1, h⟩ := h
  refine (zq_alen dJ7_fill_53178_3).mpr ⟨g1, ?_⟩
  refine (zq_istore_n (l := [zR a0, zI a1, zI 0, zI (wr (mN m a0))]) dJ7_fill_53178_4 (Nat.le_of_ble_eq_true rfl) rfl).mpr ?_
  exact h
theorem bJ7_fill_53178_5 {a0 : Nat} {a1 : Int} {a2 : Int} {a3 : Int} (h : ((a3 ≤ a2 → Q (.inl none) m) ∧ (¬ (a3 ≤ a2) → (0 ≤ a2 ∧ a2 < mN m a0) ∧ (mC m a0 = 20) ∧ zW xs xl d cJ7_fill_53178 19 (none) false [] 5 [zR a0, zI a1, zI (wr (a2 + 1)), zI a3] [] (sA m a0 (Int.toNat a2) a1) Q))) : zW xs xl d cJ7_fill_53178 19 (none) false [] 5 [zR a0, zI a1, zI a2, zI a3] [] m Q := by
  refine (zq_iload_n dJ7_fill_53178_5 rfl).mpr ?_
  refine (zq_iload_n dJ7_fill_53178_6 rfl).mpr ?_
  refine (zq_icmp_ge (t := 20) dJ7_fill_53178_7 rfl).mpr ⟨fun c => ?_, fun c => ?_⟩
  · replace h := h.1 c
    exact (zq_ret dJ7_fill_53178_20 rfl).mpr h
  · replace h := h.2 c
    refine (zq_aload_n dJ7_fill_53178_10 rfl).mpr ?_
    refine (zq_iload_n dJ7_fill_53178_11 rfl).mpr ?_
    refine (zq_iload_n dJ7_fill_53178_12 rfl).mpr ?_
    obtain ⟨g1, h⟩ := h
    obtain ⟨g2, h⟩ := h
    refine (zq_iast dJ7_fill_53178_13).mpr ⟨⟨g2, g1⟩, ?_⟩
    refine (zq_iinc (l := [zR a0, zI a1, zI (wr (a2 + 1)), zI a3]) dJ7_fill_53178_14 rfl rfl).mpr ?_
    refine (zq_goto (t := 5) dJ7_fill_53178_17 rfl).mpr ?_
    exact h
theorem bL_feed_0 {a0 : Nat} {a1 : Int} {a2 : Int} {a3 : Int} {a4 : Int} {a5 : Int} {a6 : Nat} (h : (mC m a0 = 11) ∧ zC xs xl d 103 [zR a0, zI a1, zI a2, zI a3, zI a4, zI a5] m (fun r m1 => ((∃ v2 : Int, r = .inl (some (zI v2)) ∧ ((0 : Int) < mN m1 a6) ∧ (mC m1 a6 = 23) ∧ Q (.inl (some (zI 0))) (sA m1 a6 0 v2)) ∨ (r = .inr 0 ∧ Q (.inl (some (zI 1))) m1)))) : zC xs xl (d + 1) 225 [zR a0, zI a1, zI a2, zI a3, zI a4, zI a5, zR a6] m Q := by
  refine zk_225 ?_
  refine (zq_aload dL_feed_0 rfl).mpr ?_
  refine (zq_iconst (v := 0) dL_feed_2 (by decide)).mpr ?_
  refine (zq_aload_n dL_feed_3 rfl).mpr ?_
  refine (zq_iload_n dL_feed_4 rfl).mpr ?_
  refine (zq_iload_n dL_feed_5 rfl).mpr ?_
  refine (zq_iload_n dL_feed_6 rfl).mpr ?_
  refine (zq_iload dL_feed_7 rfl).mpr ?_
  refine (zq_iload dL_feed_9 rfl).mpr ?_
  obtain ⟨g3, h⟩ := h
  refine zq_virtualXI (n := 5) dL_feed_11 mr_13_7 zn_103 rfl rfl (zrcv_R zo_103 (by decide) g3) (Nat.le_of_ble_eq_true rfl) ?_
  refine h.mono (fun r m1 h => ?_)
  rcases h with ⟨v2, rfl, h⟩ | h
  · refine Or.inl ⟨_, rfl, ?_⟩
    refine (zq_i2l dL_feed_14).mpr ?_
    obtain ⟨g4, h⟩ := h
    obtain ⟨g5, h⟩ := h
    refine (zq_last dL_feed_15).mpr ⟨⟨g5, ⟨by decide, g4⟩⟩, ?_⟩
    refine (zq_goto (t := 23) dL_feed_16 rfl).mpr ?_
    refine (zq_iconst (v := 0) dL_feed_23 (by decide)).mpr ?_
    exact (zq_iret dL_feed_24 rfl).mpr ⟨trivial, h⟩
  · obtain ⟨rfl, h⟩ := h
    refine Or.inr ⟨0, 19, rfl, rfl, ?_⟩
    refine (zq_astoreE (l := [zR a0, zI a1, zI a2, zI a3, zI a4, zI a5, zR a6, zE 999]) dL_feed_19 (Nat.le_of_ble_eq_true rfl) rfl).mpr ?_
    refine (zq_iconst (v := 1) dL_feed_21 (by decide)).mpr ?_
    exact (zq_iret dL_feed_22 rfl).mpr ⟨trivial, h⟩
theorem bL_trim_0 {a0 : Nat} {a1 : Int} {a2 : Nat} (h : (mC m a0 = 11) ∧ zC xs xl d 104 [zR a0, zI a1] m (fun r m1 => ((∃ v2 : Int, r = .inl (some (zI v2)) ∧ ((0 : Int) < mN m1 a2) ∧ (mC m1 a2 = 23) ∧ Q (.inl (some (zI 0))) (sA m1 a2 0 v2)) ∨ (r = .inr 1 ∧ Q (.inl (some (zI 1))) m1)))) : zC xs xl (d + 1) 226 [zR a0, zI a1, zR a2] m Q := by
  refine zk_226 ?_
  refine (zq_aload_n dL_trim_0 rfl).mpr ?_
  refine (zq_iconst (v := 0) dL_trim_1 (by decide)).mpr ?_
  refine (zq_aload_n dL_trim_2 rfl).mpr ?_
  refine (zq_iload_n dL_trim_3 rfl).mpr ?_
  obtain ⟨g3, h⟩ := h
  refine zq_virtualXI (n := 1) dL_trim_4 mr_13_15 zn_104 rfl rfl (zrcv_R zo_104 (by decide) g3) (Nat.le_of_ble_eq_true rfl) ?_
  refine h.mono (fun r m1 h => ?_)
  rcases h with ⟨v2, rfl, h⟩ | h
  · refine Or.inl ⟨_, rfl, ?_⟩
    refine (zq_i2l dL_trim_7).mpr ?_
    obtain ⟨g4, h⟩ := h
    obtain ⟨g5, h⟩ := h
    refine (zq_last dL_trim_8).mpr ⟨⟨g5, ⟨by decide, g4⟩⟩, ?_⟩
    refine (zq_goto (t := 15) dL_trim_9 rfl).mpr ?_
    refine (zq_iconst (v := 0) dL_trim_15 (by decide)).mpr ?_
    exact (zq_iret dL_trim_16 rfl).mpr ⟨trivial, h⟩
  · obtain ⟨rfl, h⟩ := h
    refine Or.inr ⟨1, 12, rfl, rfl, ?_⟩
    refine (zq_astore_nE (l := [zR a0, zI a1, zR a2, zE 999]) dL_trim_12 (Nat.le_of_ble_eq_true rfl) rfl).mpr ?_
    refine (zq_iconst (v := 1) dL_trim_13 (by decide)).mpr ?_
    exact (zq_iret dL_trim_14 rfl).mpr ⟨trivial, h⟩
theorem bL_compile_0 {a0 : Nat} {a1 : Int} {a2 : Nat} (h : (mC m a0 = 11) ∧ zC xs xl d 105 [zR a0, zI a1] m (fun r m1 => ((∃ v2 : Int, r = .inl (some (zI v2)) ∧ ((0 : Int) < mN m1 a2) ∧ (mC m1 a2 = 23) ∧ Q (.inl (some (zI 0))) (sA m1 a2 0 v2)) ∨ (r = .inr 2 ∧ Q (.inl (some (zI 1))) m1)))) : zC xs xl (d + 1) 227 [zR a0, zI a1, zR a2] m Q := by
  refine zk_227 ?_
  refine (zq_aload_n dL_compile_0 rfl).mpr ?_
  refine (zq_iconst (v := 0) dL_compile_1 (by decide)).mpr ?_
  refine (zq_aload_n dL_compile_2 rfl).mpr ?_
  refine (zq_iload_n dL_compile_3 rfl).mpr ?_
  obtain ⟨g3, h⟩ := h
  refine zq_virtualXI (n := 1) dL_compile_4 mr_13_21 zn_105 rfl rfl (zrcv_R zo_105 (by decide) g3) (Nat.le_of_ble_eq_true rfl) ?_
  refine h.mono (fun r m1 h => ?_)
  rcases h with ⟨v2, rfl, h⟩ | h
  · refine Or.inl ⟨_, rfl, ?_⟩
    refine (zq_i2l dL_compile_7).mpr ?_
    obtain ⟨g4, h⟩ := h
    obtain ⟨g5, h⟩ := h
    refine (zq_last dL_compile_8).mpr ⟨⟨g5, ⟨by decide, g4⟩⟩, ?_⟩
    refine (zq_goto (t := 15) dL_compile_9 rfl).mpr ?_
    refine (zq_iconst (v := 0) dL_compile_15 (by decide)).mpr ?_
    exact (zq_iret dL_compile_16 rfl).mpr ⟨trivial, h⟩
  · obtain ⟨rfl, h⟩ := h
    refine Or.inr ⟨2, 12, rfl, rfl, ?_⟩
    refine (zq_astore_nE (l := [zR a0, zI a1, zR a2, zE 999]) dL_compile_12 (Nat.le_of_ble_eq_true rfl) rfl).mpr ?_
    refine (zq_iconst (v := 1) dL_compile_13 (by decide)).mpr ?_
    exact (zq_iret dL_compile_14 rfl).mpr ⟨trivial, h⟩
theorem bL_plan_0 {a0 : Nat} {a1 : Int} {a2 : Int} {a3 : Nat} (h : (mC m a0 = 11) ∧ zC xs xl d 107 [zR a0, zI a1, zI a2] m (fun r m1 => ((∃ v2 : Int, r = .inl (some (zI v2)) ∧ ((0 : Int) < mN m1 a3) ∧ (mC m1 a3 = 23) ∧ Q (.inl (some (zI 0))) (sA m1 a3 0 v2)) ∨ (r = .inr 2 ∧ Q (.inl (some (zI 1))) m1)))) : zC xs xl (d + 1) 228 [zR a0, zI a1, zI a2, zR a3] m Q := by
  refine zk_228 ?_
  refine (zq_aload_n dL_plan_0 rfl).mpr ?_
  refine (zq_iconst (v := 0) dL_plan_1 (by decide)).mpr ?_
  refine (zq_aload_n dL_plan_2 rfl).mpr ?_
  refine (zq_iload_n dL_plan_3 rfl).mpr ?_
  refine (zq_iload_n dL_plan_4 rfl).mpr ?_
  obtain ⟨g3, h⟩ := h
  refine zq_virtualXI (n := 2) dL_plan_5 mr_13_26 zn_107 rfl rfl (zrcv_R zo_107 (by decide) g3) (Nat.le_of_ble_eq_true rfl) ?_
  refine h.mono (fun r m1 h => ?_)
  rcases h with ⟨v2, rfl, h⟩ | h
  · refine Or.inl ⟨_, rfl, ?_⟩
    refine (zq_i2l dL_plan_8).mpr ?_
    obtain ⟨g4, h⟩ := h
    obtain ⟨g5, h⟩ := h
    refine (zq_last dL_plan_9).mpr ⟨⟨g5, ⟨by decide, g4⟩⟩, ?_⟩
    refine (zq_goto (t := 17) dL_plan_10 rfl).mpr ?_
    refine (zq_iconst (v := 0) dL_plan_17 (by decide)).mpr ?_
    exact (zq_iret dL_plan_18 rfl).mpr ⟨trivial, h⟩
  · obtain ⟨rfl, h⟩ := h
    refine Or.inr ⟨2, 13, rfl, rfl, ?_⟩
    refine (zq_astoreE (l := [zR a0, zI a1, zI a2, zR a3, zE 999]) dL_plan_13 (Nat.le_of_ble_eq_true rfl) rfl).mpr ?_
    refine (zq_iconst (v := 1) dL_plan_15 (by decide)).mpr ?_
    exact (zq_iret dL_plan_16 rfl).mpr ⟨trivial, h⟩
theorem bL_addPlank_0 {a0 : Nat} {a1 : Int} {a2 : Int} {a3 : Int} {a4 : Nat} (h : (mC m a0 = 11) ∧ zC xs xl d 108 [zR a0, zI a1, zI a2, zI a3] m (fun r m1 => ((∃ v2 : Int, r = .inl (some (zI v2)) ∧ ((0 : Int) < mN m1 a4) ∧ (mC m1 a4 = 23) ∧ Q (.inl (some (zI 0))) (sA m1 a4 0 v2)) ∨ (r = .inr 1 ∧ Q (.inl (some (zI 1))) m1) ∨ (r = .inr 0 ∧ Q (.inl (some (zI 2))) m1)))) : zC xs xl (d + 1) 229 [zR a0, zI a1, zI a2, zI a3, zR a4] m Q := by
  refine zk_229 ?_
  refine (zq_aload dL_addPlank_0 rfl).mpr ?_
  refine (zq_iconst (v := 0) dL_addPlank_2 (by decide)).mpr ?_
  refine (zq_aload_n dL_addPlank_3 rfl).mpr ?_
  refine (zq_iload_n dL_addPlank_4 rfl).mpr ?_
  refine (zq_iload_n dL_addPlank_5 rfl).mpr ?_
  refine (zq_iload_n dL_addPlank_6 rfl).mpr ?_
  obtain ⟨g3, h⟩ := h
  refine zq_virtualXI (n := 3) dL_addPlank_7 mr_13_30 zn_108 rfl rfl (zrcv_R zo_108 (by decide) g3) (Nat.le_of_ble_eq_true rfl) ?_
  refine h.mono (fun r m1 h => ?_)
  rcases h with ⟨v2, rfl, h⟩ | h
  · refine Or.inl ⟨_, rfl, ?_⟩
    refine (zq_i2l dL_addPlank_10).mpr ?_
    obtain ⟨g4, h⟩ := h
    obtain ⟨g5, h⟩ := h
    refine (zq_last dL_addPlank_11).mpr ⟨⟨g5, ⟨by decide, g4⟩⟩, ?_⟩
    refine (zq_goto (t := 23) dL_addPlank_12 rfl).mpr ?_
    refine (zq_iconst (v := 0) dL_addPlank_23 (by decide)).mpr ?_
    exact (zq_iret dL_addPlank_24 rfl).mpr ⟨trivial, h⟩
  · rcases h with ⟨rfl, h⟩ | h
    · refine Or.inr ⟨1, 15, rfl, rfl, ?_⟩
      refine (zq_astoreE (l := [zR a0, zI a1, zI a2, zI a3, zR a4, zE 999]) dL_addPlank_15 (Nat.le_of_ble_eq_true rfl) rfl).mpr ?_
      refine (zq_iconst (v := 1) dL_addPlank_17 (by decide)).mpr ?_
      exact (zq_iret dL_addPlank_18 rfl).mpr ⟨trivial, h⟩
    · obtain ⟨rfl, h⟩ := h
      refine Or.inr ⟨0, 19, rfl, rfl, ?_⟩
      refine (zq_astoreE (l := [zR a0, zI a1, zI a2, zI a3, zR a4, zE 999]) dL_addPlank_19 (Nat.le_of_ble_eq_true rfl) rfl).mpr ?_
      refine (zq_iconst (v := 2) dL_addPlank_21 (by decide)).mpr ?_
      exact (zq_iret dL_addPlank_22 rfl).mpr ⟨trivial, h⟩
theorem bL_addKnot_0 {a0 : Nat} {a1 : Int} {a2 : Int} {a3 : Nat} (h : (mC m a0 = 11) ∧ zC xs xl d 109 [zR a0, zI a1, zI a2] m (fun r m1 => ((∃ v2 : Int, r = .inl (some (zI v2)) ∧ ((0 : Int) < mN m1 a3) ∧ (mC m1 a3 = 23) ∧ Q (.inl (some (zI 0))) (sA m1 a3 0 v2)) ∨ (r = .inr 2 ∧ Q (.inl (some (zI 1))) m1) ∨ (r = .inr 1 ∧ Q (.inl (some (zI 2))) m1) ∨ (r = .inr 0 ∧ Q (.inl (some (zI 3))) m1)))) : zC xs xl (d + 1) 230 [zR a0, zI a1, zI a2, zR a3] m Q := by
  refine zk_230 ?_
  refine (zq_aload_n dL_addKnot_0 rfl).mpr ?_
  refine (zq_iconst (v := 0) dL_addKnot_1 (by decide)).mpr ?_
  refine (zq_aload_n dL_addKnot_2 rfl).mpr ?_
  refine (zq_iload_n dL_addKnot_3 rfl).mpr ?_
  refine (zq_iload_n dL_addKnot_4 rfl).mpr ?_
  obtain ⟨g3, h⟩ := h
  refine zq_virtualXI (n := 2) dL_addKnot_5 mr_13_34 zn_109 rfl rfl (zrcv_R zo_109 (by decide) g3) (Nat.le_of_ble_eq_true rfl) ?_
  refine h.mono (fun r m1 h => ?_)
  rcases h with ⟨v2, rfl, h⟩ | h
  · refine Or.inl ⟨_, rfl, ?_⟩
    refine (zq_i2l dL_addKnot_8).mpr ?_
    obtain ⟨g4, h⟩ := h
    obtain ⟨g5, h⟩ := h
    refine (zq_last dL_addKnot_9).mpr ⟨⟨g5, ⟨by decide, g4⟩⟩, ?_⟩
    refine (zq_goto (t := 25) dL_addKnot_10 rfl).mpr ?_
    refine (zq_iconst (v := 0) dL_addKnot_25 (by decide)).mpr ?_
    exact (zq_iret dL_addKnot_26 rfl).mpr ⟨trivial, h⟩
  · rcases h with ⟨rfl, h⟩ | h
    · refine Or.inr ⟨2, 13, rfl, rfl, ?_⟩
      refine (zq_astoreE (l := [zR a0, zI a1, zI a2, zR a3, zE 999]) dL_addKnot_13 (Nat.le_of_ble_eq_true rfl) rfl).mpr ?_
      refine (zq_iconst (v := 1) dL_addKnot_15 (by decide)).mpr ?_
      exact (zq_iret dL_addKnot_16 rfl).mpr ⟨trivial, h⟩
    · rcases h with ⟨rfl, h⟩ | h
      · refine Or.inr ⟨1, 17, rfl, rfl, ?_⟩
        refine (zq_astoreE (l := [zR a0, zI a1, zI a2, zR a3, zE 999]) dL_addKnot_17 (Nat.le_of_ble_eq_true rfl) rfl).mpr ?_
        refine (zq_iconst (v := 2) dL_addKnot_19 (by decide)).mpr ?_
        exact (zq_iret dL_addKnot_20 rfl).mpr ⟨trivial, h⟩
      · obtain ⟨rfl, h⟩ := h
        refine Or.inr ⟨0, 21, rfl, rfl, ?_⟩
        refine (zq_astoreE (l := [zR a0, zI a1, zI a2, zR a3, zE 999]) dL_addKnot_21 (Nat.le_of_ble_eq_true rfl) rfl).mpr ?_
        refine (zq_iconst (v := 3) dL_addKnot_23 (by decide)).mpr ?_
        exact (zq_iret dL_addKnot_24 rfl).mpr ⟨trivial, h⟩
theorem bL_plank_0 {a0 : Nat} {a1 : Int} {a2 : Int} {a3 : Nat} (h : (mC m a0 = 11) ∧ zC xs xl d 110 [zR a0, zI a1, zI a2] m (fun r m1 => ((∃ v2 : Int, r = .inl (some (zI v2)) ∧ ((0 : Int) < mN m1 a3) ∧ (mC m1 a3 = 23) ∧ Q (.inl (some (zI 0))) (sA m1 a3 0 v2)) ∨ (r = .inr 2 ∧ Q (.inl (some (zI 1))) m1)))) : zC xs xl (d + 1) 231 [zR a0, zI a1, zI a2, zR a3] m Q := by
  refine zk_231 ?_
  refine (zq_aload_n dL_plank_0 rfl).mpr ?_
  refine (zq_iconst (v := 0) dL_plank_1 (by decide)).mpr ?_
  refine (zq_aload_n dL_plank_2 rfl).mpr ?_
  refine (zq_iload_n dL_plank_3 rfl).mpr ?_
  refine (zq_iload_n dL_plank_4 rfl).mpr ?_
  obtain ⟨g3, h⟩ := h
  refine zq_virtualXI (n := 2) dL_plank_5 mr_13_37 zn_110 rfl rfl (zrcv_R zo_110 (by decide) g3) (Nat.le_of_ble_eq_true rfl) ?_
  refine h.mono (fun r m1 h => ?_)
  rcases h with ⟨v2, rfl, h⟩ | h
  · refine Or.inl ⟨_, rfl, ?_⟩
    refine (zq_i2l dL_plank_8).mpr ?_
    obtain ⟨g4, h⟩ := h
    obtain ⟨g5, h⟩ := h
    refine (zq_last dL_plank_9).mpr ⟨⟨g5, ⟨by decide, g4⟩⟩, ?_⟩
    refine (zq_goto (t := 17) dL_plank_10 rfl).mpr ?_
    refine (zq_iconst (v := 0) dL_plank_17 (by decide)).mpr ?_
    exact (zq_iret dL_plank_18 rfl).mpr ⟨trivial, h⟩
  · obtain ⟨rfl, h⟩ := h
    refine Or.inr ⟨2, 13, rfl, rfl, ?_⟩
    refine (zq_astoreE (l := [zR a0, zI a1, zI a2, zR a3, zE 999]) dL_plank_13 (Nat.le_of_ble_eq_true rfl) rfl).mpr ?_
    refine (zq_iconst (v := 1) dL_plank_15 (by decide)).mpr ?_
    exact (zq_iret dL_plank_16 rfl).mpr ⟨trivial, h⟩
theorem bL_find_0 {a0 : Nat} {a1 : Int} {a2 : Int} {a3 : Int} {a4 : Nat} (h : (mC m a0 = 11) ∧ zC xs xl d 111 [zR a0, zI a1, zI a2, zI a3] m (fun r m1 => ((∃ v2 : Int, r = .inl (some (zI v2)) ∧ ((0 : Int) < mN m1 a4) ∧ (mC m1 a4 = 23) ∧ Q (.inl (some (zI 0))) (sA m1 a4 0 v2)) ∨ (r = .inr 1 ∧ Q (.inl (some (zI 1))) m1)))) : zC xs xl (d + 1) 232 [zR a0, zI a1, zI a2, zI a3, zR a4] m Q := by
  refine zk_232 ?_
  refine (zq_aload dL_find_0 rfl).mpr ?_
  refine (zq_iconst (v := 0) dL_find_2 (by decide)).mpr ?_
  refine (zq_aload_n dL_find_3 rfl).mpr ?_
  refine (zq_iload_n dL_find_4 rfl).mpr ?_
  refine (zq_iload_n dL_find_5 rfl).mpr ?_
  refine (zq_iload_n dL_find_6 rfl).mpr ?_
  obtain ⟨g3, h⟩ := h
  refine zq_virtualXI (n := 3) dL_find_7 mr_13_40 zn_111 rfl rfl (zrcv_R zo_111 (by decide) g3) (Nat.le_of_ble_eq_true rfl) ?_
  refine h.mono (fun r m1 h => ?_)
  rcases h with ⟨v2, rfl, h⟩ | h
  · refine Or.inl ⟨_, rfl, ?_⟩
    refine (zq_i2l dL_find_10).mpr ?_
    obtain ⟨g4, h⟩ := h
    obtain ⟨g5, h⟩ := h
    refine (zq_last dL_find_11).mpr ⟨⟨g5, ⟨by decide, g4⟩⟩, ?_⟩
    refine (zq_goto (t := 19) dL_find_12 rfl).mpr ?_
    refine (zq_iconst (v := 0) dL_find_19 (by decide)).mpr ?_
    exact (zq_iret dL_find_20 rfl).mpr ⟨trivial, h⟩
  · obtain ⟨rfl, h⟩ := h
    refine Or.inr ⟨1, 15, rfl, rfl, ?_⟩
    refine (zq_astoreE (l := [zR a0, zI a1, zI a2, zI a3, zR a4, zE 999]) dL_find_15 (Nat.le_of_ble_eq_true rfl) rfl).mpr ?_
    refine (zq_iconst (v := 1) dL_find_17 (by decide)).mpr ?_
    exact (zq_iret dL_find_18 rfl).mpr ⟨trivial, h⟩
theorem bL_addFrame_0 {a0 : Nat} {a1 : Int} {a2 : Nat} (h : (mC m a0 = 11) ∧ zC xs xl d 112 [zR a0, zI a1] m (fun r m1 => ((∃ v2 : Int, r = .inl (some (zI v2)) ∧ ((0 : Int) < mN m1 a2) ∧ (mC m1 a2 = 23) ∧ Q (.inl (some (zI 0))) (sA m1 a2 0 v2)) ∨ (r = .inr 1 ∧ Q (.inl (some (zI 1))) m1) ∨ (r = .inr 0 ∧ Q (.inl (some (zI 2))) m1)))) : zC xs xl (d + 1) 233 [zR a0, zI a1, zR a2] m Q := by
  refine zk_233 ?_
  refine (zq_aload_n dL_addFrame_0 rfl).mpr ?_
  refine (zq_iconst (v := 0) dL_addFrame_1 (by decide)).mpr ?_
  refine (zq_aload_n dL_addFrame_2 rfl).mpr ?_
  refine (zq_iload_n dL_addFrame_3 rfl).mpr ?_
  obtain ⟨g3, h⟩ := h
  refine zq_virtualXI (n := 1) dL_addFrame_4 mr_13_44 zn_112 rfl rfl (zrcv_R zo_112 (by decide) g3) (Nat.le_of_ble_eq_true rfl) ?_
  refine h.mono (fun r m1 h => ?_)
  rcases h with ⟨v2, rfl, h⟩ | h
  · refine Or.inl ⟨_, rfl, ?_⟩
    refine (zq_i2l dL_addFrame_7).mpr ?_
    obtain ⟨g4, h⟩ := h
    obtain ⟨g5, h⟩ := h
    refine (zq_last dL_addFrame_8).mpr ⟨⟨g5, ⟨by decide, g4⟩⟩, ?_⟩
    refine (zq_goto (t := 18) dL_addFrame_9 rfl).mpr ?_
    refine (zq_iconst (v := 0) dL_addFrame_18 (by decide)).mpr ?_
    exact (zq_iret dL_addFrame_19 rfl).mpr ⟨trivial, h⟩
  · rcases h with ⟨rfl, h⟩ | h
    · refine Or.inr ⟨1, 12, rfl, rfl, ?_⟩
      refine (zq_astore_nE (l := [zR a0, zI a1, zR a2, zE 999]) dL_addFrame_12 (Nat.le_of_ble_eq_true rfl) rfl).mpr ?_
      refine (zq_iconst (v := 1) dL_addFrame_13 (by decide)).mpr ?_
      exact (zq_iret dL_addFrame_14 rfl).mpr ⟨trivial, h⟩
    · obtain ⟨rfl, h⟩ := h
      refine Or.inr ⟨0, 15, rfl, rfl, ?_⟩
      refine (zq_astore_nE (l := [zR a0, zI a1, zR a2, zE 999]) dL_addFrame_15 (Nat.le_of_ble_eq_true rfl) rfl).mpr ?_
      refine (zq_iconst (v := 2) dL_addFrame_16 (by decide)).mpr ?_
      exact (zq_iret dL_addFrame_17 rfl).mpr ⟨trivial, h⟩
theorem bL_frames_0 {a0 : Nat} {a1 : Int} {a2 : Int} {a3 : Nat} (h : (mC m a0 = 11) ∧ zC xs xl d 113 [zR a0, zI a1, zI a2] m (fun r m1 => ((∃ v2 : Int, r = .inl (some (zI v2)) ∧ ((0 : Int) < mN m1 a3) ∧ (mC m1 a3 = 23) ∧ Q (.inl (some (zI 0))) (sA m1 a3 0 v2)) ∨ (r = .inr 2 ∧ Q (.inl (some (zI 1))) m1)))) : zC xs xl (d + 1) 234 [zR a0, zI a1, zI a2, zR a3] m Q := by
  refine zk_234 ?_
  refine (zq_aload_n dL_frames_0 rfl).mpr ?_
  refine (zq_iconst (v := 0) dL_frames_1 (by decide)).mpr ?_
  refine (zq_aload_n dL_frames_2 rfl).mpr ?_
  refine (zq_iload_n dL_frames_3 rfl).mpr ?_
  refine (zq_iload_n dL_frames_4 rfl).mpr ?_
  obtain ⟨g3, h⟩ := h
  refine zq_virtualXI (n := 2) dL_frames_5 mr_13_47 zn_113 rfl rfl (zrcv_R zo_113 (by decide) g3) (Nat.le_of_ble_eq_true rfl) ?_
  refine h.mono (fun r m1 h => ?_)
  rcases h with ⟨v2, rfl, h⟩ | h
  · refine Or.inl ⟨_, rfl, ?_⟩
    refine (zq_i2l dL_frames_8).mpr ?_
    obtain ⟨g4, h⟩ := h
    obtain ⟨g5, h⟩ := h
    refine (zq_last dL_frames_9).mpr ⟨⟨g5, ⟨by decide, g4⟩⟩, ?_⟩
    refine (zq_goto (t := 17) dL_frames_10 rfl).mpr ?_
    refine (zq_iconst (v := 0) dL_frames_17 (by decide)).mpr ?_
    exact (zq_iret dL_frames_18 rfl).mpr ⟨trivial, h⟩
  · obtain ⟨rfl, h⟩ := h
    refine Or.inr ⟨2, 13, rfl, rfl, ?_⟩
    refine (zq_astoreE (l := [zR a0, zI a1, zI a2, zR a3, zE 999]) dL_frames_13 (Nat.le_of_ble_eq_true rfl) rfl).mpr ?_
    refine (zq_iconst (v := 1) dL_frames_15 (by decide)).mpr ?_
    exact (zq_iret dL_frames_16 rfl).mpr ⟨trivial, h⟩
theorem bL_addSlip_0 {a0 : Nat} {a1 : Nat} (h : (mC m a0 = 11) ∧ zC xs xl d 114 [zR a0] m (fun r m1 => ((∃ v2 : Int, r = .inl (some (zI v2)) ∧ ((0 : Int) < mN m1 a1) ∧ (mC m1 a1 = 23) ∧ Q (.inl (some (zI 0))) (sA m1 a1 0 v2)) ∨ (r = .inr 0 ∧ Q (.inl (some (zI 1))) m1)))) : zC xs xl (d + 1) 235 [zR a0, zR a1] m Q := by
  refine zk_235 ?_
  refine (zq_aload_n dL_addSlip_0 rfl).mpr ?_
  refine (zq_iconst (v := 0) dL_addSlip_1 (by decide)).mpr ?_
  refine (zq_aload_n dL_addSlip_2 rfl).mpr ?_
  obtain ⟨g3, h⟩ := h
  refine zq_virtualXI (n := 0) dL_addSlip_3 mr_13_50 zn_114 rfl rfl (zrcv_R zo_114 (by decide) g3) (Nat.le_of_ble_eq_true rfl) ?_
  refine h.mono (fun r m1 h => ?_)
  rcases h with ⟨v2, rfl, h⟩ | h
  · refine Or.inl ⟨_, rfl, ?_⟩
    refine (zq_i2l dL_addSlip_6).mpr ?_
    obtain ⟨g4, h⟩ := h
    obtain ⟨g5, h⟩ := h
    refine (zq_last dL_addSlip_7).mpr ⟨⟨g5, ⟨by decide, g4⟩⟩, ?_⟩
    refine (zq_goto (t := 14) dL_addSlip_8 rfl).mpr ?_
    refine (zq_iconst (v := 0) dL_addSlip_14 (by decide)).mpr ?_
    exact (zq_iret dL_addSlip_15 rfl).mpr ⟨trivial, h⟩
  · obtain ⟨rfl, h⟩ := h
    refine Or.inr ⟨0, 11, rfl, rfl, ?_⟩
    refine (zq_astore_nE (l := [zR a0, zR a1, zE 999]) dL_addSlip_11 (Nat.le_of_ble_eq_true rfl) rfl).mpr ?_
    refine (zq_iconst (v := 1) dL_addSlip_12 (by decide)).mpr ?_
    exact (zq_iret dL_addSlip_13 rfl).mpr ⟨trivial, h⟩
theorem bL_start_0 {a0 : Nat} {a1 : Int} {a2 : Int} {a3 : Int} {a4 : Nat} (h : (mC m a0 = 11) ∧ zC xs xl d 115 [zR a0, zI a1, zI a2, zI a3] m (fun r m1 => ((∃ v2 : Int, r = .inl (some (zI v2)) ∧ ((0 : Int) < mN m1 a4) ∧ (mC m1 a4 = 23) ∧ Q (.inl (some (zI 0))) (sA m1 a4 0 v2)) ∨ (r = .inr 2 ∧ Q (.inl (some (zI 1))) m1) ∨ (r = .inr 1 ∧ Q (.inl (some (zI 2))) m1) ∨ (r = .inr 0 ∧ Q (.inl (some (zI 3))) m1)))) : zC xs xl (d + 1) 236 [zR a0, zI a1, zI a2, zI a3, zR a4] m Q := by
  refine zk_236 ?_
  refine (zq_aload dL_start_0 rfl).mpr ?_
  refine (zq_iconst (v := 0) dL_start_2 (by decide)).mpr ?_
  refine (zq_aload_n dL_start_3 rfl).mpr ?_
  refine (zq_iload_n dL_start_4 rfl).mpr ?_
  refine (zq_iload_n dL_start_5 rfl).mpr ?_
  refine (zq_iload_n dL_start_6 rfl).mpr ?_
  obtain ⟨g3, h⟩ := h
  refine zq_virtualXI (n := 3) dL_start_7 mr_13_54 zn_115 rfl rfl (zrcv_R zo_115 (by decide) g3) (Nat.le_of_ble_eq_true rfl) ?_
  refine h.mono (fun r m1 h => ?_)
  rcases h with ⟨v2, rfl, h⟩ | h
  · refine Or.inl ⟨_, rfl, ?_⟩
    refine (zq_i2l dL_start_10).mpr ?_
    obtain ⟨g4, h⟩ := h
    obtain ⟨g5, h⟩ := h
    refine (zq_last dL_start_11).mpr ⟨⟨g5, ⟨by decide, g4⟩⟩, ?_⟩
    refine (zq_goto (t := 27) dL_start_12 rfl).mpr ?_
    refine (zq_iconst (v := 0) dL_start_27 (by decide)).mpr ?_
    exact (zq_iret dL_start_28 rfl).mpr ⟨trivial, h⟩
  · rcases h with ⟨rfl, h⟩ | h
    · refine Or.inr ⟨2, 15, rfl, rfl, ?_⟩
      refine (zq_astoreE (l := [zR a0, zI a1, zI a2, zI a3, zR a4, zE 999]) dL_start_15 (Nat.le_of_ble_eq_true rfl) rfl).mpr ?_
      refine (zq_iconst (v := 1) dL_start_17 (by decide)).mpr ?_
      exact (zq_iret dL_start_18 rfl).mpr ⟨trivial, h⟩
    · rcases h with ⟨rfl, h⟩ | h
      · refine Or.inr ⟨1, 19, rfl, rfl, ?_⟩
        refine (zq_astoreE (l := [zR a0, zI a1, zI a2, zI a3, zR a4, zE 999]) dL_start_19 (Nat.le_of_ble_eq_true rfl) rfl).mpr ?_
        refine (zq_iconst (v := 2) dL_start_21 (by decide)).mpr ?_
        exact (zq_iret dL_start_22 rfl).mpr ⟨trivial, h⟩
      · obtain ⟨rfl, h⟩ := h
        refine Or.inr ⟨0, 23, rfl, rfl, ?_⟩
        refine (zq_astoreE (l := [zR a0, zI a1, zI a2, zI a3, zR a4, zE 999]) dL_start_23 (Nat.le_of_ble_eq_true rfl) rfl).mpr ?_
        refine (zq_iconst (v := 3) dL_start_25 (by decide)).mpr ?_
        exact (zq_iret dL_start_26 rfl).mpr ⟨trivial, h⟩
theorem bL_lend_0 {a0 : Nat} {a1 : Int} {a2 : Int} {a3 : Int} {a4 : Nat} (h : (mC m a0 = 11) ∧ zC xs xl d 116 [zR a0, zI a1, zI a2, zI a3] m (fun r m1 => ((∃ v2 : Int, r = .inl (some (zI v2)) ∧ ((0 : Int) < mN m1 a4) ∧ (mC m1 a4 = 23) ∧ Q (.inl (some (zI 0))) (sA m1 a4 0 v2)) ∨ (r = .inr 2 ∧ Q (.inl (some (zI 1))) m1) ∨ (r = .inr 1 ∧ Q (.inl (some (zI 2))) m1) ∨ (r = .inr 0 ∧ Q (.inl (some (zI 3))) m1)))) : zC xs xl (d + 1) 237 [zR a0, zI a1, zI a2, zI a3, zR a4] m Q := by
  refine zk_237 ?_
  refine (zq_aload dL_lend_0 rfl).mpr ?_
  refine (zq_iconst (v := 0) dL_lend_2 (by decide)).mpr ?_
  refine (zq_aload_n dL_lend_3 rfl).mpr ?_
  refine (zq_iload_n dL_lend_4 rfl).mpr ?_
  refine (zq_iload_n dL_lend_5 rfl).mpr ?_
  refine (zq_iload_n dL_lend_6 rfl).mpr ?_
  obtain ⟨g3, h⟩ := h
  refine zq_virtualXI (n := 3) dL_lend_7 mr_13_57 zn_116 rfl rfl (zrcv_R zo_116 (by decide) g3) (Nat.le_of_ble_eq_true rfl) ?_
  refine h.mono (fun r m1 h => ?_)
  rcases h with ⟨v2, rfl, h⟩ | h
  · refine Or.inl ⟨_, rfl, ?_⟩
    refine (zq_i2l dL_lend_10).mpr ?_
    obtain ⟨g4, h⟩ := h
    obtain ⟨g5, h⟩ := h
    refine (zq_last dL_lend_11).mpr ⟨⟨g5, ⟨by decide, g4⟩⟩, ?_⟩
    refine (zq_goto (t := 27) dL_lend_12 rfl).mpr ?_
    refine (zq_iconst (v := 0) dL_lend_27 (by decide)).mpr ?_
    exact (zq_iret dL_lend_28 rfl).mpr ⟨trivial, h⟩
  · rcases h with ⟨rfl, h⟩ | h
    · refine Or.inr ⟨2, 15, rfl, rfl, ?_⟩
      refine (zq_astoreE (l := [zR a0, zI a1, zI a2, zI a3, zR a4, zE 999]) dL_lend_15 (Nat.le_of_ble_eq_true rfl) rfl).mpr ?_
      refine (zq_iconst (v := 1) dL_lend_17 (by decide)).mpr ?_
      exact (zq_iret dL_lend_18 rfl).mpr ⟨trivial, h⟩
    · rcases h with ⟨rfl, h⟩ | h
      · refine Or.inr ⟨1, 19, rfl, rfl, ?_⟩
        refine (zq_astoreE (l := [zR a0, zI a1, zI a2, zI a3, zR a4, zE 999]) dL_lend_19 (Nat.le_of_ble_eq_true rfl) rfl).mpr ?_
        refine (zq_iconst (v := 2) dL_lend_21 (by decide)).mpr ?_
        exact (zq_iret dL_lend_22 rfl).mpr ⟨trivial, h⟩
      · obtain ⟨rfl, h⟩ := h
        refine Or.inr ⟨0, 23, rfl, rfl, ?_⟩
        refine (zq_astoreE (l := [zR a0, zI a1, zI a2, zI a3, zR a4, zE 999]) dL_lend_23 (Nat.le_of_ble_eq_true rfl) rfl).mpr ?_
        refine (zq_iconst (v := 3) dL_lend_25 (by decide)).mpr ?_
        exact (zq_iret dL_lend_26 rfl).mpr ⟨trivial, h⟩
theorem bL_slip_0 {a0 : Nat} {a1 : Int} {a2 : Int} {a3 : Nat} (h : (mC m a0 = 11) ∧ zC xs xl d 117 [zR a0, zI a1, zI a2] m (fun r m1 => ((∃ v2 : Int, r = .inl (some (zI v2)) ∧ ((0 : Int) < mN m1 a3) ∧ (mC m1 a3 = 23) ∧ Q (.inl (some (zI 0))) (sA m1 a3 0 v2)) ∨ (r = .inr 2 ∧ Q (.inl (some (zI 1))) m1)))) : zC xs xl (d + 1) 238 [zR a0, zI a1, zI a2, zR a3] m Q := by
  refine zk_238 ?_
  refine (zq_aload_n dL_slip_0 rfl).mpr ?_
  refine (zq_iconst (v := 0) dL_slip_1 (by decide)).mpr ?_
  refine (zq_aload_n dL_slip_2 rfl).mpr ?_
  refine (zq_iload_n dL_slip_3 rfl).mpr ?_
  refine (zq_iload_n dL_slip_4 rfl).mpr ?_
  obtain ⟨g3, h⟩ := h
  refine zq_virtualXI (n := 2) dL_slip_5 mr_13_60 zn_117 rfl rfl (zrcv_R zo_117 (by decide) g3) (Nat.le_of_ble_eq_true rfl) ?_
  refine h.mono (fun r m1 h => ?_)
  rcases h with ⟨v2, rfl, h⟩ | h
  · refine Or.inl ⟨_, rfl, ?_⟩
    refine (zq_i2l dL_slip_8).mpr ?_
    obtain ⟨g4, h⟩ := h
    obtain ⟨g5, h⟩ := h
    refine (zq_last dL_slip_9).mpr ⟨⟨g5, ⟨by decide, g4⟩⟩, ?_⟩
    refine (zq_goto (t := 17) dL_slip_10 rfl).mpr ?_
    refine (zq_iconst (v := 0) dL_slip_17 (by decide)).mpr ?_
    exact (zq_iret dL_slip_18 rfl).mpr ⟨trivial, h⟩
  · obtain ⟨rfl, h⟩ := h
    refine Or.inr ⟨2, 13, rfl, rfl, ?_⟩
    refine (zq_astoreE (l := [zR a0, zI a1, zI a2, zR a3, zE 999]) dL_slip_13 (Nat.le_of_ble_eq_true rfl) rfl).mpr ?_
    refine (zq_iconst (v := 1) dL_slip_15 (by decide)).mpr ?_
    exact (zq_iret dL_slip_16 rfl).mpr ⟨trivial, h⟩
theorem bL_bend_0 {a0 : Nat} {a1 : Int} {a2 : Int} {a3 : Int} {a4 : Nat} (h : (mC m a0 = 11) ∧ zC xs xl d 118 [zR a0, zI a1, zI a2, zI a3] m (fun r m1 => ((∃ v2 : Int, r = .inl (some (zI v2)) ∧ ((0 : Int) < mN m1 a4) ∧ (mC m1 a4 = 23) ∧ Q (.inl (some (zI 0))) (sA m1 a4 0 v2)) ∨ (r = .inr 2 ∧ Q (.inl (some (zI 1))) m1)))) : zC xs xl (d + 1) 239 [zR a0, zI a1, zI a2, zI a3, zR a4] m Q := by
  refine zk_239 ?_
  refine (zq_aload dL_bend_0 rfl).mpr ?_
  refine (zq_iconst (v := 0) dL_bend_2 (by decide)).mpr ?_
  refine (zq_aload_n dL_bend_3 rfl).mpr ?_
  refine (zq_iload_n dL_bend_4 rfl).mpr ?_
  refine (zq_iload_n dL_bend_5 rfl).mpr ?_
  refine (zq_iload_n dL_bend_6 rfl).mpr ?_
  obtain ⟨g3, h⟩ := h
  refine zq_virtualXI (n := 3) dL_bend_7 mr_13_63 zn_118 rfl rfl (zrcv_R zo_118 (by decide) g3) (Nat.le_of_ble_eq_true rfl) ?_
  refine h.mono (fun r m1 h => ?_)
  rcases h with ⟨v2, rfl, h⟩ | h
  · refine Or.inl ⟨_, rfl, ?_⟩
    refine (zq_i2l dL_bend_10).mpr ?_
    obtain ⟨g4, h⟩ := h
    obtain ⟨g5, h⟩ := h
    refine (zq_last dL_bend_11).mpr ⟨⟨g5, ⟨by decide, g4⟩⟩, ?_⟩
    refine (zq_goto (t := 19) dL_bend_12 rfl).mpr ?_
    refine (zq_iconst (v := 0) dL_bend_19 (by decide)).mpr ?_
    exact (zq_iret dL_bend_20 rfl).mpr ⟨trivial, h⟩
  · obtain ⟨rfl, h⟩ := h
    refine Or.inr ⟨2, 15, rfl, rfl, ?_⟩
    refine (zq_astoreE (l := [zR a0, zI a1, zI a2, zI a3, zR a4, zE 999]) dL_bend_15 (Nat.le_of_ble_eq_true rfl) rfl).mpr ?_
    refine (zq_iconst (v := 1) dL_bend_17 (by decide)).mpr ?_
    exact (zq_iret dL_bend_18 rfl).mpr ⟨trivial, h⟩
theorem bL_run_0 {a0 : Nat} {a1 : Int} {a2 : Nat} (h : (mC m a0 = 11) ∧ zC xs xl d 120 [zR a0, zI a1] m (fun r m1 => ((∃ v2 : Int, r = .inl (some (zI v2)) ∧ ((0 : Int) < mN m1 a2) ∧ (mC m1 a2 = 23) ∧ Q (.inl (some (zI 0))) (sA m1 a2 0 v2)) ∨ (r = .inr 1 ∧ Q (.inl (some (zI 1))) m1)))) : zC xs xl (d + 1) 240 [zR a0, zI a1, zR a2] m Q := by
  refine zk_240 ?_
  refine (zq_aload_n dL_run_0 rfl).mpr ?_
  refine (zq_iconst (v := 0) dL_run_1 (by decide)).mpr ?_
  refine (zq_aload_n dL_run_2 rfl).mpr ?_
  refine (zq_iload_n dL_run_3 rfl).mpr ?_
  obtain ⟨g3, h⟩ := h
  refine zq_virtualXI (n := 1) dL_run_4 mr_13_66 zn_120 rfl rfl (zrcv_R zo_120 (by decide) g3) (Nat.le_of_ble_eq_true rfl) ?_
  refine h.mono (fun r m1 h => ?_)
  rcases h with ⟨v2, rfl, h⟩ | h
  · refine Or.inl ⟨_, rfl, ?_⟩
    refine (zq_i2l dL_run_7).mpr ?_
    obtain ⟨g4, h⟩ := h
    obtain ⟨g5, h⟩ := h
    refine (zq_last dL_run_8).mpr ⟨⟨g5, ⟨by decide, g4⟩⟩, ?_⟩
    refine (zq_goto (t := 15) dL_run_9 rfl).mpr ?_
    refine (zq_iconst (v := 0) dL_run_15 (by decide)).mpr ?_
    exact (zq_iret dL_run_16 rfl).mpr ⟨trivial, h⟩
  · obtain ⟨rfl, h⟩ := h
    refine Or.inr ⟨1, 12, rfl, rfl, ?_⟩
    refine (zq_astore_nE (l := [zR a0, zI a1, zR a2, zE 999]) dL_run_12 (Nat.le_of_ble_eq_true rfl) rfl).mpr ?_
    refine (zq_iconst (v := 1) dL_run_13 (by decide)).mpr ?_
    exact (zq_iret dL_run_14 rfl).mpr ⟨trivial, h⟩
theorem bL_count_0 {a0 : Nat} {a1 : Int} {a2 : Nat} (h : (mC m a0 = 11) ∧ zC xs xl d 121 [zR a0, zI a1] m (fun r m1 => ((∃ v2 : Int, r = .inl (some (zI v2)) ∧ ((0 : Int) < mN m1 a2) ∧ (mC m1 a2 = 23) ∧ Q (.inl (some (zI 0))) (sA m1 a2 0 v2)) ∨ (r = .inr 2 ∧ Q (.inl (some (zI 1))) m1)))) : zC xs xl (d + 1) 241 [zR a0, zI a1, zR a2] m Q := by
  refine zk_241 ?_
  refine (zq_aload_n dL_count_0 rfl).mpr ?_
  refine (zq_iconst (v := 0) dL_count_1 (by decide)).mpr ?_
  refine (zq_aload_n dL_count_2 rfl).mpr ?_
  refine (zq_iload_n dL_count_3 rfl).mpr ?_
  obtain ⟨g3, h⟩ := h
  refine zq_virtualXI (n := 1) dL_count_4 mr_13_69 zn_121 rfl rfl (zrcv_R zo_121 (by decide) g3) (Nat.le_of_ble_eq_true rfl) ?_
  refine h.mono (fun r m1 h => ?_)
  rcases h with ⟨v2, rfl, h⟩ | h
  · refine Or.inl ⟨_, rfl, ?_⟩
    refine (zq_i2l dL_count_7).mpr ?_
    obtain ⟨g4, h⟩ := h
    obtain ⟨g5, h⟩ := h
    refine (zq_last dL_count_8).mpr ⟨⟨g5, ⟨by decide, g4⟩⟩, ?_⟩
    refine (zq_goto (t := 15) dL_count_9 rfl).mpr ?_
    refine (zq_iconst (v := 0) dL_count_15 (by decide)).mpr ?_
    exact (zq_iret dL_count_16 rfl).mpr ⟨trivial, h⟩
  · obtain ⟨rfl, h⟩ := h
    refine Or.inr ⟨2, 12, rfl, rfl, ?_⟩
    refine (zq_astore_nE (l := [zR a0, zI a1, zR a2, zE 999]) dL_count_12 (Nat.le_of_ble_eq_true rfl) rfl).mpr ?_
    refine (zq_iconst (v := 1) dL_count_13 (by decide)).mpr ?_
    exact (zq_iret dL_count_14 rfl).mpr ⟨trivial, h⟩
theorem bL_hull_0 {a0 : Nat} {a1 : Int} {a2 : Int} {a3 : Nat} (h : (mC m a0 = 11) ∧ zC xs xl d 122 [zR a0, zI a1, zI a2] m (fun r m1 => ((∃ v2 : Int, r = .inl (some (zI v2)) ∧ ((0 : Int) < mN m1 a3) ∧ (mC m1 a3 = 23) ∧ Q (.inl (some (zI 0))) (sA m1 a3 0 v2)) ∨ (r = .inr 2 ∧ Q (.inl (some (zI 1))) m1)))) : zC xs xl (d + 1) 242 [zR a0, zI a1, zI a2, zR a3] m Q := by
  refine zk_242 ?_
  refine (zq_aload_n dL_hull_0 rfl).mpr ?_
  refine (zq_iconst (v := 0) dL_hull_1 (by decide)).mpr ?_
  refine (zq_aload_n dL_hull_2 rfl).mpr ?_
  refine (zq_iload_n dL_hull_3 rfl).mpr ?_
  refine (zq_iload_n dL_hull_4 rfl).mpr ?_
  obtain ⟨g3, h⟩ := h
  refine zq_virtualXI (n := 2) dL_hull_5 mr_13_72 zn_122 rfl rfl (zrcv_R zo_122 (by decide) g3) (Nat.le_of_ble_eq_true rfl) ?_
  refine h.mono (fun r m1 h => ?_)
  rcases h with ⟨v2, rfl, h⟩ | h
  · refine Or.inl ⟨_, rfl, ?_⟩
    refine (zq_i2l dL_hull_8).mpr ?_
    obtain ⟨g4, h⟩ := h
    obtain ⟨g5, h⟩ := h
    refine (zq_last dL_hull_9).mpr ⟨⟨g5, ⟨by decide, g4⟩⟩, ?_⟩
    refine (zq_goto (t := 17) dL_hull_10 rfl).mpr ?_
    refine (zq_iconst (v := 0) dL_hull_17 (by decide)).mpr ?_
    exact (zq_iret dL_hull_18 rfl).mpr ⟨trivial, h⟩
  · obtain ⟨rfl, h⟩ := h
    refine Or.inr ⟨2, 13, rfl, rfl, ?_⟩
    refine (zq_astoreE (l := [zR a0, zI a1, zI a2, zR a3, zE 999]) dL_hull_13 (Nat.le_of_ble_eq_true rfl) rfl).mpr ?_
    refine (zq_iconst (v := 1) dL_hull_15 (by decide)).mpr ?_
    exact (zq_iret dL_hull_16 rfl).mpr ⟨trivial, h⟩
theorem bL_foresee_0 {a0 : Nat} {a1 : Int} {a2 : Int} {a3 : Nat} (h : (mC m a0 = 11) ∧ zC xs xl d 123 [zR a0, zI a1, zI a2] m (fun r m1 => ((∃ v2 : Int, r = .inl (some (zI v2)) ∧ ((0 : Int) < mN m1 a3) ∧ (mC m1 a3 = 23) ∧ Q (.inl (some (zI 0))) (sA m1 a3 0 v2)) ∨ (r = .inr 1 ∧ Q (.inl (some (zI 1))) m1) ∨ (r = .inr 2 ∧ Q (.inl (some (zI 2))) m1)))) : zC xs xl (d + 1) 243 [zR a0, zI a1, zI a2, zR a3] m Q := by
  refine zk_243 ?_
  refine (zq_aload_n dL_foresee_0 rfl).mpr ?_
  refine (zq_iconst (v := 0) dL_foresee_1 (by decide)).mpr ?_
  refine (zq_aload_n dL_foresee_2 rfl).mpr ?_
  refine (zq_iload_n dL_foresee_3 rfl).mpr ?_
  refine (zq_iload_n dL_foresee_4 rfl).mpr ?_
  obtain ⟨g3, h⟩ := h
  refine zq_virtualXI (n := 2) dL_foresee_5 mr_13_75 zn_123 rfl rfl (zrcv_R zo_123 (by decide) g3) (Nat.le_of_ble_eq_true rfl) ?_
  refine h.mono (fun r m1 h => ?_)
  rcases h with ⟨v2, rfl, h⟩ | h
  · refine Or.inl ⟨_, rfl, ?_⟩
    refine (zq_i2l dL_foresee_8).mpr ?_
    obtain ⟨g4, h⟩ := h
    obtain ⟨g5, h⟩ := h
    refine (zq_last dL_foresee_9).mpr ⟨⟨g5, ⟨by decide, g4⟩⟩, ?_⟩
    refine (zq_goto (t := 21) dL_foresee_10 rfl).mpr ?_
    refine (zq_iconst (v := 0) dL_foresee_21 (by decide)).mpr ?_
    exact (zq_iret dL_foresee_22 rfl).mpr ⟨trivial, h⟩
  · rcases h with ⟨rfl, h⟩ | h
    · refine Or.inr ⟨1, 13, rfl, rfl, ?_⟩
      refine (zq_astoreE (l := [zR a0, zI a1, zI a2, zR a3, zE 999]) dL_foresee_13 (Nat.le_of_ble_eq_true rfl) rfl).mpr ?_
      refine (zq_iconst (v := 1) dL_foresee_15 (by decide)).mpr ?_
      exact (zq_iret dL_foresee_16 rfl).mpr ⟨trivial, h⟩
    · obtain ⟨rfl, h⟩ := h
      refine Or.inr ⟨2, 17, rfl, rfl, ?_⟩
      refine (zq_astoreE (l := [zR a0, zI a1, zI a2, zR a3, zE 999]) dL_foresee_17 (Nat.le_of_ble_eq_true rfl) rfl).mpr ?_
      refine (zq_iconst (v := 2) dL_foresee_19 (by decide)).mpr ?_
      exact (zq_iret dL_foresee_20 rfl).mpr ⟨trivial, h⟩
end ZB9
