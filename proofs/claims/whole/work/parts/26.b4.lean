section ZB4
variable {xs : Nat → Int} {xl d : Nat} {m : zM} {Q : zRes → zM → Prop}
theorem bX10_run_0 {a0 : Nat} {a1 : Int} (h : ((a1 < 1 → Q (.inr 1) (nwX m)) ∧ (¬ (a1 < 1) → ((a1 ≤ 200 → (mC m a0 = 11) ∧ (mC m (mR m 643 a0) = 10) ∧ zW xs xl d cX10_run 10 (some .int) false [] 32 [zR a0, zI a1, zI (mI m 583 (mR m 643 a0)), zI 0] [] m Q) ∧ (¬ (a1 ≤ 200) → Q (.inr 1) (nwX m)))))) : zC xs xl (d + 1) 120 [zR a0, zI a1] m Q := by
  refine zk_120 ?_
  refine (zq_iload_n dX10_run_0 rfl).mpr ?_
  refine (zq_iconst (v := 1) dX10_run_1 (by decide)).mpr ?_
  refine (zq_icmp_lt (t := 12) dX10_run_2 rfl).mpr ⟨fun c => ?_, fun c => ?_⟩
  · replace h := h.1 c
    exact (zq_throw dX10_run_12 nx_10_57 xr_10_57 dX10_run_15 dX10_run_16 dX10_run_18 dX10_run_21 (by decide)).mpr h
  · replace h := h.2 c
    refine (zq_iload_n dX10_run_5 rfl).mpr ?_
    refine (zq_sipush (v := 200) dX10_run_6 (by decide)).mpr ?_
    refine (zq_icmp_le (t := 22) dX10_run_9 rfl).mpr ⟨fun c => ?_, fun c => ?_⟩
    · replace h := h.1 c
      refine (zq_aload_n dX10_run_22 rfl).mpr ?_
      obtain ⟨g1, h⟩ := h
      refine (zq_getR2 (f := 643) (v := (mR m 643 a0)) dX10_run_23 fl_10_34 (by decide) rfl rfl (by first | rfl | simp only [zm_Is, zm_Rs, zm_As, zm_Os, zm_In0, zm_Rn0])).mpr ⟨g1, ?_⟩
      obtain ⟨g2, h⟩ := h
      refine (zq_getI2 (f := 583) (v := (mI m 583 (mR m 643 a0))) dX10_run_26 fl_10_238 (by decide) rfl rfl (by first | rfl | simp only [zm_Is, zm_Rs, zm_As, zm_Os, zm_In0, zm_Rn0])).mpr ⟨g2, ?_⟩
      refine (zq_istore_n (l := [zR a0, zI a1, zI (mI m 583 (mR m 643 a0)), zU]) dX10_run_29 (Nat.le_of_ble_eq_true rfl) rfl).mpr ?_
      refine (zq_iconst (v := 0) dX10_run_30 (by decide)).mpr ?_
      refine (zq_istore_n (l := [zR a0, zI a1, zI (mI m 583 (mR m 643 a0)), zI 0]) dX10_run_31 (Nat.le_of_ble_eq_true rfl) rfl).mpr ?_
      exact h
    · replace h := h.2 c
      exact (zq_throw dX10_run_12 nx_10_57 xr_10_57 dX10_run_15 dX10_run_16 dX10_run_18 dX10_run_21 (by decide)).mpr h
theorem bX10_run_32 {a0 : Nat} {a1 : Int} {a2 : Int} {a3 : Int} (h : ((a1 ≤ a3 → (mC m a0 = 11) ∧ (mC m (mR m 643 a0) = 10) ∧ Q (.inl (some (zI (wr ((mI m 583 (mR m 643 a0)) - a2))))) m) ∧ (¬ (a1 ≤ a3) → (mC m a0 = 11) ∧ (mC m (mR m 643 a0) = 10) ∧ zC xs xl d 85 [zR (mR m 643 a0)] m (fun r m4 => r = .inl none ∧ zW xs xl d cX10_run 10 (some .int) false [] 32 [zR a0, zI a1, zI a2, zI (wr (a3 + 1))] [] m4 Q)))) : zW xs xl d cX10_run 10 (some .int) false [] 32 [zR a0, zI a1, zI a2, zI a3] [] m Q := by
  refine (zq_iload_n dX10_run_32 rfl).mpr ?_
  refine (zq_iload_n dX10_run_33 rfl).mpr ?_
  refine (zq_icmp_ge (t := 50) dX10_run_34 rfl).mpr ⟨fun c => ?_, fun c => ?_⟩
  · replace h := h.1 c
    refine (zq_aload_n dX10_run_50 rfl).mpr ?_
    obtain ⟨g1, h⟩ := h
    refine (zq_getR2 (f := 643) (v := (mR m 643 a0)) dX10_run_51 fl_10_34 (by decide) rfl rfl (by first | rfl | simp only [zm_Is, zm_Rs, zm_As, zm_Os, zm_In0, zm_Rn0])).mpr ⟨g1, ?_⟩
    obtain ⟨g2, h⟩ := h
    refine (zq_getI2 (f := 583) (v := (mI m 583 (mR m 643 a0))) dX10_run_54 fl_10_238 (by decide) rfl rfl (by first | rfl | simp only [zm_Is, zm_Rs, zm_As, zm_Os, zm_In0, zm_Rn0])).mpr ⟨g2, ?_⟩
    refine (zq_iload_n dX10_run_57 rfl).mpr ?_
    refine (zq_isub dX10_run_58).mpr ?_
    exact (zq_iret dX10_run_59 rfl).mpr ⟨trivial, h⟩
  · replace h := h.2 c
    refine (zq_aload_n dX10_run_37 rfl).mpr ?_
    obtain ⟨g3, h⟩ := h
    refine (zq_getR2 (f := 643) (v := (mR m 643 a0)) dX10_run_38 fl_10_34 (by decide) rfl rfl (by first | rfl | simp only [zm_Is, zm_Rs, zm_As, zm_Os, zm_In0, zm_Rn0])).mpr ⟨g3, ?_⟩
    obtain ⟨g6, h⟩ := h
    refine zq_virtualV (n := 0) dX10_run_41 mr_10_241 zn_85 rfl rfl rfl (zrcv_R zo_85 (by decide) g6) (Nat.le_of_ble_eq_true rfl) ?_
    refine h.mono (fun r m4 h => ?_)
    obtain ⟨rfl, h⟩ := h
    refine ⟨rfl, ?_⟩
    refine (zq_iinc (l := [zR a0, zI a1, zI a2, zI (wr (a3 + 1))]) dX10_run_44 rfl rfl).mpr ?_
    refine (zq_goto (t := 32) dX10_run_47 rfl).mpr ?_
    exact h
theorem bX10_count_0 {a0 : Nat} {a1 : Int} (h : zC xs xl d 127 [zI a1, zI 9] m (fun r m1 => ∃ v2 : Int, r = .inl (some (zI v2)) ∧ ((v2 ≠ 0 → (mC m1 a0 = 11) ∧ (mC m1 (mR m1 643 a0) = 10) ∧ zC xs xl d 100 [zR (mR m1 643 a0), zI a1] m1 (fun r m4 => ∃ v5 : Int, r = .inl (some (zI v5)) ∧ Q (.inl (some (zI v5))) m4)) ∧ (¬ (v2 ≠ 0) → Q (.inr 2) (nwX m1))))) : zC xs xl (d + 1) 121 [zR a0, zI a1] m Q := by
  refine zk_121 ?_
  refine (zq_iload_n dX10_count_0 rfl).mpr ?_
  refine (zq_bipush (v := 9) dX10_count_1 (by decide)).mpr ?_
  refine zq_staticI (n := 2) dX10_count_3 mr_10_62 zn_127 rfl rfl (Nat.le_of_ble_eq_true rfl) (Nat.le_of_ble_eq_true rfl) ?_
  refine h.mono (fun r m1 h => ?_)
  obtain ⟨v2, rfl, h⟩ := h
  refine ⟨_, rfl, ?_⟩
  refine (zq_if_ne (t := 19) dX10_count_6 rfl).mpr ⟨fun c => ?_, fun c => ?_⟩
  · replace h := h.1 c
    refine (zq_aload_n dX10_count_19 rfl).mpr ?_
    obtain ⟨g3, h⟩ := h
    refine (zq_getR2 (f := 643) (v := (mR m1 643 a0)) dX10_count_20 fl_10_34 (by decide) rfl rfl (by first | rfl | simp only [zm_Is, zm_Rs, zm_As, zm_Os, zm_In0, zm_Rn0])).mpr ⟨g3, ?_⟩
    refine (zq_iload_n dX10_count_23 rfl).mpr ?_
    obtain ⟨g6, h⟩ := h
    refine zq_virtualI (n := 1) dX10_count_24 mr_10_246 zn_100 rfl rfl rfl (zrcv_R zo_100 (by decide) g6) (Nat.le_of_ble_eq_true rfl) ?_
    refine h.mono (fun r m4 h => ?_)
    obtain ⟨v5, rfl, h⟩ := h
    refine ⟨_, rfl, ?_⟩
    exact (zq_iret dX10_count_27 rfl).mpr ⟨trivial, h⟩
  · replace h := h.2 c
    exact (zq_throw dX10_count_9 nx_10_66 xr_10_66 dX10_count_12 dX10_count_13 dX10_count_15 dX10_count_18 (by decide)).mpr h
theorem bX10_hull_0 {a0 : Nat} {a1 : Int} {a2 : Int} (h : (mC m a0 = 11) ∧ (mC m (mR m 643 a0) = 10) ∧ zC xs xl d 94 [zR (mR m 643 a0)] m (fun r m2 => ∃ v3 : Int, r = .inl (some (zI v3)) ∧ zC xs xl d 127 [zI a1, zI v3] m2 (fun r m5 => ∃ v6 : Int, r = .inl (some (zI v6)) ∧ ((v6 = 0 → Q (.inr 2) (nwX m5)) ∧ (¬ (v6 = 0) → zC xs xl d 127 [zI a2, zI 6] m5 (fun r m7 => ∃ v8 : Int, r = .inl (some (zI v8)) ∧ ((v8 ≠ 0 → (mC m7 a0 = 11) ∧ (mC m7 (mR m7 643 a0) = 10) ∧ (29 ≤ mC m7 (mR m7 582 (mR m7 643 a0)) ∧ mC m7 (mR m7 582 (mR m7 643 a0)) < 43) ∧ (0 ≤ a1 ∧ a1 < mN m7 (mR m7 582 (mR m7 643 a0))) ∧ (mC m7 (mO m7 (mR m7 582 (mR m7 643 a0)) (Int.toNat a1)) = 20) ∧ (0 ≤ a2 ∧ a2 < mN m7 (mO m7 (mR m7 582 (mR m7 643 a0)) (Int.toNat a1))) ∧ Q (.inl (some (zI (mA m7 (mO m7 (mR m7 582 (mR m7 643 a0)) (Int.toNat a1)) (Int.toNat a2))))) m7) ∧ (¬ (v8 ≠ 0) → Q (.inr 2) (nwX m7))))))))) : zC xs xl (d + 1) 122 [zR a0, zI a1, zI a2] m Q := by
  refine zk_122 ?_
  refine (zq_iload_n dX10_hull_0 rfl).mpr ?_
  refine (zq_aload_n dX10_hull_1 rfl).mpr ?_
  obtain ⟨g1, h⟩ := h
  refine (zq_getR2 (f := 643) (v := (mR m 643 a0)) dX10_hull_2 fl_10_34 (by decide) rfl rfl (by first | rfl | simp only [zm_Is, zm_Rs, zm_As, zm_Os, zm_In0, zm_Rn0])).mpr ⟨g1, ?_⟩
  obtain ⟨g4, h⟩ := h
  refine zq_virtualI (n := 0) dX10_hull_5 mr_10_249 zn_94 rfl rfl rfl (zrcv_R zo_94 (by decide) g4) (Nat.le_of_ble_eq_true rfl) ?_
  refine h.mono (fun r m2 h => ?_)
  obtain ⟨v3, rfl, h⟩ := h
  refine ⟨_, rfl, ?_⟩
  refine zq_staticI (n := 2) dX10_hull_8 mr_10_62 zn_127 rfl rfl (Nat.le_of_ble_eq_true rfl) (Nat.le_of_ble_eq_true rfl) ?_
  refine h.mono (fun r m5 h => ?_)
  obtain ⟨v6, rfl, h⟩ := h
  refine ⟨_, rfl, ?_⟩
  refine (zq_if_eq (t := 23) dX10_hull_11 rfl).mpr ⟨fun c => ?_, fun c => ?_⟩
  · replace h := h.1 c
    exact (zq_throw dX10_hull_23 nx_10_66 xr_10_66 dX10_hull_26 dX10_hull_27 dX10_hull_29 dX10_hull_32 (by decide)).mpr h
  · replace h := h.2 c
    refine (zq_iload_n dX10_hull_14 rfl).mpr ?_
    refine (zq_bipush (v := 6) dX10_hull_15 (by decide)).mpr ?_
    refine zq_staticI (n := 2) dX10_hull_17 mr_10_62 zn_127 rfl rfl (Nat.le_of_ble_eq_true rfl) (Nat.le_of_ble_eq_true rfl) ?_
    refine h.mono (fun r m7 h => ?_)
    obtain ⟨v8, rfl, h⟩ := h
    refine ⟨_, rfl, ?_⟩
    refine (zq_if_ne (t := 33) dX10_hull_20 rfl).mpr ⟨fun c => ?_, fun c => ?_⟩
    · replace h := h.1 c
      refine (zq_aload_n dX10_hull_33 rfl).mpr ?_
      obtain ⟨g9, h⟩ := h
      refine (zq_getR2 (f := 643) (v := (mR m7 643 a0)) dX10_hull_34 fl_10_34 (by decide) rfl rfl (by first | rfl | simp only [zm_Is, zm_Rs, zm_As, zm_Os, zm_In0, zm_Rn0])).mpr ⟨g9, ?_⟩
      obtain ⟨g10, h⟩ := h
      refine (zq_getR2 (f := 582) (v := (mR m7 582 (mR m7 643 a0))) dX10_hull_37 fl_10_254 (by decide) rfl rfl (by first | rfl | simp only [zm_Is, zm_Rs, zm_As, zm_Os, zm_In0, zm_Rn0])).mpr ⟨g10, ?_⟩
      refine (zq_iload_n dX10_hull_40 rfl).mpr ?_
      obtain ⟨g11, h⟩ := h
      obtain ⟨g12, h⟩ := h
      refine (zq_aald2 (v := (mO m7 (mR m7 582 (mR m7 643 a0)) (Int.toNat a1))) dX10_hull_41 (by first | rfl | simp only [zm_Is, zm_Rs, zm_As, zm_Os, zm_In0, zm_Rn0])).mpr ⟨⟨g11.1, g11.2, g12⟩, ?_⟩
      refine (zq_iload_n dX10_hull_42 rfl).mpr ?_
      obtain ⟨g13, h⟩ := h
      obtain ⟨g14, h⟩ := h
      refine (zq_iald2 (v := (mA m7 (mO m7 (mR m7 582 (mR m7 643 a0)) (Int.toNat a1)) (Int.toNat a2))) dX10_hull_43 (by first | rfl | simp only [zm_Is, zm_Rs, zm_As, zm_Os, zm_In0, zm_Rn0])).mpr ⟨⟨g13, g14⟩, ?_⟩
      exact (zq_iret dX10_hull_44 rfl).mpr ⟨trivial, h⟩
    · replace h := h.2 c
      exact (zq_throw dX10_hull_23 nx_10_66 xr_10_66 dX10_hull_26 dX10_hull_27 dX10_hull_29 dX10_hull_32 (by decide)).mpr h
theorem bX10_foresee_0 {a0 : Nat} {a1 : Int} {a2 : Int} (h : ((a1 < 1 → Q (.inr 1) (nwX m)) ∧ (¬ (a1 < 1) → ((a1 ≤ 200 → zC xs xl d 127 [zI a2, zI 4] m (fun r m1 => ∃ v2 : Int, r = .inl (some (zI v2)) ∧ ((v2 ≠ 0 → (mC m1 a0 = 11) ∧ (mC m1 (mR m1 644 a0) = 10) ∧ zC xs xl d 101 [zR (mR m1 644 a0), zR (mR m1 643 a0)] m1 (fun r m4 => r = .inl none ∧ zW xs xl d cX10_foresee 10 (some .int) false [] 56 [zR a0, zI a1, zI a2, zI (-1), zI 0] [] m4 Q)) ∧ (¬ (v2 ≠ 0) → Q (.inr 2) (nwX m1))))) ∧ (¬ (a1 ≤ 200) → Q (.inr 1) (nwX m)))))) : zC xs xl (d + 1) 123 [zR a0, zI a1, zI a2] m Q := by
  refine zk_123 ?_
  refine (zq_iload_n dX10_foresee_0 rfl).mpr ?_
  refine (zq_iconst (v := 1) dX10_foresee_1 (by decide)).mpr ?_
  refine (zq_icmp_lt (t := 12) dX10_foresee_2 rfl).mpr ⟨fun c => ?_, fun c => ?_⟩
  · replace h := h.1 c
    exact (zq_throw dX10_foresee_12 nx_10_57 xr_10_57 dX10_foresee_15 dX10_foresee_16 dX10_foresee_18 dX10_foresee_21 (by decide)).mpr h
  · replace h := h.2 c
    refine (zq_iload_n dX10_foresee_5 rfl).mpr ?_
    refine (zq_sipush (v := 200) dX10_foresee_6 (by decide)).mpr ?_
    refine (zq_icmp_le (t := 22) dX10_foresee_9 rfl).mpr ⟨fun c => ?_, fun c => ?_⟩
    · replace h := h.1 c
      refine (zq_iload_n dX10_foresee_22 rfl).mpr ?_
      refine (zq_iconst (v := 4) dX10_foresee_23 (by decide)).mpr ?_
      refine zq_staticI (n := 2) dX10_foresee_24 mr_10_62 zn_127 rfl rfl (Nat.le_of_ble_eq_true rfl) (Nat.le_of_ble_eq_true rfl) ?_
      refine h.mono (fun r m1 h => ?_)
      obtain ⟨v2, rfl, h⟩ := h
      refine ⟨_, rfl, ?_⟩
      refine (zq_if_ne (t := 40) dX10_foresee_27 rfl).mpr ⟨fun c => ?_, fun c => ?_⟩
      · replace h := h.1 c
        refine (zq_aload_n dX10_foresee_40 rfl).mpr ?_
        obtain ⟨g3, h⟩ := h
        refine (zq_getR2 (f := 644) (v := (mR m1 644 a0)) dX10_foresee_41 fl_10_38 (by decide) rfl rfl (by first | rfl | simp only [zm_Is, zm_Rs, zm_As, zm_Os, zm_In0, zm_Rn0])).mpr ⟨g3, ?_⟩
        refine (zq_aload_n dX10_foresee_44 rfl).mpr ?_
        refine (zq_getR2 (f := 643) (v := (mR m1 643 a0)) dX10_foresee_45 fl_10_34 (by decide) rfl rfl (by first | rfl | simp only [zm_Is, zm_Rs, zm_As, zm_Os, zm_In0, zm_Rn0])).mpr ⟨g3, ?_⟩
        obtain ⟨g6, h⟩ := h
        refine zq_virtualV (n := 1) dX10_foresee_48 mr_10_258 zn_101 rfl rfl rfl (zrcv_R zo_101 (by decide) g6) (Nat.le_of_ble_eq_true rfl) ?_
        refine h.mono (fun r m4 h => ?_)
        obtain ⟨rfl, h⟩ := h
        refine ⟨rfl, ?_⟩
        refine (zq_iconst (v := (-1)) dX10_foresee_51 (by decide)).mpr ?_
        refine (zq_istore_n (l := [zR a0, zI a1, zI a2, zI (-1), zU]) dX10_foresee_52 (Nat.le_of_ble_eq_true rfl) rfl).mpr ?_
        refine (zq_iconst (v := 0) dX10_foresee_53 (by decide)).mpr ?_
        refine (zq_istore (l := [zR a0, zI a1, zI a2, zI (-1), zI 0]) dX10_foresee_54 (Nat.le_of_ble_eq_true rfl) rfl).mpr ?_
        exact h
      · replace h := h.2 c
        exact (zq_throw dX10_foresee_30 nx_10_66 xr_10_66 dX10_foresee_33 dX10_foresee_34 dX10_foresee_36 dX10_foresee_39 (by decide)).mpr h
    · replace h := h.2 c
      exact (zq_throw dX10_foresee_12 nx_10_57 xr_10_57 dX10_foresee_15 dX10_foresee_16 dX10_foresee_18 dX10_foresee_21 (by decide)).mpr h
theorem bX10_foresee_56 {a0 : Nat} {a1 : Int} {a2 : Int} {a3 : Int} {a4 : Int} (h : ((a1 ≤ a4 → ((a2 = 0 → (mC m a0 = 11) ∧ (mC m (mR m 644 a0) = 10) ∧ (mC m (mR m 643 a0) = 10) ∧ Q (.inl (some (zI (wr ((mI m 583 (mR m 644 a0)) - (mI m 583 (mR m 643 a0))))))) m) ∧ (a2 ≠ 0 → ((a2 = 1 → (mC m a0 = 11) ∧ (mC m (mR m 644 a0) = 10) ∧ (mC m (mR m 643 a0) = 10) ∧ Q (.inl (some (zI (wr ((mI m 584 (mR m 644 a0)) - (mI m 584 (mR m 643 a0))))))) m) ∧ (a2 ≠ 1 → ((a2 = 2 → (mC m a0 = 11) ∧ (mC m (mR m 644 a0) = 10) ∧ zC xs xl d 95 [zR (mR m 644 a0)] m (fun r m8 => ∃ v9 : Int, r = .inl (some (zI v9)) ∧ Q (.inl (some (zI v9))) m8)) ∧ (a2 ≠ 2 → Q (.inl (some (zI a3))) m))))))) ∧ (¬ (a1 ≤ a4) → (mC m a0 = 11) ∧ (mC m (mR m 644 a0) = 10) ∧ zC xs xl d 85 [zR (mR m 644 a0)] m (fun r m12 => r = .inl none ∧ ((0 ≤ a3 → zW xs xl d cX10_foresee 10 (some .int) false [] 56 [zR a0, zI a1, zI a2, zI a3, zI (wr (a4 + 1))] [] m12 Q) ∧ (¬ (0 ≤ a3) → (mC m12 a0 = 11) ∧ (mC m12 (mR m12 644 a0) = 10) ∧ (mC m12 (mR m12 643 a0) = 10) ∧ (((mI m12 583 (mR m12 644 a0)) ≤ (mI m12 583 (mR m12 643 a0)) → zW xs xl d cX10_foresee 10 (some .int) false [] 56 [zR a0, zI a1, zI a2, zI a3, zI (wr (a4 + 1))] [] m12 Q) ∧ (¬ ((mI m12 583 (mR m12 644 a0)) ≤ (mI m12 583 (mR m12 643 a0))) → zW xs xl d cX10_foresee 10 (some .int) false [] 56 [zR a0, zI a1, zI a2, zI (mI m12 576 (mR m12 644 a0)), zI (wr (a4 + 1))] [] m12 Q)))))))) : zW xs xl d cX10_foresee 10 (some .int) false [] 56 [zR a0, zI a1, zI a2, zI a3, zI a4] [] m Q := by
  refine (zq_iload dX10_foresee_56 rfl).mpr ?_
  refine (zq_iload_n dX10_foresee_58 rfl).mpr ?_
  refine (zq_icmp_ge (t := 104) dX10_foresee_59 rfl).mpr ⟨fun c => ?_, fun c => ?_⟩
  · replace h := h.1 c
    refine (zq_iload_n dX10_foresee_104 rfl).mpr ?_
    refine (zq_tab (td := 172) (r := [132, 148, 164]) dX10_foresee_105 rfl rfl rfl).mpr ?_
    refine ⟨fun c => ?_, fun c => ?_⟩
    · replace h := h.1 c
      refine (zq_aload_n dX10_foresee_132 rfl).mpr ?_
      obtain ⟨g1, h⟩ := h
      refine (zq_getR2 (f := 644) (v := (mR m 644 a0)) dX10_foresee_133 fl_10_38 (by decide) rfl rfl (by first | rfl | simp only [zm_Is, zm_Rs, zm_As, zm_Os, zm_In0, zm_Rn0])).mpr ⟨g1, ?_⟩
      obtain ⟨g2, h⟩ := h
      refine (zq_getI2 (f := 583) (v := (mI m 583 (mR m 644 a0))) dX10_foresee_136 fl_10_238 (by decide) rfl rfl (by first | rfl | simp only [zm_Is, zm_Rs, zm_As, zm_Os, zm_In0, zm_Rn0])).mpr ⟨g2, ?_⟩
      refine (zq_aload_n dX10_foresee_139 rfl).mpr ?_
      refine (zq_getR2 (f := 643) (v := (mR m 643 a0)) dX10_foresee_140 fl_10_34 (by decide) rfl rfl (by first | rfl | simp only [zm_Is, zm_Rs, zm_As, zm_Os, zm_In0, zm_Rn0])).mpr ⟨g1, ?_⟩
      obtain ⟨g3, h⟩ := h
      refine (zq_getI2 (f := 583) (v := (mI m 583 (mR m 643 a0))) dX10_foresee_143 fl_10_238 (by decide) rfl rfl (by first | rfl | simp only [zm_Is, zm_Rs, zm_As, zm_Os, zm_In0, zm_Rn0])).mpr ⟨g3, ?_⟩
      refine (zq_isub dX10_foresee_146).mpr ?_
      exact (zq_iret dX10_foresee_147 rfl).mpr ⟨trivial, h⟩
    · replace h := h.2 c
      refine ⟨fun c => ?_, fun c => ?_⟩
      · replace h := h.1 c
        refine (zq_aload_n dX10_foresee_148 rfl).mpr ?_
        obtain ⟨g4, h⟩ := h
        refine (zq_getR2 (f := 644) (v := (mR m 644 a0)) dX10_foresee_149 fl_10_38 (by decide) rfl rfl (by first | rfl | simp only [zm_Is, zm_Rs, zm_As, zm_Os, zm_In0, zm_Rn0])).mpr ⟨g4, ?_⟩
        obtain ⟨g5, h⟩ := h
        refine (zq_getI2 (f := 584) (v := (mI m 584 (mR m 644 a0))) dX10_foresee_152 fl_10_262 (by decide) rfl rfl (by first | rfl | simp only [zm_Is, zm_Rs, zm_As, zm_Os, zm_In0, zm_Rn0])).mpr ⟨g5, ?_⟩
        refine (zq_aload_n dX10_foresee_155 rfl).mpr ?_
        refine (zq_getR2 (f := 643) (v := (mR m 643 a0)) dX10_foresee_156 fl_10_34 (by decide) rfl rfl (by first | rfl | simp only [zm_Is, zm_Rs, zm_As, zm_Os, zm_In0, zm_Rn0])).mpr ⟨g4, ?_⟩
        obtain ⟨g6, h⟩ := h
        refine (zq_getI2 (f := 584) (v := (mI m 584 (mR m 643 a0))) dX10_foresee_159 fl_10_262 (by decide) rfl rfl (by first | rfl | simp only [zm_Is, zm_Rs, zm_As, zm_Os, zm_In0, zm_Rn0])).mpr ⟨g6, ?_⟩
        refine (zq_isub dX10_foresee_162).mpr ?_
        exact (zq_iret dX10_foresee_163 rfl).mpr ⟨trivial, h⟩
      · replace h := h.2 c
        refine ⟨fun c => ?_, fun c => ?_⟩
        · replace h := h.1 c
          refine (zq_aload_n dX10_foresee_164 rfl).mpr ?_
          obtain ⟨g7, h⟩ := h
          refine (zq_getR2 (f := 644) (v := (mR m 644 a0)) dX10_foresee_165 fl_10_38 (by decide) rfl rfl (by first | rfl | simp only [zm_Is, zm_Rs, zm_As, zm_Os, zm_In0, zm_Rn0])).mpr ⟨g7, ?_⟩
          obtain ⟨g10, h⟩ := h
          refine zq_virtualI (n := 0) dX10_foresee_168 mr_10_233 zn_95 rfl rfl rfl (zrcv_R zo_95 (by decide) g10) (Nat.le_of_ble_eq_true rfl) ?_
          refine h.mono (fun r m8 h => ?_)
          obtain ⟨v9, rfl, h⟩ := h
          refine ⟨_, rfl, ?_⟩
          exact (zq_iret dX10_foresee_171 rfl).mpr ⟨trivial, h⟩
        · replace h := h.2 c
          refine (zq_iload_n dX10_foresee_172 rfl).mpr ?_
          exact (zq_iret dX10_foresee_173 rfl).mpr ⟨trivial, h⟩
  · replace h := h.2 c
    refine (zq_aload_n dX10_foresee_62 rfl).mpr ?_
    obtain ⟨g11, h⟩ := h
    refine (zq_getR2 (f := 644) (v := (mR m 644 a0)) dX10_foresee_63 fl_10_38 (by decide) rfl rfl (by first | rfl | simp only [zm_Is, zm_Rs, zm_As, zm_Os, zm_In0, zm_Rn0])).mpr ⟨g11, ?_⟩
    obtain ⟨g14, h⟩ := h
    refine zq_virtualV (n := 0) dX10_foresee_66 mr_10_241 zn_85 rfl rfl rfl (zrcv_R zo_85 (by decide) g14) (Nat.le_of_ble_eq_true rfl) ?_
    refine h.mono (fun r m12 h => ?_)
    obtain ⟨rfl, h⟩ := h
    refine ⟨rfl, ?_⟩
    refine (zq_iload_n dX10_foresee_69 rfl).mpr ?_
    refine (zq_if_ge (t := 98) dX10_foresee_70 rfl).mpr ⟨fun c => ?_, fun c => ?_⟩
    · replace h := h.1 c
      refine (zq_iinc (l := [zR a0, zI a1, zI a2, zI a3, zI (wr (a4 + 1))]) dX10_foresee_98 rfl rfl).mpr ?_
      refine (zq_goto (t := 56) dX10_foresee_101 rfl).mpr ?_
      exact h
    · replace h := h.2 c
      refine (zq_aload_n dX10_foresee_73 rfl).mpr ?_
      obtain ⟨g15, h⟩ := h
      refine (zq_getR2 (f := 644) (v := (mR m12 644 a0)) dX10_foresee_74 fl_10_38 (by decide) rfl rfl (by first | rfl | simp only [zm_Is, zm_Rs, zm_As, zm_Os, zm_In0, zm_Rn0])).mpr ⟨g15, ?_⟩
      obtain ⟨g16, h⟩ := h
      refine (zq_getI2 (f := 583) (v := (mI m12 583 (mR m12 644 a0))) dX10_foresee_77 fl_10_238 (by decide) rfl rfl (by first | rfl | simp only [zm_Is, zm_Rs, zm_As, zm_Os, zm_In0, zm_Rn0])).mpr ⟨g16, ?_⟩
      refine (zq_aload_n dX10_foresee_80 rfl).mpr ?_
      refine (zq_getR2 (f := 643) (v := (mR m12 643 a0)) dX10_foresee_81 fl_10_34 (by decide) rfl rfl (by first | rfl | simp only [zm_Is, zm_Rs, zm_As, zm_Os, zm_In0, zm_Rn0])).mpr ⟨g15, ?_⟩
      obtain ⟨g17, h⟩ := h
      refine (zq_getI2 (f := 583) (v := (mI m12 583 (mR m12 643 a0))) dX10_foresee_84 fl_10_238 (by decide) rfl rfl (by first | rfl | simp only [zm_Is, zm_Rs, zm_As, zm_Os, zm_In0, zm_Rn0])).mpr ⟨g17, ?_⟩
      refine (zq_icmp_le (t := 98) dX10_foresee_87 rfl).mpr ⟨fun c => ?_, fun c => ?_⟩
      · replace h := h.1 c
        refine (zq_iinc (l := [zR a0, zI a1, zI a2, zI a3, zI (wr (a4 + 1))]) dX10_foresee_98 rfl rfl).mpr ?_
        refine (zq_goto (t := 56) dX10_foresee_101 rfl).mpr ?_
        exact h
      · replace h := h.2 c
        refine (zq_aload_n dX10_foresee_90 rfl).mpr ?_
        refine (zq_getR2 (f := 644) (v := (mR m12 644 a0)) dX10_foresee_91 fl_10_38 (by decide) rfl rfl (by first | rfl | simp only [zm_Is, zm_Rs, zm_As, zm_Os, zm_In0, zm_Rn0])).mpr ⟨g15, ?_⟩
        refine (zq_getI2 (f := 576) (v := (mI m12 576 (mR m12 644 a0))) dX10_foresee_94 fl_10_180 (by decide) rfl rfl (by first | rfl | simp only [zm_Is, zm_Rs, zm_As, zm_Os, zm_In0, zm_Rn0])).mpr ⟨g16, ?_⟩
        refine (zq_istore_n (l := [zR a0, zI a1, zI a2, zI (mI m12 576 (mR m12 644 a0)), zI a4]) dX10_foresee_97 (Nat.le_of_ble_eq_true rfl) rfl).mpr ?_
        refine (zq_iinc (l := [zR a0, zI a1, zI a2, zI (mI m12 576 (mR m12 644 a0)), zI (wr (a4 + 1))]) dX10_foresee_98 rfl rfl).mpr ?_
        refine (zq_goto (t := 56) dX10_foresee_101 rfl).mpr ?_
        exact h
theorem bX10_flaw_0 {a0 : Nat} (h : zW xs xl d cX10_flaw 10 (some .double) false [] 6 [zR a0, zI 0, zI 0, zI 0] [] m Q) : zC xs xl (d + 1) 124 [zR a0] m Q := by
  refine zk_124 ?_
  refine (zq_iconst (v := 0) dX10_flaw_0 (by decide)).mpr ?_
  refine (zq_istore_n (l := [zR a0, zI 0, zU, zU]) dX10_flaw_1 (Nat.le_of_ble_eq_true rfl) rfl).mpr ?_
  refine (zq_iconst (v := 0) dX10_flaw_2 (by decide)).mpr ?_
  refine (zq_istore_n (l := [zR a0, zI 0, zI 0, zU]) dX10_flaw_3 (Nat.le_of_ble_eq_true rfl) rfl).mpr ?_
  refine (zq_iconst (v := 0) dX10_flaw_4 (by decide)).mpr ?_
  refine (zq_istore_n (l := [zR a0, zI 0, zI 0, zI 0]) dX10_flaw_5 (Nat.le_of_ble_eq_true rfl) rfl).mpr ?_
  exact h
theorem bX10_flaw_6 {a0 : Nat} {a1 : Int} {a2 : Int} {a3 : Int} (h : (mC m a0 = 11) ∧ (mC m (mR m 643 a0) = 10) ∧ zC xs xl d 94 [zR (mR m 643 a0)] m (fun r m2 => ∃ v3 : Int, r = .inl (some (zI v3)) ∧ ((v3 ≤ a3 → ((a2 ≠ 0 → (vf_n64 (FP.ddiv (FP.i2d (Int32.ofInt a1)) (FP.i2d (Int32.ofInt a2)))) ∧ Q (.inl (some (zD (FP.ddiv (FP.i2d (Int32.ofInt a1)) (FP.i2d (Int32.ofInt a2)))))) m2) ∧ (¬ (a2 ≠ 0) → Q (.inl (some (zD FP.dconst0))) m2))) ∧ (¬ (v3 ≤ a3) → (mC m2 a0 = 11) ∧ (mC m2 (mR m2 643 a0) = 10) ∧ (29 ≤ mC m2 (mR m2 582 (mR m2 643 a0)) ∧ mC m2 (mR m2 582 (mR m2 643 a0)) < 43) ∧ (0 ≤ a3 ∧ a3 < mN m2 (mR m2 582 (mR m2 643 a0))) ∧ (mC m2 (mO m2 (mR m2 582 (mR m2 643 a0)) (Int.toNat a3)) = 20) ∧ ((2 : Int) < mN m2 (mO m2 (mR m2 582 (mR m2 643 a0)) (Int.toNat a3))) ∧ ((3 : Int) < mN m2 (mO m2 (mR m2 582 (mR m2 643 a0)) (Int.toNat a3))) ∧ zW xs xl d cX10_flaw 10 (some .double) false [] 6 [zR a0, zI (wr (a1 + (mA m2 (mO m2 (mR m2 582 (mR m2 643 a0)) (Int.toNat a3)) 3))), zI (wr (a2 + (mA m2 (mO m2 (mR m2 582 (mR m2 643 a0)) (Int.toNat a3)) 2))), zI (wr (a3 + 1))] [] m2 Q)))) : zW xs xl d cX10_flaw 10 (some .double) false [] 6 [zR a0, zI a1, zI a2, zI a3] [] m Q := by
  refine (zq_iload_n dX10_flaw_6 rfl).mpr ?_
  refine (zq_aload_n dX10_flaw_7 rfl).mpr ?_
  obtain ⟨g1, h⟩ := h
  refine (zq_getR2 (f := 643) (v := (mR m 643 a0)) dX10_flaw_8 fl_10_34 (by decide) rfl rfl (by first | rfl | simp only [zm_Is, zm_Rs, zm_As, zm_Os, zm_In0, zm_Rn0])).mpr ⟨g1, ?_⟩
  obtain ⟨g4, h⟩ := h
  refine zq_virtualI (n := 0) dX10_flaw_11 mr_10_249 zn_94 rfl rfl rfl (zrcv_R zo_94 (by decide) g4) (Nat.le_of_ble_eq_true rfl) ?_
  refine h.mono (fun r m2 h => ?_)
  obtain ⟨v3, rfl, h⟩ := h
  refine ⟨_, rfl, ?_⟩
  refine (zq_icmp_ge (t := 51) dX10_flaw_14 rfl).mpr ⟨fun c => ?_, fun c => ?_⟩
  · replace h := h.1 c
    refine (zq_iload_n dX10_flaw_51 rfl).mpr ?_
    refine (zq_if_ne (t := 59) dX10_flaw_52 rfl).mpr ⟨fun c => ?_, fun c => ?_⟩
    · replace h := h.1 c
      refine (zq_iload_n dX10_flaw_59 rfl).mpr ?_
      refine (zq_i2d dX10_flaw_60).mpr ?_
      refine (zq_iload_n dX10_flaw_61 rfl).mpr ?_
      refine (zq_i2d dX10_flaw_62).mpr ?_
      obtain ⟨g5, h⟩ := h
      refine (zq_ddiv dX10_flaw_63).mpr ⟨g5, ?_⟩
      exact (zq_dret dX10_flaw_64 rfl).mpr h
    · replace h := h.2 c
      refine (zq_dconst dX10_flaw_55).mpr ?_
      refine (zq_goto (t := 64) dX10_flaw_56 rfl).mpr ?_
      exact (zq_dret dX10_flaw_64 rfl).mpr h
  · replace h := h.2 c
    refine (zq_iload_n dX10_flaw_17 rfl).mpr ?_
    refine (zq_aload_n dX10_flaw_18 rfl).mpr ?_
    obtain ⟨g6, h⟩ := h
    refine (zq_getR2 (f := 643) (v := (mR m2 643 a0)) dX10_flaw_19 fl_10_34 (by decide) rfl rfl (by first | rfl | simp only [zm_Is, zm_Rs, zm_As, zm_Os, zm_In0, zm_Rn0])).mpr ⟨g6, ?_⟩
    obtain ⟨g7, h⟩ := h
    refine (zq_getR2 (f := 582) (v := (mR m2 582 (mR m2 643 a0))) dX10_flaw_22 fl_10_254 (by decide) rfl rfl (by first | rfl | simp only [zm_Is, zm_Rs, zm_As, zm_Os, zm_In0, zm_Rn0])).mpr ⟨g7, ?_⟩
    refine (zq_iload_n dX10_flaw_25 rfl).mpr ?_
    obtain ⟨g8, h⟩ := h
    obtain ⟨g9, h⟩ := h
    refine (zq_aald2 (v := (mO m2 (mR m2 582 (mR m2 643 a0)) (Int.toNat a3))) dX10_flaw_26 (by first | rfl | simp only [zm_Is, zm_Rs, zm_As, zm_Os, zm_In0, zm_Rn0])).mpr ⟨⟨g8.1, g8.2, g9⟩, ?_⟩
    refine (zq_iconst (v := 2) dX10_flaw_27 (by decide)).mpr ?_
    obtain ⟨g10, h⟩ := h
    obtain ⟨g11, h⟩ := h
    refine (zq_iald2 (v := (mA m2 (mO m2 (mR m2 582 (mR m2 643 a0)) (Int.toNat a3)) 2)) dX10_flaw_28 (by first | rfl | simp only [zm_Is, zm_Rs, zm_As, zm_Os, zm_In0, zm_Rn0])).mpr ⟨⟨g10, ⟨by decide, g11⟩⟩, ?_⟩
    refine (zq_iadd dX10_flaw_29).mpr ?_
    refine (zq_istore_n (l := [zR a0, zI a1, zI (wr (a2 + (mA m2 (mO m2 (mR m2 582 (mR m2 643 a0)) (Int.toNat a3)) 2))), zI a3]) dX10_flaw_30 (Nat.le_of_ble_eq_true rfl) rfl).mpr ?_
    refine (zq_iload_n dX10_flaw_31 rfl).mpr ?_
    refine (zq_aload_n dX10_flaw_32 rfl).mpr ?_
    refine (zq_getR2 (f := 643) (v := (mR m2 643 a0)) dX10_flaw_33 fl_10_34 (by decide) rfl rfl (by first | rfl | simp only [zm_Is, zm_Rs, zm_As, zm_Os, zm_In0, zm_Rn0])).mpr ⟨g6, ?_⟩
    refine (zq_getR2 (f := 582) (v := (mR m2 582 (mR m2 643 a0))) dX10_flaw_36 fl_10_254 (by decide) rfl rfl (by first | rfl | simp only [zm_Is, zm_Rs, zm_As, zm_Os, zm_In0, zm_Rn0])).mpr ⟨g7, ?_⟩
    refine (zq_iload_n dX10_flaw_39 rfl).mpr ?_
    refine (zq_aald2 (v := (mO m2 (mR m2 582 (mR m2 643 a0)) (Int.toNat a3))) dX10_flaw_40 (by first | rfl | simp only [zm_Is, zm_Rs, zm_As, zm_Os, zm_In0, zm_Rn0])).mpr ⟨⟨g8.1, g8.2, g9⟩, ?_⟩
    refine (zq_iconst (v := 3) dX10_flaw_41 (by decide)).mpr ?_
    obtain ⟨g12, h⟩ := h
    refine (zq_iald2 (v := (mA m2 (mO m2 (mR m2 582 (mR m2 643 a0)) (Int.toNat a3)) 3)) dX10_flaw_42 (by first | rfl | simp only [zm_Is, zm_Rs, zm_As, zm_Os, zm_In0, zm_Rn0])).mpr ⟨⟨g10, ⟨by decide, g12⟩⟩, ?_⟩
    refine (zq_iadd dX10_flaw_43).mpr ?_
    refine (zq_istore_n (l := [zR a0, zI (wr (a1 + (mA m2 (mO m2 (mR m2 582 (mR m2 643 a0)) (Int.toNat a3)) 3))), zI (wr (a2 + (mA m2 (mO m2 (mR m2 582 (mR m2 643 a0)) (Int.toNat a3)) 2))), zI a3]) dX10_flaw_44 (Nat.le_of_ble_eq_true rfl) rfl).mpr ?_
    refine (zq_iinc (l := [zR a0, zI (wr (a1 + (mA m2 (mO m2 (mR m2 582 (mR m2 643 a0)) (Int.toNat a3)) 3))), zI (wr (a2 + (mA m2 (mO m2 (mR m2 582 (mR m2 643 a0)) (Int.toNat a3)) 2))), zI (wr (a3 + 1))]) dX10_flaw_45 rfl rfl).mpr ?_
    refine (zq_goto (t := 6) dX10_flaw_48 rfl).mpr ?_
    exact h
theorem bX10_digest_0 {a0 : Nat} (h : zW xs xl d cX10_digest 10 (some .long) false [] 6 [zR a0, zL 467, zU, zI 0, zU] [] m Q) : zC xs xl (d + 1) 125 [zR a0] m Q := by
  refine zk_125 ?_
  refine (zq_ldc2 dX10_digest_0 cq_10_265).mpr ?_
  refine (zq_lstore_n (l := [zR a0, zL 467, zU, zU, zU]) dX10_digest_3 (Nat.le_of_ble_eq_true rfl) rfl).mpr ?_
  refine (zq_iconst (v := 0) dX10_digest_4 (by decide)).mpr ?_
  refine (zq_istore_n (l := [zR a0, zL 467, zU, zI 0, zU]) dX10_digest_5 (Nat.le_of_ble_eq_true rfl) rfl).mpr ?_
  exact h
theorem bX10_digest_6 {a0 : Nat} {a1 : Int} {a2 : zV} {a3 : Int} {a4 : zV} (h : ((9 ≤ a3 → zW xs xl d cX10_digest 10 (some .long) false [] 36 [zR a0, zL a1, (zcl a2), zI 0, a4] [] m Q) ∧ (¬ (9 ≤ a3) → (mC m a0 = 11) ∧ (mC m (mR m 643 a0) = 10) ∧ zC xs xl d 100 [zR (mR m 643 a0), zI a3] m (fun r m2 => ∃ v3 : Int, r = .inl (some (zI v3)) ∧ zW xs xl d cX10_digest 10 (some .long) false [] 6 [zR a0, zL (wl ((wl (a1 * 31)) + v3)), zU, zI (wr (a3 + 1)), a4] [] m2 Q)))) : zW xs xl d cX10_digest 10 (some .long) false [] 6 [zR a0, zL a1, a2, zI a3, a4] [] m Q := by
  refine (zq_iload_n dX10_digest_6 rfl).mpr ?_
  refine (zq_bipush (v := 9) dX10_digest_7 (by decide)).mpr ?_
  refine (zq_icmp_ge (t := 34) dX10_digest_9 rfl).mpr ⟨fun c => ?_, fun c => ?_⟩
  · replace h := h.1 c
    refine (zq_iconst (v := 0) dX10_digest_34 (by decide)).mpr ?_
    refine (zq_istore_n (l := [zR a0, zL a1, (zcl a2), zI 0, a4]) dX10_digest_35 (Nat.le_of_ble_eq_true rfl) rfl).mpr ?_
    exact h
  · replace h := h.2 c
    refine (zq_lload_n dX10_digest_12 rfl).mpr ?_
    refine (zq_ldc2 dX10_digest_13 cq_10_267).mpr ?_
    refine (zq_lmul dX10_digest_16).mpr ?_
    refine (zq_aload_n dX10_digest_17 rfl).mpr ?_
    obtain ⟨g1, h⟩ := h
    refine (zq_getR2 (f := 643) (v := (mR m 643 a0)) dX10_digest_18 fl_10_34 (by decide) rfl rfl (by first | rfl | simp only [zm_Is, zm_Rs, zm_As, zm_Os, zm_In0, zm_Rn0])).mpr ⟨g1, ?_⟩
    refine (zq_iload_n dX10_digest_21 rfl).mpr ?_
    obtain ⟨g4, h⟩ := h
    refine zq_virtualI (n := 1) dX10_digest_22 mr_10_246 zn_100 rfl rfl rfl (zrcv_R zo_100 (by decide) g4) (Nat.le_of_ble_eq_true rfl) ?_
    refine h.mono (fun r m2 h => ?_)
    obtain ⟨v3, rfl, h⟩ := h
    refine ⟨_, rfl, ?_⟩
    refine (zq_i2l dX10_digest_25).mpr ?_
    refine (zq_ladd dX10_digest_26).mpr ?_
    refine (zq_lstore_n (l := [zR a0, zL (wl ((wl (a1 * 31)) + v3)), zU, zI a3, a4]) dX10_digest_27 (Nat.le_of_ble_eq_true rfl) rfl).mpr ?_
    refine (zq_iinc (l := [zR a0, zL (wl ((wl (a1 * 31)) + v3)), zU, zI (wr (a3 + 1)), a4]) dX10_digest_28 rfl rfl).mpr ?_
    refine (zq_goto (t := 6) dX10_digest_31 rfl).mpr ?_
    exact h
theorem bX10_digest_36 {a0 : Nat} {a1 : Int} {a2 : zV} {a3 : Int} {a4 : zV} (h : ((6 ≤ a3 → zW xs xl d cX10_digest 10 (some .long) false [] 84 [zR a0, zL a1, (zcl a2), zI 0, a4] [] m Q) ∧ (¬ (6 ≤ a3) → zW xs xl d cX10_digest 10 (some .long) false [] 45 [zR a0, zL a1, a2, zI a3, zI 0] [] m Q))) : zW xs xl d cX10_digest 10 (some .long) false [] 36 [zR a0, zL a1, a2, zI a3, a4] [] m Q := by
  refine (zq_iload_n dX10_digest_36 rfl).mpr ?_
  refine (zq_bipush (v := 6) dX10_digest_37 (by decide)).mpr ?_
  refine (zq_icmp_ge (t := 82) dX10_digest_39 rfl).mpr ⟨fun c => ?_, fun c => ?_⟩
  · replace h := h.1 c
    refine (zq_iconst (v := 0) dX10_digest_82 (by decide)).mpr ?_
    refine (zq_istore_n (l := [zR a0, zL a1, (zcl a2), zI 0, a4]) dX10_digest_83 (Nat.le_of_ble_eq_true rfl) rfl).mpr ?_
    exact h
  · replace h := h.2 c
    refine (zq_iconst (v := 0) dX10_digest_42 (by decide)).mpr ?_
    refine (zq_istore (l := [zR a0, zL a1, a2, zI a3, zI 0]) dX10_digest_43 (Nat.le_of_ble_eq_true rfl) rfl).mpr ?_
    exact h
theorem bX10_digest_45 {a0 : Nat} {a1 : Int} {a2 : zV} {a3 : Int} {a4 : Int} (h : ((4 ≤ a4 → zW xs xl d cX10_digest 10 (some .long) false [] 36 [zR a0, zL a1, (zcl a2), zI (wr (a3 + 1)), zI a4] [] m Q) ∧ (¬ (4 ≤ a4) → (mC m a0 = 11) ∧ (29 ≤ mC m (mR m 642 a0) ∧ mC m (mR m 642 a0) < 43) ∧ (0 ≤ a3 ∧ a3 < mN m (mR m 642 a0)) ∧ (mC m (mO m (mR m 642 a0) (Int.toNat a3)) = 4) ∧ zC xs xl d 34 [zR (mO m (mR m 642 a0) (Int.toNat a3)), zI a4] m (fun r m4 => ∃ v5 : Int, r = .inl (some (zI v5)) ∧ zW xs xl d cX10_digest 10 (some .long) false [] 45 [zR a0, zL (wl ((wl (a1 * 31)) + v5)), zU, zI a3, zI (wr (a4 + 1))] [] m4 Q)))) : zW xs xl d cX10_digest 10 (some .long) false [] 45 [zR a0, zL a1, a2, zI a3, zI a4] [] m Q := by
  refine (zq_iload dX10_digest_45 rfl).mpr ?_
  refine (zq_iconst (v := 4) dX10_digest_47 (by decide)).mpr ?_
  refine (zq_icmp_ge (t := 76) dX10_digest_48 rfl).mpr ⟨fun c => ?_, fun c => ?_⟩
  · replace h := h.1 c
    refine (zq_iinc (l := [zR a0, zL a1, (zcl a2), zI (wr (a3 + 1)), zI a4]) dX10_digest_76 rfl rfl).mpr ?_
    refine (zq_goto (t := 36) dX10_digest_79 rfl).mpr ?_
    exact h
  · replace h := h.2 c
    refine (zq_lload_n dX10_digest_51 rfl).mpr ?_
    refine (zq_ldc2 dX10_digest_52 cq_10_267).mpr ?_
    refine (zq_lmul dX10_digest_55).mpr ?_
    refine (zq_aload_n dX10_digest_56 rfl).mpr ?_
    obtain ⟨g1, h⟩ := h
    refine (zq_getR2 (f := 642) (v := (mR m 642 a0)) dX10_digest_57 fl_10_27 (by decide) rfl rfl (by first | rfl | simp only [zm_Is, zm_Rs, zm_As, zm_Os, zm_In0, zm_Rn0])).mpr ⟨g1, ?_⟩
    refine (zq_iload_n dX10_digest_60 rfl).mpr ?_
    obtain ⟨g2, h⟩ := h
    obtain ⟨g3, h⟩ := h
    refine (zq_aald2 (v := (mO m (mR m 642 a0) (Int.toNat a3))) dX10_digest_61 (by first | rfl | simp only [zm_Is, zm_Rs, zm_As, zm_Os, zm_In0, zm_Rn0])).mpr ⟨⟨g2.1, g2.2, g3⟩, ?_⟩
    refine (zq_iload dX10_digest_62 rfl).mpr ?_
    obtain ⟨g6, h⟩ := h
    refine zq_virtualI (n := 1) dX10_digest_64 mr_10_84 zn_34 rfl rfl rfl (zrcv_R zo_34 (by decide) g6) (Nat.le_of_ble_eq_true rfl) ?_
    refine h.mono (fun r m4 h => ?_)
    obtain ⟨v5, rfl, h⟩ := h
    refine ⟨_, rfl, ?_⟩
    refine (zq_i2l dX10_digest_67).mpr ?_
    refine (zq_ladd dX10_digest_68).mpr ?_
    refine (zq_lstore_n (l := [zR a0, zL (wl ((wl (a1 * 31)) + v5)), zU, zI a3, zI a4]) dX10_digest_69 (Nat.le_of_ble_eq_true rfl) rfl).mpr ?_
    refine (zq_iinc (l := [zR a0, zL (wl ((wl (a1 * 31)) + v5)), zU, zI a3, zI (wr (a4 + 1))]) dX10_digest_70 rfl rfl).mpr ?_
    refine (zq_goto (t := 45) dX10_digest_73 rfl).mpr ?_
    exact h
theorem bX10_digest_84 {a0 : Nat} {a1 : Int} {a2 : zV} {a3 : Int} {a4 : zV} (h : (mC m a0 = 11) ∧ (mC m (mR m 643 a0) = 10) ∧ (mC m (mR m 577 (mR m 643 a0)) = 8) ∧ (((mI m 449 (mR m 577 (mR m 643 a0))) ≤ a3 → zW xs xl d cX10_digest 10 (some .long) false [] 146 [zR a0, zL a1, (zcl a2), zI 0, a4] [] m Q) ∧ (¬ ((mI m 449 (mR m 577 (mR m 643 a0))) ≤ a3) → zW xs xl d cX10_digest 10 (some .long) false [] 101 [zR a0, zL a1, a2, zI a3, zI 0] [] m Q))) : zW xs xl d cX10_digest 10 (some .long) false [] 84 [zR a0, zL a1, a2, zI a3, a4] [] m Q := by
  refine (zq_iload_n dX10_digest_84 rfl).mpr ?_
  refine (zq_aload_n dX10_digest_85 rfl).mpr ?_
  obtain ⟨g1, h⟩ := h
  refine (zq_getR2 (f := 643) (v := (mR m 643 a0)) dX10_digest_86 fl_10_34 (by decide) rfl rfl (by first | rfl | simp only [zm_Is, zm_Rs, zm_As, zm_Os, zm_In0, zm_Rn0])).mpr ⟨g1, ?_⟩
  obtain ⟨g2, h⟩ := h
  refine (zq_getR2 (f := 577) (v := (mR m 577 (mR m 643 a0))) dX10_digest_89 fl_10_90 (by decide) rfl rfl (by first | rfl | simp only [zm_Is, zm_Rs, zm_As, zm_Os, zm_In0, zm_Rn0])).mpr ⟨g2, ?_⟩
  obtain ⟨g3, h⟩ := h
  refine (zq_getI2 (f := 449) (v := (mI m 449 (mR m 577 (mR m 643 a0)))) dX10_digest_92 fl_10_94 (by decide) rfl rfl (by first | rfl | simp only [zm_Is, zm_Rs, zm_As, zm_Os, zm_In0, zm_Rn0])).mpr ⟨g3, ?_⟩
  refine (zq_icmp_ge (t := 144) dX10_digest_95 rfl).mpr ⟨fun c => ?_, fun c => ?_⟩
  · replace h := h.1 c
    refine (zq_iconst (v := 0) dX10_digest_144 (by decide)).mpr ?_
    refine (zq_istore_n (l := [zR a0, zL a1, (zcl a2), zI 0, a4]) dX10_digest_145 (Nat.le_of_ble_eq_true rfl) rfl).mpr ?_
    exact h
  · replace h := h.2 c
    refine (zq_iconst (v := 0) dX10_digest_98 (by decide)).mpr ?_
    refine (zq_istore (l := [zR a0, zL a1, a2, zI a3, zI 0]) dX10_digest_99 (Nat.le_of_ble_eq_true rfl) rfl).mpr ?_
    exact h
theorem bX10_digest_101 {a0 : Nat} {a1 : Int} {a2 : zV} {a3 : Int} {a4 : Int} (h : ((5 ≤ a4 → zW xs xl d cX10_digest 10 (some .long) false [] 84 [zR a0, zL a1, (zcl a2), zI (wr (a3 + 1)), zI a4] [] m Q) ∧ (¬ (5 ≤ a4) → (mC m a0 = 11) ∧ (mC m (mR m 643 a0) = 10) ∧ (mC m (mR m 577 (mR m 643 a0)) = 8) ∧ (29 ≤ mC m (mR m 448 (mR m 577 (mR m 643 a0))) ∧ mC m (mR m 448 (mR m 577 (mR m 643 a0))) < 43) ∧ (0 ≤ a3 ∧ a3 < mN m (mR m 448 (mR m 577 (mR m 643 a0)))) ∧ (mC m (mO m (mR m 448 (mR m 577 (mR m 643 a0))) (Int.toNat a3)) = 5) ∧ zC xs xl d 43 [zR (mO m (mR m 448 (mR m 577 (mR m 643 a0))) (Int.toNat a3)), zI a4] m (fun r m6 => ∃ v7 : Int, r = .inl (some (zI v7)) ∧ zW xs xl d cX10_digest 10 (some .long) false [] 101 [zR a0, zL (wl ((wl (a1 * 31)) + v7)), zU, zI a3, zI (wr (a4 + 1))] [] m6 Q)))) : zW xs xl d cX10_digest 10 (some .long) false [] 101 [zR a0, zL a1, a2, zI a3, zI a4] [] m Q := by
  refine (zq_iload dX10_digest_101 rfl).mpr ?_
  refine (zq_iconst (v := 5) dX10_digest_103 (by decide)).mpr ?_
  refine (zq_icmp_ge (t := 138) dX10_digest_104 rfl).mpr ⟨fun c => ?_, fun c => ?_⟩
  · replace h := h.1 c
    refine (zq_iinc (l := [zR a0, zL a1, (zcl a2), zI (wr (a3 + 1)), zI a4]) dX10_digest_138 rfl rfl).mpr ?_
    refine (zq_goto (t := 84) dX10_digest_141 rfl).mpr ?_
    exact h
  · replace h := h.2 c
    refine (zq_lload_n dX10_digest_107 rfl).mpr ?_
    refine (zq_ldc2 dX10_digest_108 cq_10_267).mpr ?_
    refine (zq_lmul dX10_digest_111).mpr ?_
    refine (zq_aload_n dX10_digest_112 rfl).mpr ?_
    obtain ⟨g1, h⟩ := h
    refine (zq_getR2 (f := 643) (v := (mR m 643 a0)) dX10_digest_113 fl_10_34 (by decide) rfl rfl (by first | rfl | simp only [zm_Is, zm_Rs, zm_As, zm_Os, zm_In0, zm_Rn0])).mpr ⟨g1, ?_⟩
    obtain ⟨g2, h⟩ := h
    refine (zq_getR2 (f := 577) (v := (mR m 577 (mR m 643 a0))) dX10_digest_116 fl_10_90 (by decide) rfl rfl (by first | rfl | simp only [zm_Is, zm_Rs, zm_As, zm_Os, zm_In0, zm_Rn0])).mpr ⟨g2, ?_⟩
    obtain ⟨g3, h⟩ := h
    refine (zq_getR2 (f := 448) (v := (mR m 448 (mR m 577 (mR m 643 a0)))) dX10_digest_119 fl_10_107 (by decide) rfl rfl (by first | rfl | simp only [zm_Is, zm_Rs, zm_As, zm_Os, zm_In0, zm_Rn0])).mpr ⟨g3, ?_⟩
    refine (zq_iload_n dX10_digest_122 rfl).mpr ?_
    obtain ⟨g4, h⟩ := h
    obtain ⟨g5, h⟩ := h
    refine (zq_aald2 (v := (mO m (mR m 448 (mR m 577 (mR m 643 a0))) (Int.toNat a3))) dX10_digest_123 (by first | rfl | simp only [zm_Is, zm_Rs, zm_As, zm_Os, zm_In0, zm_Rn0])).mpr ⟨⟨g4.1, g4.2, g5⟩, ?_⟩
    refine (zq_iload dX10_digest_124 rfl).mpr ?_
    obtain ⟨g8, h⟩ := h
    refine zq_virtualI (n := 1) dX10_digest_126 mr_10_130 zn_43 rfl rfl rfl (zrcv_R zo_43 (by decide) g8) (Nat.le_of_ble_eq_true rfl) ?_
    refine h.mono (fun r m6 h => ?_)
    obtain ⟨v7, rfl, h⟩ := h
    refine ⟨_, rfl, ?_⟩
    refine (zq_i2l dX10_digest_129).mpr ?_
    refine (zq_ladd dX10_digest_130).mpr ?_
    refine (zq_lstore_n (l := [zR a0, zL (wl ((wl (a1 * 31)) + v7)), zU, zI a3, zI a4]) dX10_digest_131 (Nat.le_of_ble_eq_true rfl) rfl).mpr ?_
    refine (zq_iinc (l := [zR a0, zL (wl ((wl (a1 * 31)) + v7)), zU, zI a3, zI (wr (a4 + 1))]) dX10_digest_132 rfl rfl).mpr ?_
    refine (zq_goto (t := 101) dX10_digest_135 rfl).mpr ?_
    exact h
theorem bX10_digest_146 {a0 : Nat} {a1 : Int} {a2 : zV} {a3 : Int} {a4 : zV} (h : ((5 ≤ a3 → zW xs xl d cX10_digest 10 (some .long) false [] 192 [zR a0, zL a1, (zcl a2), zI 0, a4] [] m Q) ∧ (¬ (5 ≤ a3) → zW xs xl d cX10_digest 10 (some .long) false [] 154 [zR a0, zL a1, a2, zI a3, zI 0] [] m Q))) : zW xs xl d cX10_digest 10 (some .long) false [] 146 [zR a0, zL a1, a2, zI a3, a4] [] m Q := by
  refine (zq_iload_n dX10_digest_146 rfl).mpr ?_
  refine (zq_iconst (v := 5) dX10_digest_147 (by decide)).mpr ?_
  refine (zq_icmp_ge (t := 190) dX10_digest_148 rfl).mpr ⟨fun c => ?_, fun c => ?_⟩
  · replace h := h.1 c
    refine (zq_iconst (v := 0) dX10_digest_190 (by decide)).mpr ?_
    refine (zq_istore_n (l := [zR a0, zL a1, (zcl a2), zI 0, a4]) dX10_digest_191 (Nat.le_of_ble_eq_true rfl) rfl).mpr ?_
    exact h
  · replace h := h.2 c
    refine (zq_iconst (v := 0) dX10_digest_151 (by decide)).mpr ?_
    refine (zq_istore (l := [zR a0, zL a1, a2, zI a3, zI 0]) dX10_digest_152 (Nat.le_of_ble_eq_true rfl) rfl).mpr ?_
    exact h
theorem bX10_digest_154 {a0 : Nat} {a1 : Int} {a2 : zV} {a3 : Int} {a4 : Int} (h : ((3 ≤ a4 → zW xs xl d cX10_digest 10 (some .long) false [] 146 [zR a0, zL a1, (zcl a2), zI (wr (a3 + 1)), zI a4] [] m Q) ∧ (¬ (3 ≤ a4) → (mC m a0 = 11) ∧ (mC m (mR m 643 a0) = 10) ∧ zC xs xl d 99 [zR (mR m 643 a0), zI a3, zI a4] m (fun r m2 => ∃ v3 : Int, r = .inl (some (zI v3)) ∧ zW xs xl d cX10_digest 10 (some .long) false [] 154 [zR a0, zL (wl ((wl (a1 * 31)) + v3)), zU, zI a3, zI (wr (a4 + 1))] [] m2 Q)))) : zW xs xl d cX10_digest 10 (some .long) false [] 154 [zR a0, zL a1, a2, zI a3, zI a4] [] m Q := by
  refine (zq_iload dX10_digest_154 rfl).mpr ?_
  refine (zq_iconst (v := 3) dX10_digest_156 (by decide)).mpr ?_
  refine (zq_icmp_ge (t := 184) dX10_digest_157 rfl).mpr ⟨fun c => ?_, fun c => ?_⟩
  · replace h := h.1 c
    refine (zq_iinc (l := [zR a0, zL a1, (zcl a2), zI (wr (a3 + 1)), zI a4]) dX10_digest_184 rfl rfl).mpr ?_
    refine (zq_goto (t := 146) dX10_digest_187 rfl).mpr ?_
    exact h
  · replace h := h.2 c
    refine (zq_lload_n dX10_digest_160 rfl).mpr ?_
    refine (zq_ldc2 dX10_digest_161 cq_10_267).mpr ?_
    refine (zq_lmul dX10_digest_164).mpr ?_
    refine (zq_aload_n dX10_digest_165 rfl).mpr ?_
    obtain ⟨g1, h⟩ := h
    refine (zq_getR2 (f := 643) (v := (mR m 643 a0)) dX10_digest_166 fl_10_34 (by decide) rfl rfl (by first | rfl | simp only [zm_Is, zm_Rs, zm_As, zm_Os, zm_In0, zm_Rn0])).mpr ⟨g1, ?_⟩
    refine (zq_iload_n dX10_digest_169 rfl).mpr ?_
    refine (zq_iload dX10_digest_170 rfl).mpr ?_
    obtain ⟨g4, h⟩ := h
    refine zq_virtualI (n := 2) dX10_digest_172 mr_10_153 zn_99 rfl rfl rfl (zrcv_R zo_99 (by decide) g4) (Nat.le_of_ble_eq_true rfl) ?_
    refine h.mono (fun r m2 h => ?_)
    obtain ⟨v3, rfl, h⟩ := h
    refine ⟨_, rfl, ?_⟩
    refine (zq_i2l dX10_digest_175).mpr ?_
    refine (zq_ladd dX10_digest_176).mpr ?_
    refine (zq_lstore_n (l := [zR a0, zL (wl ((wl (a1 * 31)) + v3)), zU, zI a3, zI a4]) dX10_digest_177 (Nat.le_of_ble_eq_true rfl) rfl).mpr ?_
    refine (zq_iinc (l := [zR a0, zL (wl ((wl (a1 * 31)) + v3)), zU, zI a3, zI (wr (a4 + 1))]) dX10_digest_178 rfl rfl).mpr ?_
    refine (zq_goto (t := 154) dX10_digest_181 rfl).mpr ?_
    exact h
theorem bX10_digest_192 {a0 : Nat} {a1 : Int} {a2 : zV} {a3 : Int} {a4 : zV} (h : (mC m a0 = 11) ∧ (mC m (mR m 643 a0) = 10) ∧ (((mI m 581 (mR m 643 a0)) ≤ a3 → zW xs xl d cX10_digest 10 (some .long) false [] 225 [zR a0, zL a1, (zcl a2), zI 0, a4] [] m Q) ∧ (¬ ((mI m 581 (mR m 643 a0)) ≤ a3) → (29 ≤ mC m (mR m 580 (mR m 643 a0)) ∧ mC m (mR m 580 (mR m 643 a0)) < 43) ∧ (0 ≤ a3 ∧ a3 < mN m (mR m 580 (mR m 643 a0))) ∧ zC xs xl d 126 [zL a1, zR (mO m (mR m 580 (mR m 643 a0)) (Int.toNat a3))] m (fun r m5 => ∃ v6 : Int, r = .inl (some (zL v6)) ∧ zW xs xl d cX10_digest 10 (some .long) false [] 192 [zR a0, zL v6, zU, zI (wr (a3 + 1)), a4] [] m5 Q)))) : zW xs xl d cX10_digest 10 (some .long) false [] 192 [zR a0, zL a1, a2, zI a3, a4] [] m Q := by
  refine (zq_iload_n dX10_digest_192 rfl).mpr ?_
  refine (zq_aload_n dX10_digest_193 rfl).mpr ?_
  obtain ⟨g1, h⟩ := h
  refine (zq_getR2 (f := 643) (v := (mR m 643 a0)) dX10_digest_194 fl_10_34 (by decide) rfl rfl (by first | rfl | simp only [zm_Is, zm_Rs, zm_As, zm_Os, zm_In0, zm_Rn0])).mpr ⟨g1, ?_⟩
  obtain ⟨g2, h⟩ := h
  refine (zq_getI2 (f := 581) (v := (mI m 581 (mR m 643 a0))) dX10_digest_197 fl_10_156 (by decide) rfl rfl (by first | rfl | simp only [zm_Is, zm_Rs, zm_As, zm_Os, zm_In0, zm_Rn0])).mpr ⟨g2, ?_⟩
  refine (zq_icmp_ge (t := 223) dX10_digest_200 rfl).mpr ⟨fun c => ?_, fun c => ?_⟩
  · replace h := h.1 c
    refine (zq_iconst (v := 0) dX10_digest_223 (by decide)).mpr ?_
    refine (zq_istore_n (l := [zR a0, zL a1, (zcl a2), zI 0, a4]) dX10_digest_224 (Nat.le_of_ble_eq_true rfl) rfl).mpr ?_
    exact h
  · replace h := h.2 c
    refine (zq_lload_n dX10_digest_203 rfl).mpr ?_
    refine (zq_aload_n dX10_digest_204 rfl).mpr ?_
    refine (zq_getR2 (f := 643) (v := (mR m 643 a0)) dX10_digest_205 fl_10_34 (by decide) rfl rfl (by first | rfl | simp only [zm_Is, zm_Rs, zm_As, zm_Os, zm_In0, zm_Rn0])).mpr ⟨g1, ?_⟩
    refine (zq_getR2 (f := 580) (v := (mR m 580 (mR m 643 a0))) dX10_digest_208 fl_10_168 (by decide) rfl rfl (by first | rfl | simp only [zm_Is, zm_Rs, zm_As, zm_Os, zm_In0, zm_Rn0])).mpr ⟨g2, ?_⟩
    refine (zq_iload_n dX10_digest_211 rfl).mpr ?_
    obtain ⟨g3, h⟩ := h
    obtain ⟨g4, h⟩ := h
    refine (zq_aald2 (v := (mO m (mR m 580 (mR m 643 a0)) (Int.toNat a3))) dX10_digest_212 (by first | rfl | simp only [zm_Is, zm_Rs, zm_As, zm_Os, zm_In0, zm_Rn0])).mpr ⟨⟨g3.1, g3.2, g4⟩, ?_⟩
    refine zq_staticL (n := 2) dX10_digest_213 mr_10_269 zn_126 rfl rfl (Nat.le_of_ble_eq_true rfl) (Nat.le_of_ble_eq_true rfl) ?_
    refine h.mono (fun r m5 h => ?_)
    obtain ⟨v6, rfl, h⟩ := h
    refine ⟨_, rfl, ?_⟩
    refine (zq_lstore_n (l := [zR a0, zL v6, zU, zI a3, a4]) dX10_digest_216 (Nat.le_of_ble_eq_true rfl) rfl).mpr ?_
    refine (zq_iinc (l := [zR a0, zL v6, zU, zI (wr (a3 + 1)), a4]) dX10_digest_217 rfl rfl).mpr ?_
    refine (zq_goto (t := 192) dX10_digest_220 rfl).mpr ?_
    exact h
theorem bX10_digest_225 {a0 : Nat} {a1 : Int} {a2 : zV} {a3 : Int} {a4 : zV} (h : (mC m a0 = 11) ∧ (mC m (mR m 643 a0) = 10) ∧ zC xs xl d 94 [zR (mR m 643 a0)] m (fun r m2 => ∃ v3 : Int, r = .inl (some (zI v3)) ∧ ((v3 ≤ a3 → Q (.inl (some (zL a1))) m2) ∧ (¬ (v3 ≤ a3) → zW xs xl d cX10_digest 10 (some .long) false [] 239 [zR a0, zL a1, a2, zI a3, zI 0] [] m2 Q)))) : zW xs xl d cX10_digest 10 (some .long) false [] 225 [zR a0, zL a1, a2, zI a3, a4] [] m Q := by
  refine (zq_iload_n dX10_digest_225 rfl).mpr ?_
  refine (zq_aload_n dX10_digest_226 rfl).mpr ?_
  obtain ⟨g1, h⟩ := h
  refine (zq_getR2 (f := 643) (v := (mR m 643 a0)) dX10_digest_227 fl_10_34 (by decide) rfl rfl (by first | rfl | simp only [zm_Is, zm_Rs, zm_As, zm_Os, zm_In0, zm_Rn0])).mpr ⟨g1, ?_⟩
  obtain ⟨g4, h⟩ := h
  refine zq_virtualI (n := 0) dX10_digest_230 mr_10_249 zn_94 rfl rfl rfl (zrcv_R zo_94 (by decide) g4) (Nat.le_of_ble_eq_true rfl) ?_
  refine h.mono (fun r m2 h => ?_)
  obtain ⟨v3, rfl, h⟩ := h
  refine ⟨_, rfl, ?_⟩
  refine (zq_icmp_ge (t := 278) dX10_digest_233 rfl).mpr ⟨fun c => ?_, fun c => ?_⟩
  · replace h := h.1 c
    refine (zq_lload_n dX10_digest_278 rfl).mpr ?_
    exact (zq_lret dX10_digest_279 rfl).mpr h
  · replace h := h.2 c
    refine (zq_iconst (v := 0) dX10_digest_236 (by decide)).mpr ?_
    refine (zq_istore (l := [zR a0, zL a1, a2, zI a3, zI 0]) dX10_digest_237 (Nat.le_of_ble_eq_true rfl) rfl).mpr ?_
    exact h
theorem bX10_digest_239 {a0 : Nat} {a1 : Int} {a2 : zV} {a3 : Int} {a4 : Int} (h : ((6 ≤ a4 → zW xs xl d cX10_digest 10 (some .long) false [] 225 [zR a0, zL a1, (zcl a2), zI (wr (a3 + 1)), zI a4] [] m Q) ∧ (¬ (6 ≤ a4) → (mC m a0 = 11) ∧ (mC m (mR m 643 a0) = 10) ∧ (29 ≤ mC m (mR m 582 (mR m 643 a0)) ∧ mC m (mR m 582 (mR m 643 a0)) < 43) ∧ (0 ≤ a3 ∧ a3 < mN m (mR m 582 (mR m 643 a0))) ∧ (mC m (mO m (mR m 582 (mR m 643 a0)) (Int.toNat a3)) = 20) ∧ (0 ≤ a4 ∧ a4 < mN m (mO m (mR m 582 (mR m 643 a0)) (Int.toNat a3))) ∧ zW xs xl d cX10_digest 10 (some .long) false [] 239 [zR a0, zL (wl ((wl (a1 * 31)) + (mA m (mO m (mR m 582 (mR m 643 a0)) (Int.toNat a3)) (Int.toNat a4)))), zU, zI a3, zI (wr (a4 + 1))] [] m Q))) : zW xs xl d cX10_digest 10 (some .long) false [] 239 [zR a0, zL a1, a2, zI a3, zI a4] [] m Q := by
  refine (zq_iload dX10_digest_239 rfl).mpr ?_
  refine (zq_bipush (v := 6) dX10_digest_241 (by decide)).mpr ?_
  refine (zq_icmp_ge (t := 272) dX10_digest_243 rfl).mpr ⟨fun c => ?_, fun c => ?_⟩
  · replace h := h.1 c
    refine (zq_iinc (l := [zR a0, zL a1, (zcl a2), zI (wr (a3 + 1)), zI a4]) dX10_digest_272 rfl rfl).mpr ?_
    refine (zq_goto (t := 225) dX10_digest_275 rfl).mpr ?_
    exact h
  · replace h := h.2 c
    refine (zq_lload_n dX10_digest_246 rfl).mpr ?_
    refine (zq_ldc2 dX10_digest_247 cq_10_267).mpr ?_
    refine (zq_lmul dX10_digest_250).mpr ?_
    refine (zq_aload_n dX10_digest_251 rfl).mpr ?_
    obtain ⟨g1, h⟩ := h
    refine (zq_getR2 (f := 643) (v := (mR m 643 a0)) dX10_digest_252 fl_10_34 (by decide) rfl rfl (by first | rfl | simp only [zm_Is, zm_Rs, zm_As, zm_Os, zm_In0, zm_Rn0])).mpr ⟨g1, ?_⟩
    obtain ⟨g2, h⟩ := h
    refine (zq_getR2 (f := 582) (v := (mR m 582 (mR m 643 a0))) dX10_digest_255 fl_10_254 (by decide) rfl rfl (by first | rfl | simp only [zm_Is, zm_Rs, zm_As, zm_Os, zm_In0, zm_Rn0])).mpr ⟨g2, ?_⟩
    refine (zq_iload_n dX10_digest_258 rfl).mpr ?_
    obtain ⟨g3, h⟩ := h
    obtain ⟨g4, h⟩ := h
    refine (zq_aald2 (v := (mO m (mR m 582 (mR m 643 a0)) (Int.toNat a3))) dX10_digest_259 (by first | rfl | simp only [zm_Is, zm_Rs, zm_As, zm_Os, zm_In0, zm_Rn0])).mpr ⟨⟨g3.1, g3.2, g4⟩, ?_⟩
    refine (zq_iload dX10_digest_260 rfl).mpr ?_
    obtain ⟨g5, h⟩ := h
    obtain ⟨g6, h⟩ := h
    refine (zq_iald2 (v := (mA m (mO m (mR m 582 (mR m 643 a0)) (Int.toNat a3)) (Int.toNat a4))) dX10_digest_262 (by first | rfl | simp only [zm_Is, zm_Rs, zm_As, zm_Os, zm_In0, zm_Rn0])).mpr ⟨⟨g5, g6⟩, ?_⟩
    refine (zq_i2l dX10_digest_263).mpr ?_
    refine (zq_ladd dX10_digest_264).mpr ?_
    refine (zq_lstore_n (l := [zR a0, zL (wl ((wl (a1 * 31)) + (mA m (mO m (mR m 582 (mR m 643 a0)) (Int.toNat a3)) (Int.toNat a4)))), zU, zI a3, zI a4]) dX10_digest_265 (Nat.le_of_ble_eq_true rfl) rfl).mpr ?_
    refine (zq_iinc (l := [zR a0, zL (wl ((wl (a1 * 31)) + (mA m (mO m (mR m 582 (mR m 643 a0)) (Int.toNat a3)) (Int.toNat a4)))), zU, zI a3, zI (wr (a4 + 1))]) dX10_digest_266 rfl rfl).mpr ?_
    refine (zq_goto (t := 239) dX10_digest_269 rfl).mpr ?_
    exact h
theorem bX10_digestOfSlip_0 {a0 : Int} {a2 : Nat} (h : zW xs xl d cX10_digestOfSlip 10 (some .long) false [] 5 [zL a0, zU, zR a2, zL a0, zU, zI 0] [] m Q) : zC xs xl (d + 1) 126 [zL a0, zR a2] m Q := by
  refine zk_126 ?_
  refine (zq_lload_n dX10_digestOfSlip_0 rfl).mpr ?_
  refine (zq_lstore_n (l := [zL a0, zU, zR a2, zL a0, zU, zU]) dX10_digestOfSlip_1 (Nat.le_of_ble_eq_true rfl) rfl).mpr ?_
  refine (zq_iconst (v := 0) dX10_digestOfSlip_2 (by decide)).mpr ?_
  refine (zq_istore (l := [zL a0, zU, zR a2, zL a0, zU, zI 0]) dX10_digestOfSlip_3 (Nat.le_of_ble_eq_true rfl) rfl).mpr ?_
  exact h
theorem bX10_digestOfSlip_5 {a0 : Int} {a1 : zV} {a2 : Nat} {a3 : Int} {a4 : zV} {a5 : Int} (h : ((15 ≤ a5 → zW xs xl d cX10_digestOfSlip 10 (some .long) false [] 35 [zL a0, a1, zR a2, zL a3, (zcl a4), zI 0] [] m Q) ∧ (¬ (15 ≤ a5) → (mC m a2 = 7) ∧ zC xs xl d 72 [zR a2, zI a5] m (fun r m1 => ∃ v2 : Int, r = .inl (some (zI v2)) ∧ zW xs xl d cX10_digestOfSlip 10 (some .long) false [] 5 [zL a0, a1, zR a2, zL (wl ((wl (a3 * 31)) + v2)), zU, zI (wr (a5 + 1))] [] m1 Q)))) : zW xs xl d cX10_digestOfSlip 10 (some .long) false [] 5 [zL a0, a1, zR a2, zL a3, a4, zI a5] [] m Q := by
  refine (zq_iload dX10_digestOfSlip_5 rfl).mpr ?_
  refine (zq_bipush (v := 15) dX10_digestOfSlip_7 (by decide)).mpr ?_
  refine (zq_icmp_ge (t := 32) dX10_digestOfSlip_9 rfl).mpr ⟨fun c => ?_, fun c => ?_⟩
  · replace h := h.1 c
    refine (zq_iconst (v := 0) dX10_digestOfSlip_32 (by decide)).mpr ?_
    refine (zq_istore (l := [zL a0, a1, zR a2, zL a3, (zcl a4), zI 0]) dX10_digestOfSlip_33 (Nat.le_of_ble_eq_true rfl) rfl).mpr ?_
    exact h
  · replace h := h.2 c
    refine (zq_lload_n dX10_digestOfSlip_12 rfl).mpr ?_
    refine (zq_ldc2 dX10_digestOfSlip_13 cq_10_267).mpr ?_
    refine (zq_lmul dX10_digestOfSlip_16).mpr ?_
    refine (zq_aload_n dX10_digestOfSlip_17 rfl).mpr ?_
    refine (zq_iload dX10_digestOfSlip_18 rfl).mpr ?_
    obtain ⟨g3, h⟩ := h
    refine zq_virtualI (n := 1) dX10_digestOfSlip_20 mr_10_218 zn_72 rfl rfl rfl (zrcv_R zo_72 (by decide) g3) (Nat.le_of_ble_eq_true rfl) ?_
    refine h.mono (fun r m1 h => ?_)
    obtain ⟨v2, rfl, h⟩ := h
    refine ⟨_, rfl, ?_⟩
    refine (zq_i2l dX10_digestOfSlip_23).mpr ?_
    refine (zq_ladd dX10_digestOfSlip_24).mpr ?_
    refine (zq_lstore_n (l := [zL a0, a1, zR a2, zL (wl ((wl (a3 * 31)) + v2)), zU, zI a5]) dX10_digestOfSlip_25 (Nat.le_of_ble_eq_true rfl) rfl).mpr ?_
    refine (zq_iinc (l := [zL a0, a1, zR a2, zL (wl ((wl (a3 * 31)) + v2)), zU, zI (wr (a5 + 1))]) dX10_digestOfSlip_26 rfl rfl).mpr ?_
    refine (zq_goto (t := 5) dX10_digestOfSlip_29 rfl).mpr ?_
    exact h
theorem bX10_digestOfSlip_35 {a0 : Int} {a1 : zV} {a2 : Nat} {a3 : Int} {a4 : zV} {a5 : Int} (h : ((3 ≤ a5 → zW xs xl d cX10_digestOfSlip 10 (some .long) false [] 68 [zL a0, a1, zR a2, zL a3, (zcl a4), zI 0] [] m Q) ∧ (¬ (3 ≤ a5) → (mC m a2 = 7) ∧ (mC m (mR m 395 a2) = 3) ∧ (mC m (mR m 133 (mR m 395 a2)) = 20) ∧ (0 ≤ a5 ∧ a5 < mN m (mR m 133 (mR m 395 a2))) ∧ zW xs xl d cX10_digestOfSlip 10 (some .long) false [] 35 [zL a0, a1, zR a2, zL (wl ((wl (a3 * 31)) + (mA m (mR m 133 (mR m 395 a2)) (Int.toNat a5)))), zU, zI (wr (a5 + 1))] [] m Q))) : zW xs xl d cX10_digestOfSlip 10 (some .long) false [] 35 [zL a0, a1, zR a2, zL a3, a4, zI a5] [] m Q := by
  refine (zq_iload dX10_digestOfSlip_35 rfl).mpr ?_
  refine (zq_iconst (v := 3) dX10_digestOfSlip_37 (by decide)).mpr ?_
  refine (zq_icmp_ge (t := 65) dX10_digestOfSlip_38 rfl).mpr ⟨fun c => ?_, fun c => ?_⟩
  · replace h := h.1 c
    refine (zq_iconst (v := 0) dX10_digestOfSlip_65 (by decide)).mpr ?_
    refine (zq_istore (l := [zL a0, a1, zR a2, zL a3, (zcl a4), zI 0]) dX10_digestOfSlip_66 (Nat.le_of_ble_eq_true rfl) rfl).mpr ?_
    exact h
  · replace h := h.2 c
    refine (zq_lload_n dX10_digestOfSlip_41 rfl).mpr ?_
    refine (zq_ldc2 dX10_digestOfSlip_42 cq_10_267).mpr ?_
    refine (zq_lmul dX10_digestOfSlip_45).mpr ?_
    refine (zq_aload_n dX10_digestOfSlip_46 rfl).mpr ?_
    obtain ⟨g1, h⟩ := h
    refine (zq_getR2 (f := 395) (v := (mR m 395 a2)) dX10_digestOfSlip_47 fl_10_221 (by decide) rfl rfl (by first | rfl | simp only [zm_Is, zm_Rs, zm_As, zm_Os, zm_In0, zm_Rn0])).mpr ⟨g1, ?_⟩
    obtain ⟨g2, h⟩ := h
    refine (zq_getR2 (f := 133) (v := (mR m 133 (mR m 395 a2))) dX10_digestOfSlip_50 fl_10_230 (by decide) rfl rfl (by first | rfl | simp only [zm_Is, zm_Rs, zm_As, zm_Os, zm_In0, zm_Rn0])).mpr ⟨g2, ?_⟩
    refine (zq_iload dX10_digestOfSlip_53 rfl).mpr ?_
    obtain ⟨g3, h⟩ := h
    obtain ⟨g4, h⟩ := h
    refine (zq_iald2 (v := (mA m (mR m 133 (mR m 395 a2)) (Int.toNat a5))) dX10_digestOfSlip_55 (by first | rfl | simp only [zm_Is, zm_Rs, zm_As, zm_Os, zm_In0, zm_Rn0])).mpr ⟨⟨g3, g4⟩, ?_⟩
    refine (zq_i2l dX10_digestOfSlip_56).mpr ?_
    refine (zq_ladd dX10_digestOfSlip_57).mpr ?_
    refine (zq_lstore_n (l := [zL a0, a1, zR a2, zL (wl ((wl (a3 * 31)) + (mA m (mR m 133 (mR m 395 a2)) (Int.toNat a5)))), zU, zI a5]) dX10_digestOfSlip_58 (Nat.le_of_ble_eq_true rfl) rfl).mpr ?_
    refine (zq_iinc (l := [zL a0, a1, zR a2, zL (wl ((wl (a3 * 31)) + (mA m (mR m 133 (mR m 395 a2)) (Int.toNat a5)))), zU, zI (wr (a5 + 1))]) dX10_digestOfSlip_59 rfl rfl).mpr ?_
    refine (zq_goto (t := 35) dX10_digestOfSlip_62 rfl).mpr ?_
    exact h
theorem bX10_digestOfSlip_68 {a0 : Int} {a1 : zV} {a2 : Nat} {a3 : Int} {a4 : zV} {a5 : Int} (h : ((3 ≤ a5 → Q (.inl (some (zL a3))) m) ∧ (¬ (3 ≤ a5) → (mC m a2 = 7) ∧ (mC m (mR m 395 a2) = 3) ∧ (mC m (mR m 134 (mR m 395 a2)) = 20) ∧ (0 ≤ a5 ∧ a5 < mN m (mR m 134 (mR m 395 a2))) ∧ zW xs xl d cX10_digestOfSlip 10 (some .long) false [] 68 [zL a0, a1, zR a2, zL (wl ((wl (a3 * 31)) + (mA m (mR m 134 (mR m 395 a2)) (Int.toNat a5)))), zU, zI (wr (a5 + 1))] [] m Q))) : zW xs xl d cX10_digestOfSlip 10 (some .long) false [] 68 [zL a0, a1, zR a2, zL a3, a4, zI a5] [] m Q := by
  refine (zq_iload dX10_digestOfSlip_68 rfl).mpr ?_
  refine (zq_iconst (v := 3) dX10_digestOfSlip_70 (by decide)).mpr ?_
  refine (zq_icmp_ge (t := 98) dX10_digestOfSlip_71 rfl).mpr ⟨fun c => ?_, fun c => ?_⟩
  · replace h := h.1 c
    refine (zq_lload_n dX10_digestOfSlip_98 rfl).mpr ?_
    exact (zq_lret dX10_digestOfSlip_99 rfl).mpr h
  · replace h := h.2 c
    refine (zq_lload_n dX10_digestOfSlip_74 rfl).mpr ?_
    refine (zq_ldc2 dX10_digestOfSlip_75 cq_10_267).mpr ?_
    refine (zq_lmul dX10_digestOfSlip_78).mpr ?_
    refine (zq_aload_n dX10_digestOfSlip_79 rfl).mpr ?_
    obtain ⟨g1, h⟩ := h
    refine (zq_getR2 (f := 395) (v := (mR m 395 a2)) dX10_digestOfSlip_80 fl_10_221 (by decide) rfl rfl (by first | rfl | simp only [zm_Is, zm_Rs, zm_As, zm_Os, zm_In0, zm_Rn0])).mpr ⟨g1, ?_⟩
    obtain ⟨g2, h⟩ := h
    refine (zq_getR2 (f := 134) (v := (mR m 134 (mR m 395 a2))) dX10_digestOfSlip_83 fl_10_225 (by decide) rfl rfl (by first | rfl | simp only [zm_Is, zm_Rs, zm_As, zm_Os, zm_In0, zm_Rn0])).mpr ⟨g2, ?_⟩
    refine (zq_iload dX10_digestOfSlip_86 rfl).mpr ?_
    obtain ⟨g3, h⟩ := h
    obtain ⟨g4, h⟩ := h
    refine (zq_iald2 (v := (mA m (mR m 134 (mR m 395 a2)) (Int.toNat a5))) dX10_digestOfSlip_88 (by first | rfl | simp only [zm_Is, zm_Rs, zm_As, zm_Os, zm_In0, zm_Rn0])).mpr ⟨⟨g3, g4⟩, ?_⟩
    refine (zq_i2l dX10_digestOfSlip_89).mpr ?_
    refine (zq_ladd dX10_digestOfSlip_90).mpr ?_
    refine (zq_lstore_n (l := [zL a0, a1, zR a2, zL (wl ((wl (a3 * 31)) + (mA m (mR m 134 (mR m 395 a2)) (Int.toNat a5)))), zU, zI a5]) dX10_digestOfSlip_91 (Nat.le_of_ble_eq_true rfl) rfl).mpr ?_
    refine (zq_iinc (l := [zL a0, a1, zR a2, zL (wl ((wl (a3 * 31)) + (mA m (mR m 134 (mR m 395 a2)) (Int.toNat a5)))), zU, zI (wr (a5 + 1))]) dX10_digestOfSlip_92 rfl rfl).mpr ?_
    refine (zq_goto (t := 68) dX10_digestOfSlip_95 rfl).mpr ?_
    exact h
theorem bX10_isBelow_0 {a0 : Int} {a1 : Int} (h : ((a0 < 0 → Q (.inl (some (zI 0))) m) ∧ (¬ (a0 < 0) → ((a1 ≤ a0 → Q (.inl (some (zI 0))) m) ∧ (¬ (a1 ≤ a0) → Q (.inl (some (zI 1))) m))))) : zC xs xl (d + 1) 127 [zI a0, zI a1] m Q := by
  refine zk_127 ?_
  refine (zq_iload_n dX10_isBelow_0 rfl).mpr ?_
  refine (zq_if_lt (t := 13) dX10_isBelow_1 rfl).mpr ⟨fun c => ?_, fun c => ?_⟩
  · replace h := h.1 c
    refine (zq_iconst (v := 0) dX10_isBelow_13 (by decide)).mpr ?_
    exact (zq_iret dX10_isBelow_14 rfl).mpr ⟨Or.inl rfl, h⟩
  · replace h := h.2 c
    refine (zq_iload_n dX10_isBelow_4 rfl).mpr ?_
    refine (zq_iload_n dX10_isBelow_5 rfl).mpr ?_
    refine (zq_icmp_ge (t := 13) dX10_isBelow_6 rfl).mpr ⟨fun c => ?_, fun c => ?_⟩
    · replace h := h.1 c
      refine (zq_iconst (v := 0) dX10_isBelow_13 (by decide)).mpr ?_
      exact (zq_iret dX10_isBelow_14 rfl).mpr ⟨Or.inl rfl, h⟩
    · replace h := h.2 c
      refine (zq_iconst (v := 1) dX10_isBelow_9 (by decide)).mpr ?_
      refine (zq_goto (t := 14) dX10_isBelow_10 rfl).mpr ?_
      exact (zq_iret dX10_isBelow_14 rfl).mpr ⟨Or.inr rfl, h⟩
theorem bX10_nearer_0 {a0 : Int} {a1 : Int} {a2 : Int} (h : ((a2 < (if 0 ≤ (wr (a1 - a0)) then (wr (a1 - a0)) else wr (0 - (wr (a1 - a0)))) → ((a1 ≤ a0 → Q (.inl (some (zI (wr (a0 - a2))))) m) ∧ (¬ (a1 ≤ a0) → Q (.inl (some (zI (wr (a0 + a2))))) m))) ∧ (¬ (a2 < (if 0 ≤ (wr (a1 - a0)) then (wr (a1 - a0)) else wr (0 - (wr (a1 - a0))))) → Q (.inl (some (zI a1))) m))) : zC xs xl (d + 1) 128 [zI a0, zI a1, zI a2] m Q := by
  refine zk_128 ?_
  refine (zq_iload_n dX10_nearer_0 rfl).mpr ?_
  refine (zq_iload_n dX10_nearer_1 rfl).mpr ?_
  refine (zq_isub dX10_nearer_2).mpr ?_
  refine (zq_abs dX10_nearer_3 mr_10_273).mpr ⟨(Nat.le_of_ble_eq_true rfl), ?_⟩
  refine (zq_iload_n dX10_nearer_6 rfl).mpr ?_
  refine (zq_icmp_gt (t := 12) dX10_nearer_7 rfl).mpr ⟨fun c => ?_, fun c => ?_⟩
  · replace h := h.1 c
    refine (zq_iload_n dX10_nearer_12 rfl).mpr ?_
    refine (zq_iload_n dX10_nearer_13 rfl).mpr ?_
    refine (zq_icmp_ge (t := 23) dX10_nearer_14 rfl).mpr ⟨fun c => ?_, fun c => ?_⟩
    · replace h := h.1 c
      refine (zq_iload_n dX10_nearer_23 rfl).mpr ?_
      refine (zq_iload_n dX10_nearer_24 rfl).mpr ?_
      refine (zq_isub dX10_nearer_25).mpr ?_
      exact (zq_iret dX10_nearer_26 rfl).mpr ⟨trivial, h⟩
    · replace h := h.2 c
      refine (zq_iload_n dX10_nearer_17 rfl).mpr ?_
      refine (zq_iload_n dX10_nearer_18 rfl).mpr ?_
      refine (zq_iadd dX10_nearer_19).mpr ?_
      refine (zq_goto (t := 26) dX10_nearer_20 rfl).mpr ?_
      exact (zq_iret dX10_nearer_26 rfl).mpr ⟨trivial, h⟩
  · replace h := h.2 c
    refine (zq_iload_n dX10_nearer_10 rfl).mpr ?_
    exact (zq_iret dX10_nearer_11 rfl).mpr ⟨trivial, h⟩
theorem bX11_init_0 {a0 : Nat} (h : (a0 ≠ 0) ∧ (∀ m2 : zM, m2 = nwA m 20 60 → (mC m2 a0 = 12) ∧ (∀ m4 : zM, m4 = nwA (sR m2 706 a0 (mz m)) 20 60 → (mC m4 a0 = 12) ∧ (∀ m6 : zM, m6 = nwA (sR m4 707 a0 (mz m2)) 20 60 → (mC m6 a0 = 12) ∧ (∀ m8 : zM, m8 = nwA (sR m6 708 a0 (mz m4)) 20 60 → (mC m8 a0 = 12) ∧ (∀ m10 : zM, m10 = nwA (sR m8 709 a0 (mz m6)) 20 480 → (mC m10 a0 = 12) ∧ (∀ m12 : zM, m12 = nwA (sR m10 710 a0 (mz m8)) 20 5 → (mC m12 a0 = 12) ∧ (∀ m14 : zM, m14 = nwA (sR m12 711 a0 (mz m10)) 20 6 → ((0 : Int) < mN m14 (mz m12)) ∧ (mC m14 (mz m12) = 20) ∧ ((1 : Int) < mN m14 (mz m12)) ∧ ((2 : Int) < mN m14 (mz m12)) ∧ ((3 : Int) < mN m14 (mz m12)) ∧ ((4 : Int) < mN m14 (mz m12)) ∧ ((5 : Int) < mN m14 (mz m12)) ∧ (mC m14 a0 = 12) ∧ (∀ m23 : zM, m23 = nwA (sR (sA (sA (sA (sA (sA (sA m14 (mz m12) 0 (-1)) (mz m12) 1 (-1)) (mz m12) 2 (-1)) (mz m12) 3 (-1)) (mz m12) 4 (-1)) (mz m12) 5 (-1)) 713 a0 (mz m12)) 21 6 → (mC m23 a0 = 12) ∧ (∀ m25 : zM, m25 = nwA (sR m23 714 a0 (mz m14)) 20 6 → (mC m25 a0 = 12) ∧ (∀ m27 : zM, m27 = nwA (sR m25 715 a0 (mz m23)) 20 6 → (mC m27 a0 = 12) ∧ (∀ m29 : zM, m29 = nwA (sR m27 716 a0 (mz m25)) 20 1440 → (mC m29 a0 = 12) ∧ (∀ m31 : zM, m31 = nwA (sR m29 717 a0 (mz m27)) 20 6 → (mC m31 a0 = 12) ∧ (∀ m33 : zM, m33 = nwA (sR m31 718 a0 (mz m29)) 20 6 → (mC m33 a0 = 12) ∧ (∀ m35 : zM, m35 = nwA (sR m33 719 a0 (mz m31)) 20 6 → (mC m35 a0 = 12) ∧ (∀ m37 : zM, m37 = nwA (sR m35 720 a0 (mz m33)) 20 6 → (mC m37 a0 = 12) ∧ (∀ m39 : zM, m39 = nwA (sR m37 721 a0 (mz m35)) 20 6 → (mC m39 a0 = 12) ∧ (∀ m41 : zM, m41 = nwA (sR m39 722 a0 (mz m37)) 20 6 → (mC m41 a0 = 12) ∧ (∀ m43 : zM, m43 = nwA (sR m41 723 a0 (mz m39)) 20 6 → ((0 : Int) < mN m43 (mz m41)) ∧ (mC m43 (mz m41) = 20) ∧ ((1 : Int) < mN m43 (mz m41)) ∧ ((2 : Int) < mN m43 (mz m41)) ∧ ((3 : Int) < mN m43 (mz m41)) ∧ ((4 : Int) < mN m43 (mz m41)) ∧ ((5 : Int) < mN m43 (mz m41)) ∧ (mC m43 a0 = 12) ∧ (∀ m52 : zM, m52 = nwA (sR (sA (sA (sA (sA (sA (sA m43 (mz m41) 0 (-1)) (mz m41) 1 (-1)) (mz m41) 2 (-1)) (mz m41) 3 (-1)) (mz m41) 4 (-1)) (mz m41) 5 (-1)) 724 a0 (mz m41)) 20 6 → (mC m52 a0 = 12) ∧ (∀ m54 : zM, m54 = nwA (sR m52 725 a0 (mz m43)) 20 6 → ((0 : Int) < mN m54 (mz m52)) ∧ (mC m54 (mz m52) = 20) ∧ ((1 : Int) < mN m54 (mz m52)) ∧ ((2 : Int) < mN m54 (mz m52)) ∧ ((3 : Int) < mN m54 (mz m52)) ∧ ((4 : Int) < mN m54 (mz m52)) ∧ ((5 : Int) < mN m54 (mz m52)) ∧ (mC m54 a0 = 12) ∧ (∀ m63 : zM, m63 = nwA (sR (sA (sA (sA (sA (sA (sA m54 (mz m52) 0 (-1)) (mz m52) 1 (-1)) (mz m52) 2 (-1)) (mz m52) 3 (-1)) (mz m52) 4 (-1)) (mz m52) 5 (-1)) 726 a0 (mz m52)) 20 6 → ((0 : Int) < mN m63 (mz m54)) ∧ (mC m63 (mz m54) = 20) ∧ ((1 : Int) < mN m63 (mz m54)) ∧ ((2 : Int) < mN m63 (mz m54)) ∧ ((3 : Int) < mN m63 (mz m54)) ∧ ((4 : Int) < mN m63 (mz m54)) ∧ ((5 : Int) < mN m63 (mz m54)) ∧ (mC m63 a0 = 12) ∧ (∀ m72 : zM, m72 = nwA (sR (sA (sA (sA (sA (sA (sA m63 (mz m54) 0 (-1)) (mz m54) 1 (-1)) (mz m54) 2 (-1)) (mz m54) 3 (-1)) (mz m54) 4 (-1)) (mz m54) 5 (-1)) 727 a0 (mz m54)) 21 6 → (mC m72 a0 = 12) ∧ (∀ m74 : zM, m74 = nwA (sR m72 728 a0 (mz m63)) 21 6 → (mC m74 a0 = 12) ∧ (∀ m76 : zM, m76 = nwA (sR m74 729 a0 (mz m72)) 20 6 → (mC m76 a0 = 12) ∧ (∀ m78 : zM, m78 = nwA (sR m76 730 a0 (mz m74)) 20 6 → (mC m78 a0 = 12) ∧ (∀ m80 : zM, m80 = nwA (sR m78 731 a0 (mz m76)) 20 6 → (mC m80 a0 = 12) ∧ (∀ m82 : zM, m82 = nwA (sR m80 732 a0 (mz m78)) 20 6 → (mC m82 a0 = 12) ∧ (∀ m84 : zM, m84 = nwA (sR m82 733 a0 (mz m80)) 20 18 → (mC m84 a0 = 12) ∧ (∀ m86 : zM, m86 = nwA (sR m84 734 a0 (mz m82)) 20 18 → (mC m86 a0 = 12) ∧ (∀ m88 : zM, m88 = nwA (sR m86 735 a0 (mz m84)) 20 240 → (mC m88 a0 = 12) ∧ Q (.inl none) (sR m88 739 a0 (mz m86))))))))))))))))))))))))))))))))) : zC xs xl (d + 1) 129 [zR a0] m Q := by
  refine zk_129 ?_
  refine (zq_aload_n dX11_init_0 rfl).mpr ?_
  obtain ⟨g1, h⟩ := h
  refine (zq_oinit dX11_init_1 mr_11_3).mpr ⟨⟨g1, (Nat.le_of_ble_eq_true rfl)⟩, ?_⟩
  refine (zq_aload_n dX11_init_4 rfl).mpr ?_
  refine (zq_bipush (v := 60) dX11_init_5 (by decide)).mpr ?_
  refine zq_newarray2 (kd := 20) (i := 60) dX11_init_7 rfl (by decide) rfl ⟨by decide, by decide⟩ (fun m2 em2 => ?_)
  replace h := h m2 em2
  obtain ⟨g3, h⟩ := h
  refine (zq_putR (f := 706) dX11_init_9 fl_11_9 (by decide) rfl rfl rfl).mpr ⟨g3, ?_⟩
  refine (zq_aload_n dX11_init_12 rfl).mpr ?_
  refine (zq_bipush (v := 60) dX11_init_13 (by decide)).mpr ?_
  refine zq_newarray2 (kd := 20) (i := 60) dX11_init_15 rfl (by decide) rfl ⟨by decide, by decide⟩ (fun m4 em4 => ?_)
  replace h := h m4 em4
  obtain ⟨g5, h⟩ := h
  refine (zq_putR (f := 707) dX11_init_17 fl_11_15 (by decide) rfl rfl rfl).mpr ⟨g5, ?_⟩
  refine (zq_aload_n dX11_init_20 rfl).mpr ?_
  refine (zq_bipush (v := 60) dX11_init_21 (by decide)).mpr ?_
  refine zq_newarray2 (kd := 20) (i := 60) dX11_init_23 rfl (by decide) rfl ⟨by decide, by decide⟩ (fun m6 em6 => ?_)
  replace h := h m6 em6
  obtain ⟨g7, h⟩ := h
  refine (zq_putR (f := 708) dX11_init_25 fl_11_18 (by decide) rfl rfl rfl).mpr ⟨g7, ?_⟩
  refine (zq_aload_n dX11_init_28 rfl).mpr ?_
  refine (zq_bipush (v := 60) dX11_init_29 (by decide)).mpr ?_
  refine zq_newarray2 (kd := 20) (i := 60) dX11_init_31 rfl (by decide) rfl ⟨by decide, by decide⟩ (fun m8 em8 => ?_)
  replace h := h m8 em8
  obtain ⟨g9, h⟩ := h
  refine (zq_putR (f := 709) dX11_init_33 fl_11_21 (by decide) rfl rfl rfl).mpr ⟨g9, ?_⟩
  refine (zq_aload_n dX11_init_36 rfl).mpr ?_
  refine (zq_sipush (v := 480) dX11_init_37 (by decide)).mpr ?_
  refine zq_newarray2 (kd := 20) (i := 480) dX11_init_40 rfl (by decide) rfl ⟨by decide, by decide⟩ (fun m10 em10 => ?_)
  replace h := h m10 em10
  obtain ⟨g11, h⟩ := h
  refine (zq_putR (f := 710) dX11_init_42 fl_11_24 (by decide) rfl rfl rfl).mpr ⟨g11, ?_⟩
  refine (zq_aload_n dX11_init_45 rfl).mpr ?_
  refine (zq_iconst (v := 5) dX11_init_46 (by decide)).mpr ?_
  refine zq_newarray2 (kd := 20) (i := 5) dX11_init_47 rfl (by decide) rfl ⟨by decide, by decide⟩ (fun m12 em12 => ?_)
  replace h := h m12 em12
  obtain ⟨g13, h⟩ := h
  refine (zq_putR (f := 711) dX11_init_49 fl_11_27 (by decide) rfl rfl rfl).mpr ⟨g13, ?_⟩
  refine (zq_aload_n dX11_init_52 rfl).mpr ?_
  refine (zq_bipush (v := 6) dX11_init_53 (by decide)).mpr ?_
  refine zq_newarray2 (kd := 20) (i := 6) dX11_init_55 rfl (by decide) rfl ⟨by decide, by decide⟩ (fun m14 em14 => ?_)
  replace h := h m14 em14
  refine (zq_dupR dX11_init_57).mpr ?_
  refine (zq_iconst (v := 0) dX11_init_58 (by decide)).mpr ?_
  refine (zq_iconst (v := (-1)) dX11_init_59 (by decide)).mpr ?_
  obtain ⟨g15, h⟩ := h
  obtain ⟨g16, h⟩ := h
  refine (zq_iast dX11_init_60).mpr ⟨⟨g16, ⟨by decide, g15⟩⟩, ?_⟩
  refine (zq_dupR dX11_init_61).mpr ?_
  refine (zq_iconst (v := 1) dX11_init_62 (by decide)).mpr ?_
  refine (zq_iconst (v := (-1)) dX11_init_63 (by decide)).mpr ?_
  obtain ⟨g17, h⟩ := h
  refine (zq_iast dX11_init_64).mpr ⟨⟨g16, ⟨by decide, g17⟩⟩, ?_⟩
  refine (zq_dupR dX11_init_65).mpr ?_
  refine (zq_iconst (v := 2) dX11_init_66 (by decide)).mpr ?_
  refine (zq_iconst (v := (-1)) dX11_init_67 (by decide)).mpr ?_
  obtain ⟨g18, h⟩ := h
  refine (zq_iast dX11_init_68).mpr ⟨⟨g16, ⟨by decide, g18⟩⟩, ?_⟩
  refine (zq_dupR dX11_init_69).mpr ?_
  refine (zq_iconst (v := 3) dX11_init_70 (by decide)).mpr ?_
  refine (zq_iconst (v := (-1)) dX11_init_71 (by decide)).mpr ?_
  obtain ⟨g19, h⟩ := h
  refine (zq_iast dX11_init_72).mpr ⟨⟨g16, ⟨by decide, g19⟩⟩, ?_⟩
  refine (zq_dupR dX11_init_73).mpr ?_
  refine (zq_iconst (v := 4) dX11_init_74 (by decide)).mpr ?_
  refine (zq_iconst (v := (-1)) dX11_init_75 (by decide)).mpr ?_
  obtain ⟨g20, h⟩ := h
  refine (zq_iast dX11_init_76).mpr ⟨⟨g16, ⟨by decide, g20⟩⟩, ?_⟩
  refine (zq_dupR dX11_init_77).mpr ?_
  refine (zq_iconst (v := 5) dX11_init_78 (by decide)).mpr ?_
  refine (zq_iconst (v := (-1)) dX11_init_79 (by decide)).mpr ?_
  obtain ⟨g21, h⟩ := h
  refine (zq_iast dX11_init_80).mpr ⟨⟨g16, ⟨by decide, g21⟩⟩, ?_⟩
  obtain ⟨g22, h⟩ := h
  refine (zq_putR (f := 713) dX11_init_81 fl_11_30 (by decide) rfl rfl rfl).mpr ⟨g22, ?_⟩
  refine (zq_aload_n dX11_init_84 rfl).mpr ?_
  refine (zq_bipush (v := 6) dX11_init_85 (by decide)).mpr ?_
  refine zq_newarray2 (kd := 21) (i := 6) dX11_init_87 rfl (by decide) rfl ⟨by decide, by decide⟩ (fun m23 em23 => ?_)
  replace h := h m23 em23
  obtain ⟨g24, h⟩ := h
  refine (zq_putR (f := 714) dX11_init_89 fl_11_33 (by decide) rfl rfl rfl).mpr ⟨g24, ?_⟩
  refine (zq_aload_n dX11_init_92 rfl).mpr ?_
  refine (zq_bipush (v := 6) dX11_init_93 (by decide)).mpr ?_
  refine zq_newarray2 (kd := 20) (i := 6) dX11_init_95 rfl (by decide) rfl ⟨by decide, by decide⟩ (fun m25 em25 => ?_)
  replace h := h m25 em25
  obtain ⟨g26, h⟩ := h
  refine (zq_putR (f := 715) dX11_init_97 fl_11_37 (by decide) rfl rfl rfl).mpr ⟨g26, ?_⟩
  refine (zq_aload_n dX11_init_100 rfl).mpr ?_
  refine (zq_bipush (v := 6) dX11_init_101 (by decide)).mpr ?_
  refine zq_newarray2 (kd := 20) (i := 6) dX11_init_103 rfl (by decide) rfl ⟨by decide, by decide⟩ (fun m27 em27 => ?_)
  replace h := h m27 em27
  obtain ⟨g28, h⟩ := h
  refine (zq_putR (f := 716) dX11_init_105 fl_11_40 (by decide) rfl rfl rfl).mpr ⟨g28, ?_⟩
  refine (zq_aload_n dX11_init_108 rfl).mpr ?_
  refine (zq_sipush (v := 1440) dX11_init_109 (by decide)).mpr ?_
  refine zq_newarray2 (kd := 20) (i := 1440) dX11_init_112 rfl (by decide) rfl ⟨by decide, by decide⟩ (fun m29 em29 => ?_)
  replace h := h m29 em29
  obtain ⟨g30, h⟩ := h
  refine (zq_putR (f := 717) dX11_init_114 fl_11_43 (by decide) rfl rfl rfl).mpr ⟨g30, ?_⟩
  refine (zq_aload_n dX11_init_117 rfl).mpr ?_
  refine (zq_bipush (v := 6) dX11_init_118 (by decide)).mpr ?_
  refine zq_newarray2 (kd := 20) (i := 6) dX11_init_120 rfl (by decide) rfl ⟨by decide, by decide⟩ (fun m31 em31 => ?_)
  replace h := h m31 em31
  obtain ⟨g32, h⟩ := h
  refine (zq_putR (f := 718) dX11_init_122 fl_11_46 (by decide) rfl rfl rfl).mpr ⟨g32, ?_⟩
  refine (zq_aload_n dX11_init_125 rfl).mpr ?_
  refine (zq_bipush (v := 6) dX11_init_126 (by decide)).mpr ?_
  refine zq_newarray2 (kd := 20) (i := 6) dX11_init_128 rfl (by decide) rfl ⟨by decide, by decide⟩ (fun m33 em33 => ?_)
  replace h := h m33 em33
  obtain ⟨g34, h⟩ := h
  refine (zq_putR (f := 719) dX11_init_130 fl_11_49 (by decide) rfl rfl rfl).mpr ⟨g34, ?_⟩
  refine (zq_aload_n dX11_init_133 rfl).mpr ?_
  refine (zq_bipush (v := 6) dX11_init_134 (by decide)).mpr ?_
  refine zq_newarray2 (kd := 20) (i := 6) dX11_init_136 rfl (by decide) rfl ⟨by decide, by decide⟩ (fun m35 em35 => ?_)
  replace h := h m35 em35
  obtain ⟨g36, h⟩ := h
  refine (zq_putR (f := 720) dX11_init_138 fl_11_52 (by decide) rfl rfl rfl).mpr ⟨g36, ?_⟩
  refine (zq_aload_n dX11_init_141 rfl).mpr ?_
  refine (zq_bipush (v := 6) dX11_init_142 (by decide)).mpr ?_
  refine zq_newarray2 (kd := 20) (i := 6) dX11_init_144 rfl (by decide) rfl ⟨by decide, by decide⟩ (fun m37 em37 => ?_)
  replace h := h m37 em37
  obtain ⟨g38, h⟩ := h
  refine (zq_putR (f := 721) dX11_init_146 fl_11_55 (by decide) rfl rfl rfl).mpr ⟨g38, ?_⟩
  refine (zq_aload_n dX11_init_149 rfl).mpr ?_
  refine (zq_bipush (v := 6) dX11_init_150 (by decide)).mpr ?_
  refine zq_newarray2 (kd := 20) (i := 6) dX11_init_152 rfl (by decide) rfl ⟨by decide, by decide⟩ (fun m39 em39 => ?_)
  replace h := h m39 em39
  obtain ⟨g40, h⟩ := h
  refine (zq_putR (f := 722) dX11_init_154 fl_11_58 (by decide) rfl rfl rfl).mpr ⟨g40, ?_⟩
  refine (zq_aload_n dX11_init_157 rfl).mpr ?_
  refine (zq_bipush (v := 6) dX11_init_158 (by decide)).mpr ?_
  refine zq_newarray2 (kd := 20) (i := 6) dX11_init_160 rfl (by decide) rfl ⟨by decide, by decide⟩ (fun m41 em41 => ?_)
  replace h := h m41 em41
  obtain ⟨g42, h⟩ := h
  refine (zq_putR (f := 723) dX11_init_162 fl_11_61 (by decide) rfl rfl rfl).mpr ⟨g42, ?_⟩
  refine (zq_aload_n dX11_init_165 rfl).mpr ?_
  refine (zq_bipush (v := 6) dX11_init_166 (by decide)).mpr ?_
  refine zq_newarray2 (kd := 20) (i := 6) dX11_init_168 rfl (by decide) rfl ⟨by decide, by decide⟩ (fun m43 em43 => ?_)
  replace h := h m43 em43
  refine (zq_dupR dX11_init_170).mpr ?_
  refine (zq_iconst (v := 0) dX11_init_171 (by decide)).mpr ?_
  refine (zq_iconst (v := (-1)) dX11_init_172 (by decide)).mpr ?_
  obtain ⟨g44, h⟩ := h
  obtain ⟨g45, h⟩ := h
  refine (zq_iast dX11_init_173).mpr ⟨⟨g45, ⟨by decide, g44⟩⟩, ?_⟩
  refine (zq_dupR dX11_init_174).mpr ?_
  refine (zq_iconst (v := 1) dX11_init_175 (by decide)).mpr ?_
  refine (zq_iconst (v := (-1)) dX11_init_176 (by decide)).mpr ?_
  obtain ⟨g46, h⟩ := h
  refine (zq_iast dX11_init_177).mpr ⟨⟨g45, ⟨by decide, g46⟩⟩, ?_⟩
  refine (zq_dupR dX11_init_178).mpr ?_
  refine (zq_iconst (v := 2) dX11_init_179 (by decide)).mpr ?_
  refine (zq_iconst (v := (-1)) dX11_init_180 (by decide)).mpr ?_
  obtain ⟨g47, h⟩ := h
  refine (zq_iast dX11_init_181).mpr ⟨⟨g45, ⟨by decide, g47⟩⟩, ?_⟩
  refine (zq_dupR dX11_init_182).mpr ?_
  refine (zq_iconst (v := 3) dX11_init_183 (by decide)).mpr ?_
  refine (zq_iconst (v := (-1)) dX11_init_184 (by decide)).mpr ?_
  obtain ⟨g48, h⟩ := h
  refine (zq_iast dX11_init_185).mpr ⟨⟨g45, ⟨by decide, g48⟩⟩, ?_⟩
  refine (zq_dupR dX11_init_186).mpr ?_
  refine (zq_iconst (v := 4) dX11_init_187 (by decide)).mpr ?_
  refine (zq_iconst (v := (-1)) dX11_init_188 (by decide)).mpr ?_
  obtain ⟨g49, h⟩ := h
  refine (zq_iast dX11_init_189).mpr ⟨⟨g45, ⟨by decide, g49⟩⟩, ?_⟩
  refine (zq_dupR dX11_init_190).mpr ?_
  refine (zq_iconst (v := 5) dX11_init_191 (by decide)).mpr ?_
  refine (zq_iconst (v := (-1)) dX11_init_192 (by decide)).mpr ?_
  obtain ⟨g50, h⟩ := h
  refine (zq_iast dX11_init_193).mpr ⟨⟨g45, ⟨by decide, g50⟩⟩, ?_⟩
  obtain ⟨g51, h⟩ := h
  refine (zq_putR (f := 724) dX11_init_194 fl_11_64 (by decide) rfl rfl rfl).mpr ⟨g51, ?_⟩
  refine (zq_aload_n dX11_init_197 rfl).mpr ?_
  refine (zq_bipush (v := 6) dX11_init_198 (by decide)).mpr ?_
  refine zq_newarray2 (kd := 20) (i := 6) dX11_init_200 rfl (by decide) rfl ⟨by decide, by decide⟩ (fun m52 em52 => ?_)
  replace h := h m52 em52
  obtain ⟨g53, h⟩ := h
  refine (zq_putR (f := 725) dX11_init_202 fl_11_67 (by decide) rfl rfl rfl).mpr ⟨g53, ?_⟩
  refine (zq_aload_n dX11_init_205 rfl).mpr ?_
  refine (zq_bipush (v := 6) dX11_init_206 (by decide)).mpr ?_
  refine zq_newarray2 (kd := 20) (i := 6) dX11_init_208 rfl (by decide) rfl ⟨by decide, by decide⟩ (fun m54 em54 => ?_)
  replace h := h m54 em54
  refine (zq_dupR dX11_init_210).mpr ?_
  refine (zq_iconst (v := 0) dX11_init_211 (by decide)).mpr ?_
  refine (zq_iconst (v := (-1)) dX11_init_212 (by decide)).mpr ?_
  obtain ⟨g55, h⟩ := h
  obtain ⟨g56, h⟩ := h
  refine (zq_iast dX11_init_213).mpr ⟨⟨g56, ⟨by decide, g55⟩⟩, ?_⟩
  refine (zq_dupR dX11_init_214).mpr ?_
  refine (zq_iconst (v := 1) dX11_init_215 (by decide)).mpr ?_
  refine (zq_iconst (v := (-1)) dX11_init_216 (by decide)).mpr ?_
  obtain ⟨g57, h⟩ := h
  refine (zq_iast dX11_init_217).mpr ⟨⟨g56, ⟨by decide, g57⟩⟩, ?_⟩
  refine (zq_dupR dX11_init_218).mpr ?_
  refine (zq_iconst (v := 2) dX11_init_219 (by decide)).mpr ?_
  refine (zq_iconst (v := (-1)) dX11_init_220 (by decide)).mpr ?_
  obtain ⟨g58, h⟩ := h
  refine (zq_iast dX11_init_221).mpr ⟨⟨g56, ⟨by decide, g58⟩⟩, ?_⟩
  refine (zq_dupR dX11_init_222).mpr ?_
  refine (zq_iconst (v := 3) dX11_init_223 (by decide)).mpr ?_
  refine (zq_iconst (v := (-1)) dX11_init_224 (by decide)).mpr ?_
  obtain ⟨g59, h⟩ := h
  refine (zq_iast dX11_init_225).mpr ⟨⟨g56, ⟨by decide, g59⟩⟩, ?_⟩
  refine (zq_dupR dX11_init_226).mpr ?_
  refine (zq_iconst (v := 4) dX11_init_227 (by decide)).mpr ?_
  refine (zq_iconst (v := (-1)) dX11_init_228 (by decide)).mpr ?_
  obtain ⟨g60, h⟩ := h
  refine (zq_iast dX11_init_229).mpr ⟨⟨g56, ⟨by decide, g60⟩⟩, ?_⟩
  refine (zq_dupR dX11_init_230).mpr ?_
  refine (zq_iconst (v := 5) dX11_init_231 (by decide)).mpr ?_
  refine (zq_iconst (v := (-1)) dX11_init_232 (by decide)).mpr ?_
  obtain ⟨g61, h⟩ := h
  refine (zq_iast dX11_init_233).mpr ⟨⟨g56, ⟨by decide, g61⟩⟩, ?_⟩
  obtain ⟨g62, h⟩ := h
  refine (zq_putR (f := 726) dX11_init_234 fl_11_70 (by decide) rfl rfl rfl).mpr ⟨g62, ?_⟩
  refine (zq_aload_n dX11_init_237 rfl).mpr ?_
  refine (zq_bipush (v := 6) dX11_init_238 (by decide)).mpr ?_
  refine zq_newarray2 (kd := 20) (i := 6) dX11_init_240 rfl (by decide) rfl ⟨by decide, by decide⟩ (fun m63 em63 => ?_)
  replace h := h m63 em63
  refine (zq_dupR dX11_init_242).mpr ?_
  refine (zq_iconst (v := 0) dX11_init_243 (by decide)).mpr ?_
  refine (zq_iconst (v := (-1)) dX11_init_244 (by decide)).mpr ?_
  obtain ⟨g64, h⟩ := h
  obtain ⟨g65, h⟩ := h
  refine (zq_iast dX11_init_245).mpr ⟨⟨g65, ⟨by decide, g64⟩⟩, ?_⟩
  refine (zq_dupR dX11_init_246).mpr ?_
  refine (zq_iconst (v := 1) dX11_init_247 (by decide)).mpr ?_
  refine (zq_iconst (v := (-1)) dX11_init_248 (by decide)).mpr ?_
  obtain ⟨g66, h⟩ := h
  refine (zq_iast dX11_init_249).mpr ⟨⟨g65, ⟨by decide, g66⟩⟩, ?_⟩
  refine (zq_dupR dX11_init_250).mpr ?_
  refine (zq_iconst (v := 2) dX11_init_251 (by decide)).mpr ?_
  refine (zq_iconst (v := (-1)) dX11_init_252 (by decide)).mpr ?_
  obtain ⟨g67, h⟩ := h
  refine (zq_iast dX11_init_253).mpr ⟨⟨g65, ⟨by decide, g67⟩⟩, ?_⟩
  refine (zq_dupR dX11_init_254).mpr ?_
  refine (zq_iconst (v := 3) dX11_init_255 (by decide)).mpr ?_
  refine (zq_iconst (v := (-1)) dX11_init_256 (by decide)).mpr ?_
  obtain ⟨g68, h⟩ := h
  refine (zq_iast dX11_init_257).mpr ⟨⟨g65, ⟨by decide, g68⟩⟩, ?_⟩
  refine (zq_dupR dX11_init_258).mpr ?_
  refine (zq_iconst (v := 4) dX11_init_259 (by decide)).mpr ?_
  refine (zq_iconst (v := (-1)) dX11_init_260 (by decide)).mpr ?_
  obtain ⟨g69, h⟩ := h
  refine (zq_iast dX11_init_261).mpr ⟨⟨g65, ⟨by decide, g69⟩⟩, ?_⟩
  refine (zq_dupR dX11_init_262).mpr ?_
  refine (zq_iconst (v := 5) dX11_init_263 (by decide)).mpr ?_
  refine (zq_iconst (v := (-1)) dX11_init_264 (by decide)).mpr ?_
  obtain ⟨g70, h⟩ := h
  refine (zq_iast dX11_init_265).mpr ⟨⟨g65, ⟨by decide, g70⟩⟩, ?_⟩
  obtain ⟨g71, h⟩ := h
  refine (zq_putR (f := 727) dX11_init_266 fl_11_73 (by decide) rfl rfl rfl).mpr ⟨g71, ?_⟩
  refine (zq_aload_n dX11_init_269 rfl).mpr ?_
  refine (zq_bipush (v := 6) dX11_init_270 (by decide)).mpr ?_
  refine zq_newarray2 (kd := 21) (i := 6) dX11_init_272 rfl (by decide) rfl ⟨by decide, by decide⟩ (fun m72 em72 => ?_)
  replace h := h m72 em72
  obtain ⟨g73, h⟩ := h
  refine (zq_putR (f := 728) dX11_init_274 fl_11_76 (by decide) rfl rfl rfl).mpr ⟨g73, ?_⟩
  refine (zq_aload_n dX11_init_277 rfl).mpr ?_
  refine (zq_bipush (v := 6) dX11_init_278 (by decide)).mpr ?_
  refine zq_newarray2 (kd := 21) (i := 6) dX11_init_280 rfl (by decide) rfl ⟨by decide, by decide⟩ (fun m74 em74 => ?_)
  replace h := h m74 em74
  obtain ⟨g75, h⟩ := h
  refine (zq_putR (f := 729) dX11_init_282 fl_11_79 (by decide) rfl rfl rfl).mpr ⟨g75, ?_⟩
  refine (zq_aload_n dX11_init_285 rfl).mpr ?_
  refine (zq_bipush (v := 6) dX11_init_286 (by decide)).mpr ?_
  refine zq_newarray2 (kd := 20) (i := 6) dX11_init_288 rfl (by decide) rfl ⟨by decide, by decide⟩ (fun m76 em76 => ?_)
  replace h := h m76 em76
  obtain ⟨g77, h⟩ := h
  refine (zq_putR (f := 730) dX11_init_290 fl_11_82 (by decide) rfl rfl rfl).mpr ⟨g77, ?_⟩
  refine (zq_aload_n dX11_init_293 rfl).mpr ?_
  refine (zq_bipush (v := 6) dX11_init_294 (by decide)).mpr ?_
  refine zq_newarray2 (kd := 20) (i := 6) dX11_init_296 rfl (by decide) rfl ⟨by decide, by decide⟩ (fun m78 em78 => ?_)
  replace h := h m78 em78
  obtain ⟨g79, h⟩ := h
  refine (zq_putR (f := 731) dX11_init_298 fl_11_85 (by decide) rfl rfl rfl).mpr ⟨g79, ?_⟩
  refine (zq_aload_n dX11_init_301 rfl).mpr ?_
  refine (zq_bipush (v := 6) dX11_init_302 (by decide)).mpr ?_
  refine zq_newarray2 (kd := 20) (i := 6) dX11_init_304 rfl (by decide) rfl ⟨by decide, by decide⟩ (fun m80 em80 => ?_)
  replace h := h m80 em80
  obtain ⟨g81, h⟩ := h
  refine (zq_putR (f := 732) dX11_init_306 fl_11_88 (by decide) rfl rfl rfl).mpr ⟨g81, ?_⟩
  refine (zq_aload_n dX11_init_309 rfl).mpr ?_
  refine (zq_bipush (v := 6) dX11_init_310 (by decide)).mpr ?_
  refine zq_newarray2 (kd := 20) (i := 6) dX11_init_312 rfl (by decide) rfl ⟨by decide, by decide⟩ (fun m82 em82 => ?_)
  replace h := h m82 em82
  obtain ⟨g83, h⟩ := h
  refine (zq_putR (f := 733) dX11_init_314 fl_11_91 (by decide) rfl rfl rfl).mpr ⟨g83, ?_⟩
  refine (zq_aload_n dX11_init_317 rfl).mpr ?_
  refine (zq_bipush (v := 18) dX11_init_318 (by decide)).mpr ?_
  refine zq_newarray2 (kd := 20) (i := 18) dX11_init_320 rfl (by decide) rfl ⟨by decide, by decide⟩ (fun m84 em84 => ?_)
  replace h := h m84 em84
  obtain ⟨g85, h⟩ := h
  refine (zq_putR (f := 734) dX11_init_322 fl_11_94 (by decide) rfl rfl rfl).mpr ⟨g85, ?_⟩
  refine (zq_aload_n dX11_init_325 rfl).mpr ?_
  refine (zq_bipush (v := 18) dX11_init_326 (by decide)).mpr ?_
  refine zq_newarray2 (kd := 20) (i := 18) dX11_init_328 rfl (by decide) rfl ⟨by decide, by decide⟩ (fun m86 em86 => ?_)
  replace h := h m86 em86
  obtain ⟨g87, h⟩ := h
  refine (zq_putR (f := 735) dX11_init_330 fl_11_97 (by decide) rfl rfl rfl).mpr ⟨g87, ?_⟩
  refine (zq_aload_n dX11_init_333 rfl).mpr ?_
  refine (zq_sipush (v := 240) dX11_init_334 (by decide)).mpr ?_
  refine zq_newarray2 (kd := 20) (i := 240) dX11_init_337 rfl (by decide) rfl ⟨by decide, by decide⟩ (fun m88 em88 => ?_)
  replace h := h m88 em88
  obtain ⟨g89, h⟩ := h
  refine (zq_putR (f := 739) dX11_init_339 fl_11_100 (by decide) rfl rfl rfl).mpr ⟨g89, ?_⟩
  exact (zq_ret dX11_init_342 rfl).mpr h
theorem bX11_copy_0 {a0 : Nat} {a1 : Nat} (h : (20 ≤ mC m a0 ∧ mC m a0 < 43) ∧ (0 ≤ (wr (mN m a0)) ∧ 0 ≤ (0 : Int) ∧ 0 ≤ (0 : Int) ∧ (0 : Int) + (wr (mN m a0)) ≤ mN m a0 ∧ (0 : Int) + (wr (mN m a0)) ≤ mN m a1 ∧ mC m a0 = mC m a1 ∧ (mC m a0 = 20 ∨ (mC m a0 = 21 ∧ ∀ j : Nat, (0 : Int) ≤ j → j < (0 : Int) + (wr (mN m a0)) → mA m a0 j = 0 ∨ mA m a0 j = 1)) ∧ a0 ≠ a1) ∧ Q (.inl none) (cpA m a0 0 a1 0 (Int.toNat (wr (mN m a0))))) : zC xs xl (d + 1) 130 [zR a0, zR a1] m Q := by
  refine zk_130 ?_
  refine (zq_aload_n dX11_copy_0 rfl).mpr ?_
  refine (zq_iconst (v := 0) dX11_copy_1 (by decide)).mpr ?_
  refine (zq_aload_n dX11_copy_2 rfl).mpr ?_
  refine (zq_iconst (v := 0) dX11_copy_3 (by decide)).mpr ?_
  refine (zq_aload_n dX11_copy_4 rfl).mpr ?_
  obtain ⟨g1, h⟩ := h
  refine (zq_alen dX11_copy_5).mpr ⟨g1, ?_⟩
  obtain ⟨g2, h⟩ := h
  refine (zq_copy dX11_copy_6 mr_11_103).mpr ⟨⟨g2.1, g2.2.1, g2.2.2.1, g2.2.2.2.1, g2.2.2.2.2.1, g2.2.2.2.2.2.1, g2.2.2.2.2.2.2.1, g2.2.2.2.2.2.2.2, (Nat.le_of_ble_eq_true rfl)⟩, ?_⟩
  exact (zq_ret dX11_copy_9 rfl).mpr h
theorem bX11_copy__0 {a0 : Nat} {a1 : Nat} (h : (20 ≤ mC m a0 ∧ mC m a0 < 43) ∧ (0 ≤ (wr (mN m a0)) ∧ 0 ≤ (0 : Int) ∧ 0 ≤ (0 : Int) ∧ (0 : Int) + (wr (mN m a0)) ≤ mN m a0 ∧ (0 : Int) + (wr (mN m a0)) ≤ mN m a1 ∧ mC m a0 = mC m a1 ∧ (mC m a0 = 20 ∨ (mC m a0 = 21 ∧ ∀ j : Nat, (0 : Int) ≤ j → j < (0 : Int) + (wr (mN m a0)) → mA m a0 j = 0 ∨ mA m a0 j = 1)) ∧ a0 ≠ a1) ∧ Q (.inl none) (cpA m a0 0 a1 0 (Int.toNat (wr (mN m a0))))) : zC xs xl (d + 1) 131 [zR a0, zR a1] m Q := by
  refine zk_131 ?_
  refine (zq_aload_n dX11_copy__0 rfl).mpr ?_
  refine (zq_iconst (v := 0) dX11_copy__1 (by decide)).mpr ?_
  refine (zq_aload_n dX11_copy__2 rfl).mpr ?_
  refine (zq_iconst (v := 0) dX11_copy__3 (by decide)).mpr ?_
  refine (zq_aload_n dX11_copy__4 rfl).mpr ?_
  obtain ⟨g1, h⟩ := h
  refine (zq_alen dX11_copy__5).mpr ⟨g1, ?_⟩
  obtain ⟨g2, h⟩ := h
  refine (zq_copy dX11_copy__6 mr_11_103).mpr ⟨⟨g2.1, g2.2.1, g2.2.2.1, g2.2.2.2.1, g2.2.2.2.2.1, g2.2.2.2.2.2.1, g2.2.2.2.2.2.2.1, g2.2.2.2.2.2.2.2, (Nat.le_of_ble_eq_true rfl)⟩, ?_⟩
  exact (zq_ret dX11_copy__9 rfl).mpr h
theorem bX11_become_0 {a0 : Nat} {a1 : Nat} (h : (mC m a1 = 12) ∧ (mC m a0 = 12) ∧ zC xs xl d 130 [zR (mR m 706 a1), zR (mR m 706 a0)] (sI (sI (sI (sI (sI (sI m 704 a0 (mI m 704 a1)) 705 a0 (mI m 705 a1)) 712 a0 (mI m 712 a1)) 736 a0 (mI m 736 a1)) 737 a0 (mI m 737 a1)) 738 a0 (mI m 738 a1)) (fun r m3 => r = .inl none ∧ (mC m3 a1 = 12) ∧ (mC m3 a0 = 12) ∧ zC xs xl d 130 [zR (mR m3 707 a1), zR (mR m3 707 a0)] m3 (fun r m7 => r = .inl none ∧ (mC m7 a1 = 12) ∧ (mC m7 a0 = 12) ∧ zC xs xl d 130 [zR (mR m7 708 a1), zR (mR m7 708 a0)] m7 (fun r m11 => r = .inl none ∧ (mC m11 a1 = 12) ∧ (mC m11 a0 = 12) ∧ zC xs xl d 130 [zR (mR m11 709 a1), zR (mR m11 709 a0)] m11 (fun r m15 => r = .inl none ∧ (mC m15 a1 = 12) ∧ (mC m15 a0 = 12) ∧ zC xs xl d 130 [zR (mR m15 710 a1), zR (mR m15 710 a0)] m15 (fun r m19 => r = .inl none ∧ (mC m19 a1 = 12) ∧ (mC m19 a0 = 12) ∧ zC xs xl d 130 [zR (mR m19 711 a1), zR (mR m19 711 a0)] m19 (fun r m23 => r = .inl none ∧ (mC m23 a1 = 12) ∧ (mC m23 a0 = 12) ∧ zC xs xl d 130 [zR (mR m23 713 a1), zR (mR m23 713 a0)] m23 (fun r m27 => r = .inl none ∧ (mC m27 a1 = 12) ∧ (mC m27 a0 = 12) ∧ zC xs xl d 131 [zR (mR m27 714 a1), zR (mR m27 714 a0)] m27 (fun r m31 => r = .inl none ∧ (mC m31 a1 = 12) ∧ (mC m31 a0 = 12) ∧ zC xs xl d 130 [zR (mR m31 715 a1), zR (mR m31 715 a0)] m31 (fun r m35 => r = .inl none ∧ (mC m35 a1 = 12) ∧ (mC m35 a0 = 12) ∧ zC xs xl d 130 [zR (mR m35 716 a1), zR (mR m35 716 a0)] m35 (fun r m39 => r = .inl none ∧ (mC m39 a1 = 12) ∧ (mC m39 a0 = 12) ∧ zC xs xl d 130 [zR (mR m39 717 a1), zR (mR m39 717 a0)] m39 (fun r m43 => r = .inl none ∧ (mC m43 a1 = 12) ∧ (mC m43 a0 = 12) ∧ zC xs xl d 130 [zR (mR m43 718 a1), zR (mR m43 718 a0)] m43 (fun r m47 => r = .inl none ∧ (mC m47 a1 = 12) ∧ (mC m47 a0 = 12) ∧ zC xs xl d 130 [zR (mR m47 719 a1), zR (mR m47 719 a0)] m47 (fun r m51 => r = .inl none ∧ (mC m51 a1 = 12) ∧ (mC m51 a0 = 12) ∧ zC xs xl d 130 [zR (mR m51 720 a1), zR (mR m51 720 a0)] m51 (fun r m55 => r = .inl none ∧ (mC m55 a1 = 12) ∧ (mC m55 a0 = 12) ∧ zC xs xl d 130 [zR (mR m55 721 a1), zR (mR m55 721 a0)] m55 (fun r m59 => r = .inl none ∧ (mC m59 a1 = 12) ∧ (mC m59 a0 = 12) ∧ zC xs xl d 130 [zR (mR m59 722 a1), zR (mR m59 722 a0)] m59 (fun r m63 => r = .inl none ∧ (mC m63 a1 = 12) ∧ (mC m63 a0 = 12) ∧ zC xs xl d 130 [zR (mR m63 723 a1), zR (mR m63 723 a0)] m63 (fun r m67 => r = .inl none ∧ (mC m67 a1 = 12) ∧ (mC m67 a0 = 12) ∧ zC xs xl d 130 [zR (mR m67 724 a1), zR (mR m67 724 a0)] m67 (fun r m71 => r = .inl none ∧ (mC m71 a1 = 12) ∧ (mC m71 a0 = 12) ∧ zC xs xl d 130 [zR (mR m71 725 a1), zR (mR m71 725 a0)] m71 (fun r m75 => r = .inl none ∧ (mC m75 a1 = 12) ∧ (mC m75 a0 = 12) ∧ zC xs xl d 130 [zR (mR m75 726 a1), zR (mR m75 726 a0)] m75 (fun r m79 => r = .inl none ∧ (mC m79 a1 = 12) ∧ (mC m79 a0 = 12) ∧ zC xs xl d 130 [zR (mR m79 727 a1), zR (mR m79 727 a0)] m79 (fun r m83 => r = .inl none ∧ (mC m83 a1 = 12) ∧ (mC m83 a0 = 12) ∧ zC xs xl d 131 [zR (mR m83 728 a1), zR (mR m83 728 a0)] m83 (fun r m87 => r = .inl none ∧ (mC m87 a1 = 12) ∧ (mC m87 a0 = 12) ∧ zC xs xl d 131 [zR (mR m87 729 a1), zR (mR m87 729 a0)] m87 (fun r m91 => r = .inl none ∧ (mC m91 a1 = 12) ∧ (mC m91 a0 = 12) ∧ zC xs xl d 130 [zR (mR m91 730 a1), zR (mR m91 730 a0)] m91 (fun r m95 => r = .inl none ∧ (mC m95 a1 = 12) ∧ (mC m95 a0 = 12) ∧ zC xs xl d 130 [zR (mR m95 731 a1), zR (mR m95 731 a0)] m95 (fun r m99 => r = .inl none ∧ (mC m99 a1 = 12) ∧ (mC m99 a0 = 12) ∧ zC xs xl d 130 [zR (mR m99 732 a1), zR (mR m99 732 a0)] m99 (fun r m103 => r = .inl none ∧ (mC m103 a1 = 12) ∧ (mC m103 a0 = 12) ∧ zC xs xl d 130 [zR (mR m103 733 a1), zR (mR m103 733 a0)] m103 (fun r m107 => r = .inl none ∧ (mC m107 a1 = 12) ∧ (mC m107 a0 = 12) ∧ zC xs xl d 130 [zR (mR m107 734 a1), zR (mR m107 734 a0)] m107 (fun r m111 => r = .inl none ∧ (mC m111 a1 = 12) ∧ (mC m111 a0 = 12) ∧ zC xs xl d 130 [zR (mR m111 735 a1), zR (mR m111 735 a0)] m111 (fun r m115 => r = .inl none ∧ (mC m115 a1 = 12) ∧ (mC m115 a0 = 12) ∧ zC xs xl d 130 [zR (mR m115 739 a1), zR (mR m115 739 a0)] m115 (fun r m119 => r = .inl none ∧ Q (.inl none) m119))))))))))))))))))))))))))))))) : zC xs xl (d + 1) 132 [zR a0, zR a1] m Q := by
  refine zk_132 ?_
  refine (zq_aload_n dX11_become_0 rfl).mpr ?_
  refine (zq_aload_n dX11_become_1 rfl).mpr ?_
  obtain ⟨g1, h⟩ := h
  refine (zq_getI2 (f := 704) (v := (mI m 704 a1)) dX11_become_2 fl_11_109 (by decide) rfl rfl (by first | rfl | simp only [zm_Is, zm_Rs, zm_As, zm_Os, zm_In0, zm_Rn0])).mpr ⟨g1, ?_⟩
  obtain ⟨g2, h⟩ := h
  refine (zq_putI (f := 704) dX11_become_5 fl_11_109 (by decide) rfl rfl rfl).mpr ⟨g2, ?_⟩
  refine (zq_aload_n dX11_become_8 rfl).mpr ?_
  refine (zq_aload_n dX11_become_9 rfl).mpr ?_
  refine (zq_getI2 (f := 705) (v := (mI m 705 a1)) dX11_become_10 fl_11_113 (by decide) rfl rfl (by first | rfl | simp only [zm_Is, zm_Rs, zm_As, zm_Os, zm_In0, zm_Rn0])).mpr ⟨g1, ?_⟩
  refine (zq_putI (f := 705) dX11_become_13 fl_11_113 (by decide) rfl rfl rfl).mpr ⟨g2, ?_⟩
  refine (zq_aload_n dX11_become_16 rfl).mpr ?_
  refine (zq_aload_n dX11_become_17 rfl).mpr ?_
  refine (zq_getI2 (f := 712) (v := (mI m 712 a1)) dX11_become_18 fl_11_116 (by decide) rfl rfl (by first | rfl | simp only [zm_Is, zm_Rs, zm_As, zm_Os, zm_In0, zm_Rn0])).mpr ⟨g1, ?_⟩
  refine (zq_putI (f := 712) dX11_become_21 fl_11_116 (by decide) rfl rfl rfl).mpr ⟨g2, ?_⟩
  refine (zq_aload_n dX11_become_24 rfl).mpr ?_
  refine (zq_aload_n dX11_become_25 rfl).mpr ?_
  refine (zq_getI2 (f := 736) (v := (mI m 736 a1)) dX11_become_26 fl_11_119 (by decide) rfl rfl (by first | rfl | simp only [zm_Is, zm_Rs, zm_As, zm_Os, zm_In0, zm_Rn0])).mpr ⟨g1, ?_⟩
  refine (zq_putI (f := 736) dX11_become_29 fl_11_119 (by decide) rfl rfl rfl).mpr ⟨g2, ?_⟩
  refine (zq_aload_n dX11_become_32 rfl).mpr ?_
  refine (zq_aload_n dX11_become_33 rfl).mpr ?_
  refine (zq_getI2 (f := 737) (v := (mI m 737 a1)) dX11_become_34 fl_11_122 (by decide) rfl rfl (by first | rfl | simp only [zm_Is, zm_Rs, zm_As, zm_Os, zm_In0, zm_Rn0])).mpr ⟨g1, ?_⟩
  refine (zq_putI (f := 737) dX11_become_37 fl_11_122 (by decide) rfl rfl rfl).mpr ⟨g2, ?_⟩
  refine (zq_aload_n dX11_become_40 rfl).mpr ?_
  refine (zq_aload_n dX11_become_41 rfl).mpr ?_
  refine (zq_getI2 (f := 738) (v := (mI m 738 a1)) dX11_become_42 fl_11_125 (by decide) rfl rfl (by first | rfl | simp only [zm_Is, zm_Rs, zm_As, zm_Os, zm_In0, zm_Rn0])).mpr ⟨g1, ?_⟩
  refine (zq_putI (f := 738) dX11_become_45 fl_11_125 (by decide) rfl rfl rfl).mpr ⟨g2, ?_⟩
  refine (zq_aload_n dX11_become_48 rfl).mpr ?_
  refine (zq_getR2 (f := 706) (v := (mR m 706 a1)) dX11_become_49 fl_11_9 (by decide) rfl rfl (by first | rfl | simp only [zm_Is, zm_Rs, zm_As, zm_Os, zm_In0, zm_Rn0])).mpr ⟨g1, ?_⟩
  refine (zq_aload_n dX11_become_52 rfl).mpr ?_
  refine (zq_getR2 (f := 706) (v := (mR m 706 a0)) dX11_become_53 fl_11_9 (by decide) rfl rfl (by first | rfl | simp only [zm_Is, zm_Rs, zm_As, zm_Os, zm_In0, zm_Rn0])).mpr ⟨g2, ?_⟩
  refine zq_staticV (n := 2) dX11_become_56 mr_11_128 zn_130 rfl rfl (Nat.le_of_ble_eq_true rfl) (Nat.le_of_ble_eq_true rfl) ?_
  refine h.mono (fun r m3 h => ?_)
  obtain ⟨rfl, h⟩ := h
  refine ⟨rfl, ?_⟩
  refine (zq_aload_n dX11_become_59 rfl).mpr ?_
  obtain ⟨g5, h⟩ := h
  refine (zq_getR2 (f := 707) (v := (mR m3 707 a1)) dX11_become_60 fl_11_15 (by decide) rfl rfl (by first | rfl | simp only [zm_Is, zm_Rs, zm_As, zm_Os, zm_In0, zm_Rn0])).mpr ⟨g5, ?_⟩
  refine (zq_aload_n dX11_become_63 rfl).mpr ?_
  obtain ⟨g6, h⟩ := h
  refine (zq_getR2 (f := 707) (v := (mR m3 707 a0)) dX11_become_64 fl_11_15 (by decide) rfl rfl (by first | rfl | simp only [zm_Is, zm_Rs, zm_As, zm_Os, zm_In0, zm_Rn0])).mpr ⟨g6, ?_⟩
  refine zq_staticV (n := 2) dX11_become_67 mr_11_128 zn_130 rfl rfl (Nat.le_of_ble_eq_true rfl) (Nat.le_of_ble_eq_true rfl) ?_
  refine h.mono (fun r m7 h => ?_)
  obtain ⟨rfl, h⟩ := h
  refine ⟨rfl, ?_⟩
  refine (zq_aload_n dX11_become_70 rfl).mpr ?_
  obtain ⟨g9, h⟩ := h
  refine (zq_getR2 (f := 708) (v := (mR m7 708 a1)) dX11_become_71 fl_11_18 (by decide) rfl rfl (by first | rfl | simp only [zm_Is, zm_Rs, zm_As, zm_Os, zm_In0, zm_Rn0])).mpr ⟨g9, ?_⟩
  refine (zq_aload_n dX11_become_74 rfl).mpr ?_
  obtain ⟨g10, h⟩ := h
  refine (zq_getR2 (f := 708) (v := (mR m7 708 a0)) dX11_become_75 fl_11_18 (by decide) rfl rfl (by first | rfl | simp only [zm_Is, zm_Rs, zm_As, zm_Os, zm_In0, zm_Rn0])).mpr ⟨g10, ?_⟩
  refine zq_staticV (n := 2) dX11_become_78 mr_11_128 zn_130 rfl rfl (Nat.le_of_ble_eq_true rfl) (Nat.le_of_ble_eq_true rfl) ?_
  refine h.mono (fun r m11 h => ?_)
  obtain ⟨rfl, h⟩ := h
  refine ⟨rfl, ?_⟩
  refine (zq_aload_n dX11_become_81 rfl).mpr ?_
  obtain ⟨g13, h⟩ := h
  refine (zq_getR2 (f := 709) (v := (mR m11 709 a1)) dX11_become_82 fl_11_21 (by decide) rfl rfl (by first | rfl | simp only [zm_Is, zm_Rs, zm_As, zm_Os, zm_In0, zm_Rn0])).mpr ⟨g13, ?_⟩
  refine (zq_aload_n dX11_become_85 rfl).mpr ?_
  obtain ⟨g14, h⟩ := h
  refine (zq_getR2 (f := 709) (v := (mR m11 709 a0)) dX11_become_86 fl_11_21 (by decide) rfl rfl (by first | rfl | simp only [zm_Is, zm_Rs, zm_As, zm_Os, zm_In0, zm_Rn0])).mpr ⟨g14, ?_⟩
  refine zq_staticV (n := 2) dX11_become_89 mr_11_128 zn_130 rfl rfl (Nat.le_of_ble_eq_true rfl) (Nat.le_of_ble_eq_true rfl) ?_
  refine h.mono (fun r m15 h => ?_)
  obtain ⟨rfl, h⟩ := h
  refine ⟨rfl, ?_⟩
  refine (zq_aload_n dX11_become_92 rfl).mpr ?_
  obtain ⟨g17, h⟩ := h
  refine (zq_getR2 (f := 710) (v := (mR m15 710 a1)) dX11_become_93 fl_11_24 (by decide) rfl rfl (by first | rfl | simp only [zm_Is, zm_Rs, zm_As, zm_Os, zm_In0, zm_Rn0])).mpr ⟨g17, ?_⟩
  refine (zq_aload_n dX11_become_96 rfl).mpr ?_
  obtain ⟨g18, h⟩ := h
  refine (zq_getR2 (f := 710) (v := (mR m15 710 a0)) dX11_become_97 fl_11_24 (by decide) rfl rfl (by first | rfl | simp only [zm_Is, zm_Rs, zm_As, zm_Os, zm_In0, zm_Rn0])).mpr ⟨g18, ?_⟩
  refine zq_staticV (n := 2) dX11_become_100 mr_11_128 zn_130 rfl rfl (Nat.le_of_ble_eq_true rfl) (Nat.le_of_ble_eq_true rfl) ?_
  refine h.mono (fun r m19 h => ?_)
  obtain ⟨rfl, h⟩ := h
  refine ⟨rfl, ?_⟩
  refine (zq_aload_n dX11_become_103 rfl).mpr ?_
  obtain ⟨g21, h⟩ := h
  refine (zq_getR2 (f := 711) (v := (mR m19 711 a1)) dX11_become_104 fl_11_27 (by decide) rfl rfl (by first | rfl | simp only [zm_Is, zm_Rs, zm_As, zm_Os, zm_In0, zm_Rn0])).mpr ⟨g21, ?_⟩
  refine (zq_aload_n dX11_become_107 rfl).mpr ?_
  obtain ⟨g22, h⟩ := h
  refine (zq_getR2 (f := 711) (v := (mR m19 711 a0)) dX11_become_108 fl_11_27 (by decide) rfl rfl (by first | rfl | simp only [zm_Is, zm_Rs, zm_As, zm_Os, zm_In0, zm_Rn0])).mpr ⟨g22, ?_⟩
  refine zq_staticV (n := 2) dX11_become_111 mr_11_128 zn_130 rfl rfl (Nat.le_of_ble_eq_true rfl) (Nat.le_of_ble_eq_true rfl) ?_
  refine h.mono (fun r m23 h => ?_)
  obtain ⟨rfl, h⟩ := h
  refine ⟨rfl, ?_⟩
  refine (zq_aload_n dX11_become_114 rfl).mpr ?_
  obtain ⟨g25, h⟩ := h
  refine (zq_getR2 (f := 713) (v := (mR m23 713 a1)) dX11_become_115 fl_11_30 (by decide) rfl rfl (by first | rfl | simp only [zm_Is, zm_Rs, zm_As, zm_Os, zm_In0, zm_Rn0])).mpr ⟨g25, ?_⟩
  refine (zq_aload_n dX11_become_118 rfl).mpr ?_
  obtain ⟨g26, h⟩ := h
  refine (zq_getR2 (f := 713) (v := (mR m23 713 a0)) dX11_become_119 fl_11_30 (by decide) rfl rfl (by first | rfl | simp only [zm_Is, zm_Rs, zm_As, zm_Os, zm_In0, zm_Rn0])).mpr ⟨g26, ?_⟩
  refine zq_staticV (n := 2) dX11_become_122 mr_11_128 zn_130 rfl rfl (Nat.le_of_ble_eq_true rfl) (Nat.le_of_ble_eq_true rfl) ?_
  refine h.mono (fun r m27 h => ?_)
  obtain ⟨rfl, h⟩ := h
  refine ⟨rfl, ?_⟩
  refine (zq_aload_n dX11_become_125 rfl).mpr ?_
  obtain ⟨g29, h⟩ := h
  refine (zq_getR2 (f := 714) (v := (mR m27 714 a1)) dX11_become_126 fl_11_33 (by decide) rfl rfl (by first | rfl | simp only [zm_Is, zm_Rs, zm_As, zm_Os, zm_In0, zm_Rn0])).mpr ⟨g29, ?_⟩
  refine (zq_aload_n dX11_become_129 rfl).mpr ?_
  obtain ⟨g30, h⟩ := h
  refine (zq_getR2 (f := 714) (v := (mR m27 714 a0)) dX11_become_130 fl_11_33 (by decide) rfl rfl (by first | rfl | simp only [zm_Is, zm_Rs, zm_As, zm_Os, zm_In0, zm_Rn0])).mpr ⟨g30, ?_⟩
  refine zq_staticV (n := 2) dX11_become_133 mr_11_132 zn_131 rfl rfl (Nat.le_of_ble_eq_true rfl) (Nat.le_of_ble_eq_true rfl) ?_
  refine h.mono (fun r m31 h => ?_)
  obtain ⟨rfl, h⟩ := h
  refine ⟨rfl, ?_⟩
  refine (zq_aload_n dX11_become_136 rfl).mpr ?_
  obtain ⟨g33, h⟩ := h
  refine (zq_getR2 (f := 715) (v := (mR m31 715 a1)) dX11_become_137 fl_11_37 (by decide) rfl rfl (by first | rfl | simp only [zm_Is, zm_Rs, zm_As, zm_Os, zm_In0, zm_Rn0])).mpr ⟨g33, ?_⟩
  refine (zq_aload_n dX11_become_140 rfl).mpr ?_
  obtain ⟨g34, h⟩ := h
  refine (zq_getR2 (f := 715) (v := (mR m31 715 a0)) dX11_become_141 fl_11_37 (by decide) rfl rfl (by first | rfl | simp only [zm_Is, zm_Rs, zm_As, zm_Os, zm_In0, zm_Rn0])).mpr ⟨g34, ?_⟩
  refine zq_staticV (n := 2) dX11_become_144 mr_11_128 zn_130 rfl rfl (Nat.le_of_ble_eq_true rfl) (Nat.le_of_ble_eq_true rfl) ?_
  refine h.mono (fun r m35 h => ?_)
  obtain ⟨rfl, h⟩ := h
  refine ⟨rfl, ?_⟩
  refine (zq_aload_n dX11_become_147 rfl).mpr ?_
  obtain ⟨g37, h⟩ := h
  refine (zq_getR2 (f := 716) (v := (mR m35 716 a1)) dX11_become_148 fl_11_40 (by decide) rfl rfl (by first | rfl | simp only [zm_Is, zm_Rs, zm_As, zm_Os, zm_In0, zm_Rn0])).mpr ⟨g37, ?_⟩
  refine (zq_aload_n dX11_become_151 rfl).mpr ?_
  obtain ⟨g38, h⟩ := h
  refine (zq_getR2 (f := 716) (v := (mR m35 716 a0)) dX11_become_152 fl_11_40 (by decide) rfl rfl (by first | rfl | simp only [zm_Is, zm_Rs, zm_As, zm_Os, zm_In0, zm_Rn0])).mpr ⟨g38, ?_⟩
  refine zq_staticV (n := 2) dX11_become_155 mr_11_128 zn_130 rfl rfl (Nat.le_of_ble_eq_true rfl) (Nat.le_of_ble_eq_true rfl) ?_
  refine h.mono (fun r m39 h => ?_)
  obtain ⟨rfl, h⟩ := h
  refine ⟨rfl, ?_⟩
  refine (zq_aload_n dX11_become_158 rfl).mpr ?_
  obtain ⟨g41, h⟩ := h
  refine (zq_getR2 (f := 717) (v := (mR m39 717 a1)) dX11_become_159 fl_11_43 (by decide) rfl rfl (by first | rfl | simp only [zm_Is, zm_Rs, zm_As, zm_Os, zm_In0, zm_Rn0])).mpr ⟨g41, ?_⟩
  refine (zq_aload_n dX11_become_162 rfl).mpr ?_
  obtain ⟨g42, h⟩ := h
  refine (zq_getR2 (f := 717) (v := (mR m39 717 a0)) dX11_become_163 fl_11_43 (by decide) rfl rfl (by first | rfl | simp only [zm_Is, zm_Rs, zm_As, zm_Os, zm_In0, zm_Rn0])).mpr ⟨g42, ?_⟩
  refine zq_staticV (n := 2) dX11_become_166 mr_11_128 zn_130 rfl rfl (Nat.le_of_ble_eq_true rfl) (Nat.le_of_ble_eq_true rfl) ?_
  refine h.mono (fun r m43 h => ?_)
  obtain ⟨rfl, h⟩ := h
  refine ⟨rfl, ?_⟩
  refine (zq_aload_n dX11_become_169 rfl).mpr ?_
  obtain ⟨g45, h⟩ := h
  refine (zq_getR2 (f := 718) (v := (mR m43 718 a1)) dX11_become_170 fl_11_46 (by decide) rfl rfl (by first | rfl | simp only [zm_Is, zm_Rs, zm_As, zm_Os, zm_In0, zm_Rn0])).mpr ⟨g45, ?_⟩
  refine (zq_aload_n dX11_become_173 rfl).mpr ?_
  obtain ⟨g46, h⟩ := h
  refine (zq_getR2 (f := 718) (v := (mR m43 718 a0)) dX11_become_174 fl_11_46 (by decide) rfl rfl (by first | rfl | simp only [zm_Is, zm_Rs, zm_As, zm_Os, zm_In0, zm_Rn0])).mpr ⟨g46, ?_⟩
  refine zq_staticV (n := 2) dX11_become_177 mr_11_128 zn_130 rfl rfl (Nat.le_of_ble_eq_true rfl) (Nat.le_of_ble_eq_true rfl) ?_
  refine h.mono (fun r m47 h => ?_)
  obtain ⟨rfl, h⟩ := h
  refine ⟨rfl, ?_⟩
  refine (zq_aload_n dX11_become_180 rfl).mpr ?_
  obtain ⟨g49, h⟩ := h
  refine (zq_getR2 (f := 719) (v := (mR m47 719 a1)) dX11_become_181 fl_11_49 (by decide) rfl rfl (by first | rfl | simp only [zm_Is, zm_Rs, zm_As, zm_Os, zm_In0, zm_Rn0])).mpr ⟨g49, ?_⟩
  refine (zq_aload_n dX11_become_184 rfl).mpr ?_
  obtain ⟨g50, h⟩ := h
  refine (zq_getR2 (f := 719) (v := (mR m47 719 a0)) dX11_become_185 fl_11_49 (by decide) rfl rfl (by first | rfl | simp only [zm_Is, zm_Rs, zm_As, zm_Os, zm_In0, zm_Rn0])).mpr ⟨g50, ?_⟩
  refine zq_staticV (n := 2) dX11_become_188 mr_11_128 zn_130 rfl rfl (Nat.le_of_ble_eq_true rfl) (Nat.le_of_ble_eq_true rfl) ?_
  refine h.mono (fun r m51 h => ?_)
  obtain ⟨rfl, h⟩ := h
  refine ⟨rfl, ?_⟩
  refine (zq_aload_n dX11_become_191 rfl).mpr ?_
  obtain ⟨g53, h⟩ := h
  refine (zq_getR2 (f := 720) (v := (mR m51 720 a1)) dX11_become_192 fl_11_52 (by decide) rfl rfl (by first | rfl | simp only [zm_Is, zm_Rs, zm_As, zm_Os, zm_In0, zm_Rn0])).mpr ⟨g53, ?_⟩
  refine (zq_aload_n dX11_become_195 rfl).mpr ?_
  obtain ⟨g54, h⟩ := h
  refine (zq_getR2 (f := 720) (v := (mR m51 720 a0)) dX11_become_196 fl_11_52 (by decide) rfl rfl (by first | rfl | simp only [zm_Is, zm_Rs, zm_As, zm_Os, zm_In0, zm_Rn0])).mpr ⟨g54, ?_⟩
  refine zq_staticV (n := 2) dX11_become_199 mr_11_128 zn_130 rfl rfl (Nat.le_of_ble_eq_true rfl) (Nat.le_of_ble_eq_true rfl) ?_
  refine h.mono (fun r m55 h => ?_)
  obtain ⟨rfl, h⟩ := h
  refine ⟨rfl, ?_⟩
  refine (zq_aload_n dX11_become_202 rfl).mpr ?_
  obtain ⟨g57, h⟩ := h
  refine (zq_getR2 (f := 721) (v := (mR m55 721 a1)) dX11_become_203 fl_11_55 (by decide) rfl rfl (by first | rfl | simp only [zm_Is, zm_Rs, zm_As, zm_Os, zm_In0, zm_Rn0])).mpr ⟨g57, ?_⟩
  refine (zq_aload_n dX11_become_206 rfl).mpr ?_
  obtain ⟨g58, h⟩ := h
  refine (zq_getR2 (f := 721) (v := (mR m55 721 a0)) dX11_become_207 fl_11_55 (by decide) rfl rfl (by first | rfl | simp only [zm_Is, zm_Rs, zm_As, zm_Os, zm_In0, zm_Rn0])).mpr ⟨g58, ?_⟩
  refine zq_staticV (n := 2) dX11_become_210 mr_11_128 zn_130 rfl rfl (Nat.le_of_ble_eq_true rfl) (Nat.le_of_ble_eq_true rfl) ?_
  refine h.mono (fun r m59 h => ?_)
  obtain ⟨rfl, h⟩ := h
  refine ⟨rfl, ?_⟩
  refine (zq_aload_n dX11_become_213 rfl).mpr ?_
  obtain ⟨g61, h⟩ := h
  refine (zq_getR2 (f := 722) (v := (mR m59 722 a1)) dX11_become_214 fl_11_58 (by decide) rfl rfl (by first | rfl | simp only [zm_Is, zm_Rs, zm_As, zm_Os, zm_In0, zm_Rn0])).mpr ⟨g61, ?_⟩
  refine (zq_aload_n dX11_become_217 rfl).mpr ?_
  obtain ⟨g62, h⟩ := h
  refine (zq_getR2 (f := 722) (v := (mR m59 722 a0)) dX11_become_218 fl_11_58 (by decide) rfl rfl (by first | rfl | simp only [zm_Is, zm_Rs, zm_As, zm_Os, zm_In0, zm_Rn0])).mpr ⟨g62, ?_⟩
  refine zq_staticV (n := 2) dX11_become_221 mr_11_128 zn_130 rfl rfl (Nat.le_of_ble_eq_true rfl) (Nat.le_of_ble_eq_true rfl) ?_
  refine h.mono (fun r m63 h => ?_)
  obtain ⟨rfl, h⟩ := h
  refine ⟨rfl, ?_⟩
  refine (zq_aload_n dX11_become_224 rfl).mpr ?_
  obtain ⟨g65, h⟩ := h
  refine (zq_getR2 (f := 723) (v := (mR m63 723 a1)) dX11_become_225 fl_11_61 (by decide) rfl rfl (by first | rfl | simp only [zm_Is, zm_Rs, zm_As, zm_Os, zm_In0, zm_Rn0])).mpr ⟨g65, ?_⟩
  refine (zq_aload_n dX11_become_228 rfl).mpr ?_
  obtain ⟨g66, h⟩ := h
  refine (zq_getR2 (f := 723) (v := (mR m63 723 a0)) dX11_become_229 fl_11_61 (by decide) rfl rfl (by first | rfl | simp only [zm_Is, zm_Rs, zm_As, zm_Os, zm_In0, zm_Rn0])).mpr ⟨g66, ?_⟩
  refine zq_staticV (n := 2) dX11_become_232 mr_11_128 zn_130 rfl rfl (Nat.le_of_ble_eq_true rfl) (Nat.le_of_ble_eq_true rfl) ?_
  refine h.mono (fun r m67 h => ?_)
  obtain ⟨rfl, h⟩ := h
  refine ⟨rfl, ?_⟩
  refine (zq_aload_n dX11_become_235 rfl).mpr ?_
  obtain ⟨g69, h⟩ := h
  refine (zq_getR2 (f := 724) (v := (mR m67 724 a1)) dX11_become_236 fl_11_64 (by decide) rfl rfl (by first | rfl | simp only [zm_Is, zm_Rs, zm_As, zm_Os, zm_In0, zm_Rn0])).mpr ⟨g69, ?_⟩
  refine (zq_aload_n dX11_become_239 rfl).mpr ?_
  obtain ⟨g70, h⟩ := h
  refine (zq_getR2 (f := 724) (v := (mR m67 724 a0)) dX11_become_240 fl_11_64 (by decide) rfl rfl (by first | rfl | simp only [zm_Is, zm_Rs, zm_As, zm_Os, zm_In0, zm_Rn0])).mpr ⟨g70, ?_⟩
  refine zq_staticV (n := 2) dX11_become_243 mr_11_128 zn_130 rfl rfl (Nat.le_of_ble_eq_true rfl) (Nat.le_of_ble_eq_true rfl) ?_
  refine h.mono (fun r m71 h => ?_)
  obtain ⟨rfl, h⟩ := h
  refine ⟨rfl, ?_⟩
  refine (zq_aload_n dX11_become_246 rfl).mpr ?_
  obtain ⟨g73, h⟩ := h
  refine (zq_getR2 (f := 725) (v := (mR m71 725 a1)) dX11_become_247 fl_11_67 (by decide) rfl rfl (by first | rfl | simp only [zm_Is, zm_Rs, zm_As, zm_Os, zm_In0, zm_Rn0])).mpr ⟨g73, ?_⟩
  refine (zq_aload_n dX11_become_250 rfl).mpr ?_
  obtain ⟨g74, h⟩ := h
  refine (zq_getR2 (f := 725) (v := (mR m71 725 a0)) dX11_become_251 fl_11_67 (by decide) rfl rfl (by first | rfl | simp only [zm_Is, zm_Rs, zm_As, zm_Os, zm_In0, zm_Rn0])).mpr ⟨g74, ?_⟩
  refine zq_staticV (n := 2) dX11_become_254 mr_11_128 zn_130 rfl rfl (Nat.le_of_ble_eq_true rfl) (Nat.le_of_ble_eq_true rfl) ?_
  refine h.mono (fun r m75 h => ?_)
  obtain ⟨rfl, h⟩ := h
  refine ⟨rfl, ?_⟩
  refine (zq_aload_n dX11_become_257 rfl).mpr ?_
  obtain ⟨g77, h⟩ := h
  refine (zq_getR2 (f := 726) (v := (mR m75 726 a1)) dX11_become_258 fl_11_70 (by decide) rfl rfl (by first | rfl | simp only [zm_Is, zm_Rs, zm_As, zm_Os, zm_In0, zm_Rn0])).mpr ⟨g77, ?_⟩
  refine (zq_aload_n dX11_become_261 rfl).mpr ?_
  obtain ⟨g78, h⟩ := h
  refine (zq_getR2 (f := 726) (v := (mR m75 726 a0)) dX11_become_262 fl_11_70 (by decide) rfl rfl (by first | rfl | simp only [zm_Is, zm_Rs, zm_As, zm_Os, zm_In0, zm_Rn0])).mpr ⟨g78, ?_⟩
  refine zq_staticV (n := 2) dX11_become_265 mr_11_128 zn_130 rfl rfl (Nat.le_of_ble_eq_true rfl) (Nat.le_of_ble_eq_true rfl) ?_
  refine h.mono (fun r m79 h => ?_)
  obtain ⟨rfl, h⟩ := h
  refine ⟨rfl, ?_⟩
  refine (zq_aload_n dX11_become_268 rfl).mpr ?_
  obtain ⟨g81, h⟩ := h
  refine (zq_getR2 (f := 727) (v := (mR m79 727 a1)) dX11_become_269 fl_11_73 (by decide) rfl rfl (by first | rfl | simp only [zm_Is, zm_Rs, zm_As, zm_Os, zm_In0, zm_Rn0])).mpr ⟨g81, ?_⟩
  refine (zq_aload_n dX11_become_272 rfl).mpr ?_
  obtain ⟨g82, h⟩ := h
  refine (zq_getR2 (f := 727) (v := (mR m79 727 a0)) dX11_become_273 fl_11_73 (by decide) rfl rfl (by first | rfl | simp only [zm_Is, zm_Rs, zm_As, zm_Os, zm_In0, zm_Rn0])).mpr ⟨g82, ?_⟩
  refine zq_staticV (n := 2) dX11_become_276 mr_11_128 zn_130 rfl rfl (Nat.le_of_ble_eq_true rfl) (Nat.le_of_ble_eq_true rfl) ?_
  refine h.mono (fun r m83 h => ?_)
  obtain ⟨rfl, h⟩ := h
  refine ⟨rfl, ?_⟩
  refine (zq_aload_n dX11_become_279 rfl).mpr ?_
  obtain ⟨g85, h⟩ := h
  refine (zq_getR2 (f := 728) (v := (mR m83 728 a1)) dX11_become_280 fl_11_76 (by decide) rfl rfl (by first | rfl | simp only [zm_Is, zm_Rs, zm_As, zm_Os, zm_In0, zm_Rn0])).mpr ⟨g85, ?_⟩
  refine (zq_aload_n dX11_become_283 rfl).mpr ?_
  obtain ⟨g86, h⟩ := h
  refine (zq_getR2 (f := 728) (v := (mR m83 728 a0)) dX11_become_284 fl_11_76 (by decide) rfl rfl (by first | rfl | simp only [zm_Is, zm_Rs, zm_As, zm_Os, zm_In0, zm_Rn0])).mpr ⟨g86, ?_⟩
  refine zq_staticV (n := 2) dX11_become_287 mr_11_132 zn_131 rfl rfl (Nat.le_of_ble_eq_true rfl) (Nat.le_of_ble_eq_true rfl) ?_
  refine h.mono (fun r m87 h => ?_)
  obtain ⟨rfl, h⟩ := h
  refine ⟨rfl, ?_⟩
  refine (zq_aload_n dX11_become_290 rfl).mpr ?_
  obtain ⟨g89, h⟩ := h
  refine (zq_getR2 (f := 729) (v := (mR m87 729 a1)) dX11_become_291 fl_11_79 (by decide) rfl rfl (by first | rfl | simp only [zm_Is, zm_Rs, zm_As, zm_Os, zm_In0, zm_Rn0])).mpr ⟨g89, ?_⟩
  refine (zq_aload_n dX11_become_294 rfl).mpr ?_
  obtain ⟨g90, h⟩ := h
  refine (zq_getR2 (f := 729) (v := (mR m87 729 a0)) dX11_become_295 fl_11_79 (by decide) rfl rfl (by first | rfl | simp only [zm_Is, zm_Rs, zm_As, zm_Os, zm_In0, zm_Rn0])).mpr ⟨g90, ?_⟩
  refine zq_staticV (n := 2) dX11_become_298 mr_11_132 zn_131 rfl rfl (Nat.le_of_ble_eq_true rfl) (Nat.le_of_ble_eq_true rfl) ?_
  refine h.mono (fun r m91 h => ?_)
  obtain ⟨rfl, h⟩ := h
  refine ⟨rfl, ?_⟩
  refine (zq_aload_n dX11_become_301 rfl).mpr ?_
  obtain ⟨g93, h⟩ := h
  refine (zq_getR2 (f := 730) (v := (mR m91 730 a1)) dX11_become_302 fl_11_82 (by decide) rfl rfl (by first | rfl | simp only [zm_Is, zm_Rs, zm_As, zm_Os, zm_In0, zm_Rn0])).mpr ⟨g93, ?_⟩
  refine (zq_aload_n dX11_become_305 rfl).mpr ?_
  obtain ⟨g94, h⟩ := h
  refine (zq_getR2 (f := 730) (v := (mR m91 730 a0)) dX11_become_306 fl_11_82 (by decide) rfl rfl (by first | rfl | simp only [zm_Is, zm_Rs, zm_As, zm_Os, zm_In0, zm_Rn0])).mpr ⟨g94, ?_⟩
  refine zq_staticV (n := 2) dX11_become_309 mr_11_128 zn_130 rfl rfl (Nat.le_of_ble_eq_true rfl) (Nat.le_of_ble_eq_true rfl) ?_
  refine h.mono (fun r m95 h => ?_)
  obtain ⟨rfl, h⟩ := h
  refine ⟨rfl, ?_⟩
  refine (zq_aload_n dX11_become_312 rfl).mpr ?_
  obtain ⟨g97, h⟩ := h
  refine (zq_getR2 (f := 731) (v := (mR m95 731 a1)) dX11_become_313 fl_11_85 (by decide) rfl rfl (by first | rfl | simp only [zm_Is, zm_Rs, zm_As, zm_Os, zm_In0, zm_Rn0])).mpr ⟨g97, ?_⟩
  refine (zq_aload_n dX11_become_316 rfl).mpr ?_
  obtain ⟨g98, h⟩ := h
  refine (zq_getR2 (f := 731) (v := (mR m95 731 a0)) dX11_become_317 fl_11_85 (by decide) rfl rfl (by first | rfl | simp only [zm_Is, zm_Rs, zm_As, zm_Os, zm_In0, zm_Rn0])).mpr ⟨g98, ?_⟩
  refine zq_staticV (n := 2) dX11_become_320 mr_11_128 zn_130 rfl rfl (Nat.le_of_ble_eq_true rfl) (Nat.le_of_ble_eq_true rfl) ?_
  refine h.mono (fun r m99 h => ?_)
  obtain ⟨rfl, h⟩ := h
  refine ⟨rfl, ?_⟩
  refine (zq_aload_n dX11_become_323 rfl).mpr ?_
  obtain ⟨g101, h⟩ := h
  refine (zq_getR2 (f := 732) (v := (mR m99 732 a1)) dX11_become_324 fl_11_88 (by decide) rfl rfl (by first | rfl | simp only [zm_Is, zm_Rs, zm_As, zm_Os, zm_In0, zm_Rn0])).mpr ⟨g101, ?_⟩
  refine (zq_aload_n dX11_become_327 rfl).mpr ?_
  obtain ⟨g102, h⟩ := h
  refine (zq_getR2 (f := 732) (v := (mR m99 732 a0)) dX11_become_328 fl_11_88 (by decide) rfl rfl (by first | rfl | simp only [zm_Is, zm_Rs, zm_As, zm_Os, zm_In0, zm_Rn0])).mpr ⟨g102, ?_⟩
  refine zq_staticV (n := 2) dX11_become_331 mr_11_128 zn_130 rfl rfl (Nat.le_of_ble_eq_true rfl) (Nat.le_of_ble_eq_true rfl) ?_
  refine h.mono (fun r m103 h => ?_)
  obtain ⟨rfl, h⟩ := h
  refine ⟨rfl, ?_⟩
  refine (zq_aload_n dX11_become_334 rfl).mpr ?_
  obtain ⟨g105, h⟩ := h
  refine (zq_getR2 (f := 733) (v := (mR m103 733 a1)) dX11_become_335 fl_11_91 (by decide) rfl rfl (by first | rfl | simp only [zm_Is, zm_Rs, zm_As, zm_Os, zm_In0, zm_Rn0])).mpr ⟨g105, ?_⟩
  refine (zq_aload_n dX11_become_338 rfl).mpr ?_
  obtain ⟨g106, h⟩ := h
  refine (zq_getR2 (f := 733) (v := (mR m103 733 a0)) dX11_become_339 fl_11_91 (by decide) rfl rfl (by first | rfl | simp only [zm_Is, zm_Rs, zm_As, zm_Os, zm_In0, zm_Rn0])).mpr ⟨g106, ?_⟩
  refine zq_staticV (n := 2) dX11_become_342 mr_11_128 zn_130 rfl rfl (Nat.le_of_ble_eq_true rfl) (Nat.le_of_ble_eq_true rfl) ?_
  refine h.mono (fun r m107 h => ?_)
  obtain ⟨rfl, h⟩ := h
  refine ⟨rfl, ?_⟩
  refine (zq_aload_n dX11_become_345 rfl).mpr ?_
  obtain ⟨g109, h⟩ := h
  refine (zq_getR2 (f := 734) (v := (mR m107 734 a1)) dX11_become_346 fl_11_94 (by decide) rfl rfl (by first | rfl | simp only [zm_Is, zm_Rs, zm_As, zm_Os, zm_In0, zm_Rn0])).mpr ⟨g109, ?_⟩
  refine (zq_aload_n dX11_become_349 rfl).mpr ?_
  obtain ⟨g110, h⟩ := h
  refine (zq_getR2 (f := 734) (v := (mR m107 734 a0)) dX11_become_350 fl_11_94 (by decide) rfl rfl (by first | rfl | simp only [zm_Is, zm_Rs, zm_As, zm_Os, zm_In0, zm_Rn0])).mpr ⟨g110, ?_⟩
  refine zq_staticV (n := 2) dX11_become_353 mr_11_128 zn_130 rfl rfl (Nat.le_of_ble_eq_true rfl) (Nat.le_of_ble_eq_true rfl) ?_
  refine h.mono (fun r m111 h => ?_)
  obtain ⟨rfl, h⟩ := h
  refine ⟨rfl, ?_⟩
  refine (zq_aload_n dX11_become_356 rfl).mpr ?_
  obtain ⟨g113, h⟩ := h
  refine (zq_getR2 (f := 735) (v := (mR m111 735 a1)) dX11_become_357 fl_11_97 (by decide) rfl rfl (by first | rfl | simp only [zm_Is, zm_Rs, zm_As, zm_Os, zm_In0, zm_Rn0])).mpr ⟨g113, ?_⟩
  refine (zq_aload_n dX11_become_360 rfl).mpr ?_
  obtain ⟨g114, h⟩ := h
  refine (zq_getR2 (f := 735) (v := (mR m111 735 a0)) dX11_become_361 fl_11_97 (by decide) rfl rfl (by first | rfl | simp only [zm_Is, zm_Rs, zm_As, zm_Os, zm_In0, zm_Rn0])).mpr ⟨g114, ?_⟩
  refine zq_staticV (n := 2) dX11_become_364 mr_11_128 zn_130 rfl rfl (Nat.le_of_ble_eq_true rfl) (Nat.le_of_ble_eq_true rfl) ?_
  refine h.mono (fun r m115 h => ?_)
  obtain ⟨rfl, h⟩ := h
  refine ⟨rfl, ?_⟩
  refine (zq_aload_n dX11_become_367 rfl).mpr ?_
  obtain ⟨g117, h⟩ := h
  refine (zq_getR2 (f := 739) (v := (mR m115 739 a1)) dX11_become_368 fl_11_100 (by decide) rfl rfl (by first | rfl | simp only [zm_Is, zm_Rs, zm_As, zm_Os, zm_In0, zm_Rn0])).mpr ⟨g117, ?_⟩
  refine (zq_aload_n dX11_become_371 rfl).mpr ?_
  obtain ⟨g118, h⟩ := h
  refine (zq_getR2 (f := 739) (v := (mR m115 739 a0)) dX11_become_372 fl_11_100 (by decide) rfl rfl (by first | rfl | simp only [zm_Is, zm_Rs, zm_As, zm_Os, zm_In0, zm_Rn0])).mpr ⟨g118, ?_⟩
  refine zq_staticV (n := 2) dX11_become_375 mr_11_128 zn_130 rfl rfl (Nat.le_of_ble_eq_true rfl) (Nat.le_of_ble_eq_true rfl) ?_
  refine h.mono (fun r m119 h => ?_)
  obtain ⟨rfl, h⟩ := h
  refine ⟨rfl, ?_⟩
  exact (zq_ret dX11_become_378 rfl).mpr h
theorem bX11_isKnot_0 {a0 : Nat} {a1 : Int} {a2 : Int} (h : zW xs xl d cX11_isKnot 11 (some .boolean) false [] 5 [zR a0, zI a1, zI a2, zI 0, zI 0] [] m Q) : zC xs xl (d + 1) 133 [zR a0, zI a1, zI a2] m Q := by
  refine zk_133 ?_
  refine (zq_iconst (v := 0) dX11_isKnot_0 (by decide)).mpr ?_
  refine (zq_istore_n (l := [zR a0, zI a1, zI a2, zI 0, zU]) dX11_isKnot_1 (Nat.le_of_ble_eq_true rfl) rfl).mpr ?_
  refine (zq_iconst (v := 0) dX11_isKnot_2 (by decide)).mpr ?_
  refine (zq_istore (l := [zR a0, zI a1, zI a2, zI 0, zI 0]) dX11_isKnot_3 (Nat.le_of_ble_eq_true rfl) rfl).mpr ?_
  exact h
theorem bX11_isKnot_5 {a0 : Nat} {a1 : Int} {a2 : Int} {a3 : Int} {a4 : Int} (h : (mC m a0 = 12) ∧ (mC m (mR m 709 a0) = 20) ∧ (0 ≤ a1 ∧ a1 < mN m (mR m 709 a0)) ∧ (((mA m (mR m 709 a0) (Int.toNat a1)) ≤ a4 → (a3 = 0 ∨ a3 = 1) ∧ Q (.inl (some (zI a3))) m) ∧ (¬ ((mA m (mR m 709 a0) (Int.toNat a1)) ≤ a4) → ((a3 ≠ 0 → zW xs xl d cX11_isKnot 11 (some .boolean) false [] 5 [zR a0, zI a1, zI a2, zI 1, zI (wr (a4 + 1))] [] m Q) ∧ (¬ (a3 ≠ 0) → (mC m (mR m 710 a0) = 20) ∧ (0 ≤ (wr ((wr (8 * a1)) + a4)) ∧ (wr ((wr (8 * a1)) + a4)) < mN m (mR m 710 a0)) ∧ (((mA m (mR m 710 a0) (Int.toNat (wr ((wr (8 * a1)) + a4)))) ≠ a2 → zW xs xl d cX11_isKnot 11 (some .boolean) false [] 5 [zR a0, zI a1, zI a2, zI 0, zI (wr (a4 + 1))] [] m Q) ∧ (¬ ((mA m (mR m 710 a0) (Int.toNat (wr ((wr (8 * a1)) + a4)))) ≠ a2) → zW xs xl d cX11_isKnot 11 (some .boolean) false [] 5 [zR a0, zI a1, zI a2, zI 1, zI (wr (a4 + 1))] [] m Q))))))) : zW xs xl d cX11_isKnot 11 (some .boolean) false [] 5 [zR a0, zI a1, zI a2, zI a3, zI a4] [] m Q := by
  refine (zq_iload dX11_isKnot_5 rfl).mpr ?_
  refine (zq_aload_n dX11_isKnot_7 rfl).mpr ?_
  obtain ⟨g1, h⟩ := h
  refine (zq_getR2 (f := 709) (v := (mR m 709 a0)) dX11_isKnot_8 fl_11_21 (by decide) rfl rfl (by first | rfl | simp only [zm_Is, zm_Rs, zm_As, zm_Os, zm_In0, zm_Rn0])).mpr ⟨g1, ?_⟩
  refine (zq_iload_n dX11_isKnot_11 rfl).mpr ?_
  obtain ⟨g2, h⟩ := h
  obtain ⟨g3, h⟩ := h
  refine (zq_iald2 (v := (mA m (mR m 709 a0) (Int.toNat a1))) dX11_isKnot_12 (by first | rfl | simp only [zm_Is, zm_Rs, zm_As, zm_Os, zm_In0, zm_Rn0])).mpr ⟨⟨g2, g3⟩, ?_⟩
  refine (zq_icmp_ge (t := 48) dX11_isKnot_13 rfl).mpr ⟨fun c => ?_, fun c => ?_⟩
  · replace h := h.1 c
    refine (zq_iload_n dX11_isKnot_48 rfl).mpr ?_
    obtain ⟨g4, h⟩ := h
    exact (zq_iret dX11_isKnot_49 rfl).mpr ⟨g4, h⟩
  · replace h := h.2 c
    refine (zq_iload_n dX11_isKnot_16 rfl).mpr ?_
    refine (zq_if_ne (t := 36) dX11_isKnot_17 rfl).mpr ⟨fun c => ?_, fun c => ?_⟩
    · replace h := h.1 c
      refine (zq_iconst (v := 1) dX11_isKnot_36 (by decide)).mpr ?_
      refine (zq_goto (t := 41) dX11_isKnot_37 rfl).mpr ?_
      refine (zq_istore_n (l := [zR a0, zI a1, zI a2, zI 1, zI a4]) dX11_isKnot_41 (Nat.le_of_ble_eq_true rfl) rfl).mpr ?_
      refine (zq_iinc (l := [zR a0, zI a1, zI a2, zI 1, zI (wr (a4 + 1))]) dX11_isKnot_42 rfl rfl).mpr ?_
      refine (zq_goto (t := 5) dX11_isKnot_45 rfl).mpr ?_
      exact h
    · replace h := h.2 c
      refine (zq_aload_n dX11_isKnot_20 rfl).mpr ?_
      refine (zq_getR2 (f := 710) (v := (mR m 710 a0)) dX11_isKnot_21 fl_11_24 (by decide) rfl rfl (by first | rfl | simp only [zm_Is, zm_Rs, zm_As, zm_Os, zm_In0, zm_Rn0])).mpr ⟨g1, ?_⟩
      refine (zq_bipush (v := 8) dX11_isKnot_24 (by decide)).mpr ?_
      refine (zq_iload_n dX11_isKnot_26 rfl).mpr ?_
      refine (zq_imul dX11_isKnot_27).mpr ?_
      refine (zq_iload dX11_isKnot_28 rfl).mpr ?_
      refine (zq_iadd dX11_isKnot_30).mpr ?_
      obtain ⟨g5, h⟩ := h
      obtain ⟨g6, h⟩ := h
      refine (zq_iald2 (v := (mA m (mR m 710 a0) (Int.toNat (wr ((wr (8 * a1)) + a4))))) dX11_isKnot_31 (by first | rfl | simp only [zm_Is, zm_Rs, zm_As, zm_Os, zm_In0, zm_Rn0])).mpr ⟨⟨g5, g6⟩, ?_⟩
      refine (zq_iload_n dX11_isKnot_32 rfl).mpr ?_
      refine (zq_icmp_ne (t := 40) dX11_isKnot_33 rfl).mpr ⟨fun c => ?_, fun c => ?_⟩
      · replace h := h.1 c
        refine (zq_iconst (v := 0) dX11_isKnot_40 (by decide)).mpr ?_
        refine (zq_istore_n (l := [zR a0, zI a1, zI a2, zI 0, zI a4]) dX11_isKnot_41 (Nat.le_of_ble_eq_true rfl) rfl).mpr ?_
        refine (zq_iinc (l := [zR a0, zI a1, zI a2, zI 0, zI (wr (a4 + 1))]) dX11_isKnot_42 rfl rfl).mpr ?_
        refine (zq_goto (t := 5) dX11_isKnot_45 rfl).mpr ?_
        exact h
      · replace h := h.2 c
        refine (zq_iconst (v := 1) dX11_isKnot_36 (by decide)).mpr ?_
        refine (zq_goto (t := 41) dX11_isKnot_37 rfl).mpr ?_
        refine (zq_istore_n (l := [zR a0, zI a1, zI a2, zI 1, zI a4]) dX11_isKnot_41 (Nat.le_of_ble_eq_true rfl) rfl).mpr ?_
        refine (zq_iinc (l := [zR a0, zI a1, zI a2, zI 1, zI (wr (a4 + 1))]) dX11_isKnot_42 rfl rfl).mpr ?_
        refine (zq_goto (t := 5) dX11_isKnot_45 rfl).mpr ?_
        exact h
theorem bX11_place_0 {a0 : Nat} {a1 : Int} {a2 : Int} (h : zW xs xl d cX11_place 11 (some .int) false [] 5 [zR a0, zI a1, zI a2, zI 0, zI 0] [] m Q) : zC xs xl (d + 1) 134 [zR a0, zI a1, zI a2] m Q := by
  refine zk_134 ?_
  refine (zq_iconst (v := 0) dX11_place_0 (by decide)).mpr ?_
  refine (zq_istore_n (l := [zR a0, zI a1, zI a2, zI 0, zU]) dX11_place_1 (Nat.le_of_ble_eq_true rfl) rfl).mpr ?_
  refine (zq_iconst (v := 0) dX11_place_2 (by decide)).mpr ?_
  refine (zq_istore (l := [zR a0, zI a1, zI a2, zI 0, zI 0]) dX11_place_3 (Nat.le_of_ble_eq_true rfl) rfl).mpr ?_
  exact h
theorem bX11_place_5 {a0 : Nat} {a1 : Int} {a2 : Int} {a3 : Int} {a4 : Int} (h : (mC m a0 = 12) ∧ (mC m (mR m 707 a0) = 20) ∧ (0 ≤ a1 ∧ a1 < mN m (mR m 707 a0)) ∧ (((mA m (mR m 707 a0) (Int.toNat a1)) ≤ a4 → Q (.inl (some (zI (-1)))) m) ∧ (¬ ((mA m (mR m 707 a0) (Int.toNat a1)) ≤ a4) → zC xs xl d 133 [zR a0, zI a1, zI a4] m (fun r m4 => ∃ v5 : Int, r = .inl (some (zI v5)) ∧ ((v5 = 0 → (((wr ((wr (a4 + 1)) - a3)) ≠ a2 → zW xs xl d cX11_place 11 (some .int) false [] 5 [zR a0, zI a1, zI a2, zI a3, zI (wr (a4 + 1))] [] m4 Q) ∧ (¬ ((wr ((wr (a4 + 1)) - a3)) ≠ a2) → Q (.inl (some (zI a3))) m4))) ∧ (¬ (v5 = 0) → zW xs xl d cX11_place 11 (some .int) false [] 5 [zR a0, zI a1, zI a2, zI (wr (a4 + 1)), zI (wr (a4 + 1))] [] m4 Q)))))) : zW xs xl d cX11_place 11 (some .int) false [] 5 [zR a0, zI a1, zI a2, zI a3, zI a4] [] m Q := by
  refine (zq_iload dX11_place_5 rfl).mpr ?_
  refine (zq_aload_n dX11_place_7 rfl).mpr ?_
  obtain ⟨g1, h⟩ := h
  refine (zq_getR2 (f := 707) (v := (mR m 707 a0)) dX11_place_8 fl_11_15 (by decide) rfl rfl (by first | rfl | simp only [zm_Is, zm_Rs, zm_As, zm_Os, zm_In0, zm_Rn0])).mpr ⟨g1, ?_⟩
  refine (zq_iload_n dX11_place_11 rfl).mpr ?_
  obtain ⟨g2, h⟩ := h
  obtain ⟨g3, h⟩ := h
  refine (zq_iald2 (v := (mA m (mR m 707 a0) (Int.toNat a1))) dX11_place_12 (by first | rfl | simp only [zm_Is, zm_Rs, zm_As, zm_Os, zm_In0, zm_Rn0])).mpr ⟨⟨g2, g3⟩, ?_⟩
  refine (zq_icmp_ge (t := 52) dX11_place_13 rfl).mpr ⟨fun c => ?_, fun c => ?_⟩
  · replace h := h.1 c
    refine (zq_iconst (v := (-1)) dX11_place_52 (by decide)).mpr ?_
    exact (zq_iret dX11_place_53 rfl).mpr ⟨trivial, h⟩
  · replace h := h.2 c
    refine (zq_aload_n dX11_place_16 rfl).mpr ?_
    refine (zq_iload_n dX11_place_17 rfl).mpr ?_
    refine (zq_iload dX11_place_18 rfl).mpr ?_
    refine zq_virtualI (n := 2) dX11_place_20 mr_11_135 zn_133 rfl rfl rfl (zrcv_R zo_133 (by decide) g1) (Nat.le_of_ble_eq_true rfl) ?_
    refine h.mono (fun r m4 h => ?_)
    obtain ⟨v5, rfl, h⟩ := h
    refine ⟨_, rfl, ?_⟩
    refine (zq_if_eq (t := 34) dX11_place_23 rfl).mpr ⟨fun c => ?_, fun c => ?_⟩
    · replace h := h.1 c
      refine (zq_iload dX11_place_34 rfl).mpr ?_
      refine (zq_iconst (v := 1) dX11_place_36 (by decide)).mpr ?_
      refine (zq_iadd dX11_place_37).mpr ?_
      refine (zq_iload_n dX11_place_38 rfl).mpr ?_
      refine (zq_isub dX11_place_39).mpr ?_
      refine (zq_iload_n dX11_place_40 rfl).mpr ?_
      refine (zq_icmp_ne (t := 46) dX11_place_41 rfl).mpr ⟨fun c => ?_, fun c => ?_⟩
      · replace h := h.1 c
        refine (zq_iinc (l := [zR a0, zI a1, zI a2, zI a3, zI (wr (a4 + 1))]) dX11_place_46 rfl rfl).mpr ?_
        refine (zq_goto (t := 5) dX11_place_49 rfl).mpr ?_
        exact h
      · replace h := h.2 c
        refine (zq_iload_n dX11_place_44 rfl).mpr ?_
        exact (zq_iret dX11_place_45 rfl).mpr ⟨trivial, h⟩
    · replace h := h.2 c
      refine (zq_iload dX11_place_26 rfl).mpr ?_
      refine (zq_iconst (v := 1) dX11_place_28 (by decide)).mpr ?_
      refine (zq_iadd dX11_place_29).mpr ?_
      refine (zq_istore_n (l := [zR a0, zI a1, zI a2, zI (wr (a4 + 1)), zI a4]) dX11_place_30 (Nat.le_of_ble_eq_true rfl) rfl).mpr ?_
      refine (zq_goto (t := 46) dX11_place_31 rfl).mpr ?_
      refine (zq_iinc (l := [zR a0, zI a1, zI a2, zI (wr (a4 + 1)), zI (wr (a4 + 1))]) dX11_place_46 rfl rfl).mpr ?_
      refine (zq_goto (t := 5) dX11_place_49 rfl).mpr ?_
      exact h
theorem bX11_clear_0 {a0 : Nat} {a1 : Int} (h : zW xs xl d cX11_clear 11 (some .int) false [] 7 [zR a0, zI a1, zI 0, zI 0, zI 0] [] m Q) : zC xs xl (d + 1) 135 [zR a0, zI a1] m Q := by
  refine zk_135 ?_
  refine (zq_iconst (v := 0) dX11_clear_0 (by decide)).mpr ?_
  refine (zq_istore_n (l := [zR a0, zI a1, zI 0, zU, zU]) dX11_clear_1 (Nat.le_of_ble_eq_true rfl) rfl).mpr ?_
  refine (zq_iconst (v := 0) dX11_clear_2 (by decide)).mpr ?_
  refine (zq_istore_n (l := [zR a0, zI a1, zI 0, zI 0, zU]) dX11_clear_3 (Nat.le_of_ble_eq_true rfl) rfl).mpr ?_
  refine (zq_iconst (v := 0) dX11_clear_4 (by decide)).mpr ?_
  refine (zq_istore (l := [zR a0, zI a1, zI 0, zI 0, zI 0]) dX11_clear_5 (Nat.le_of_ble_eq_true rfl) rfl).mpr ?_
  exact h
theorem bX11_clear_7 {a0 : Nat} {a1 : Int} {a2 : Int} {a3 : Int} {a4 : Int} (h : (mC m a0 = 12) ∧ (mC m (mR m 707 a0) = 20) ∧ (0 ≤ a1 ∧ a1 < mN m (mR m 707 a0)) ∧ (((mA m (mR m 707 a0) (Int.toNat a1)) ≤ a4 → Q (.inl (some (zI a2))) m) ∧ (¬ ((mA m (mR m 707 a0) (Int.toNat a1)) ≤ a4) → zC xs xl d 133 [zR a0, zI a1, zI a4] m (fun r m4 => ∃ v5 : Int, r = .inl (some (zI v5)) ∧ ((v5 = 0 → zW xs xl d cX11_clear 11 (some .int) false [] 7 [zR a0, zI a1, zI (if a2 < (wr ((wr (a4 + 1)) - a3)) then (wr ((wr (a4 + 1)) - a3)) else a2), zI a3, zI (wr (a4 + 1))] [] m4 Q) ∧ (¬ (v5 = 0) → zW xs xl d cX11_clear 11 (some .int) false [] 7 [zR a0, zI a1, zI a2, zI (wr (a4 + 1)), zI (wr (a4 + 1))] [] m4 Q)))))) : zW xs xl d cX11_clear 11 (some .int) false [] 7 [zR a0, zI a1, zI a2, zI a3, zI a4] [] m Q := by
  refine (zq_iload dX11_clear_7 rfl).mpr ?_
  refine (zq_aload_n dX11_clear_9 rfl).mpr ?_
  obtain ⟨g1, h⟩ := h
  refine (zq_getR2 (f := 707) (v := (mR m 707 a0)) dX11_clear_10 fl_11_15 (by decide) rfl rfl (by first | rfl | simp only [zm_Is, zm_Rs, zm_As, zm_Os, zm_In0, zm_Rn0])).mpr ⟨g1, ?_⟩
  refine (zq_iload_n dX11_clear_13 rfl).mpr ?_
  obtain ⟨g2, h⟩ := h
  obtain ⟨g3, h⟩ := h
  refine (zq_iald2 (v := (mA m (mR m 707 a0) (Int.toNat a1))) dX11_clear_14 (by first | rfl | simp only [zm_Is, zm_Rs, zm_As, zm_Os, zm_In0, zm_Rn0])).mpr ⟨⟨g2, g3⟩, ?_⟩
  refine (zq_icmp_ge (t := 53) dX11_clear_15 rfl).mpr ⟨fun c => ?_, fun c => ?_⟩
  · replace h := h.1 c
    refine (zq_iload_n dX11_clear_53 rfl).mpr ?_
    exact (zq_iret dX11_clear_54 rfl).mpr ⟨trivial, h⟩
  · replace h := h.2 c
    refine (zq_aload_n dX11_clear_18 rfl).mpr ?_
    refine (zq_iload_n dX11_clear_19 rfl).mpr ?_
    refine (zq_iload dX11_clear_20 rfl).mpr ?_
    refine zq_virtualI (n := 2) dX11_clear_22 mr_11_135 zn_133 rfl rfl rfl (zrcv_R zo_133 (by decide) g1) (Nat.le_of_ble_eq_true rfl) ?_
    refine h.mono (fun r m4 h => ?_)
    obtain ⟨v5, rfl, h⟩ := h
    refine ⟨_, rfl, ?_⟩
    refine (zq_if_eq (t := 36) dX11_clear_25 rfl).mpr ⟨fun c => ?_, fun c => ?_⟩
    · replace h := h.1 c
      refine (zq_iload_n dX11_clear_36 rfl).mpr ?_
      refine (zq_iload dX11_clear_37 rfl).mpr ?_
      refine (zq_iconst (v := 1) dX11_clear_39 (by decide)).mpr ?_
      refine (zq_iadd dX11_clear_40).mpr ?_
      refine (zq_iload_n dX11_clear_41 rfl).mpr ?_
      refine (zq_isub dX11_clear_42).mpr ?_
      refine (zq_max dX11_clear_43 mr_11_139).mpr ⟨(Nat.le_of_ble_eq_true rfl), ?_⟩
      refine (zq_istore_n (l := [zR a0, zI a1, zI (if a2 < (wr ((wr (a4 + 1)) - a3)) then (wr ((wr (a4 + 1)) - a3)) else a2), zI a3, zI a4]) dX11_clear_46 (Nat.le_of_ble_eq_true rfl) rfl).mpr ?_
      refine (zq_iinc (l := [zR a0, zI a1, zI (if a2 < (wr ((wr (a4 + 1)) - a3)) then (wr ((wr (a4 + 1)) - a3)) else a2), zI a3, zI (wr (a4 + 1))]) dX11_clear_47 rfl rfl).mpr ?_
      refine (zq_goto (t := 7) dX11_clear_50 rfl).mpr ?_
      exact h
    · replace h := h.2 c
      refine (zq_iload dX11_clear_28 rfl).mpr ?_
      refine (zq_iconst (v := 1) dX11_clear_30 (by decide)).mpr ?_
      refine (zq_iadd dX11_clear_31).mpr ?_
      refine (zq_istore_n (l := [zR a0, zI a1, zI a2, zI (wr (a4 + 1)), zI a4]) dX11_clear_32 (Nat.le_of_ble_eq_true rfl) rfl).mpr ?_
      refine (zq_goto (t := 47) dX11_clear_33 rfl).mpr ?_
      refine (zq_iinc (l := [zR a0, zI a1, zI a2, zI (wr (a4 + 1)), zI (wr (a4 + 1))]) dX11_clear_47 rfl rfl).mpr ?_
      refine (zq_goto (t := 7) dX11_clear_50 rfl).mpr ?_
      exact h
theorem bX11_find_0 {a0 : Nat} {a1 : Int} {a2 : Int} (h : zW xs xl d cX11_find 11 (some .int) false [] 5 [zR a0, zI a1, zI a2, zI (-1), zI 0] [] m Q) : zC xs xl (d + 1) 136 [zR a0, zI a1, zI a2] m Q := by
  refine zk_136 ?_
  refine (zq_iconst (v := (-1)) dX11_find_0 (by decide)).mpr ?_
  refine (zq_istore_n (l := [zR a0, zI a1, zI a2, zI (-1), zU]) dX11_find_1 (Nat.le_of_ble_eq_true rfl) rfl).mpr ?_
  refine (zq_iconst (v := 0) dX11_find_2 (by decide)).mpr ?_
  refine (zq_istore (l := [zR a0, zI a1, zI a2, zI (-1), zI 0]) dX11_find_3 (Nat.le_of_ble_eq_true rfl) rfl).mpr ?_
  exact h
theorem bX11_find_5 {a0 : Nat} {a1 : Int} {a2 : Int} {a3 : Int} {a4 : Int} (h : (mC m a0 = 12) ∧ (((mI m 705 a0) ≤ a4 → Q (.inl (some (zI a3))) m) ∧ (¬ ((mI m 705 a0) ≤ a4) → (mC m (mR m 706 a0) = 20) ∧ (0 ≤ a4 ∧ a4 < mN m (mR m 706 a0)) ∧ (((mA m (mR m 706 a0) (Int.toNat a4)) ≠ a1 → zW xs xl d cX11_find 11 (some .int) false [] 5 [zR a0, zI a1, zI a2, zI a3, zI (wr (a4 + 1))] [] m Q) ∧ (¬ ((mA m (mR m 706 a0) (Int.toNat a4)) ≠ a1) → ((a3 = (-1) → zW xs xl d cX11_find 11 (some .int) false [] 46 [zR a0, zI a1, zI a2, zI a3, zI a4] [] m Q) ∧ (¬ (a3 = (-1)) → (mC m (mR m 707 a0) = 20) ∧ (0 ≤ a4 ∧ a4 < mN m (mR m 707 a0)) ∧ (0 ≤ a3 ∧ a3 < mN m (mR m 707 a0)) ∧ (((mA m (mR m 707 a0) (Int.toNat a3)) ≤ (mA m (mR m 707 a0) (Int.toNat a4)) → zW xs xl d cX11_find 11 (some .int) false [] 5 [zR a0, zI a1, zI a2, zI a3, zI (wr (a4 + 1))] [] m Q) ∧ (¬ ((mA m (mR m 707 a0) (Int.toNat a3)) ≤ (mA m (mR m 707 a0) (Int.toNat a4))) → zW xs xl d cX11_find 11 (some .int) false [] 46 [zR a0, zI a1, zI a2, zI a3, zI a4] [] m Q))))))))) : zW xs xl d cX11_find 11 (some .int) false [] 5 [zR a0, zI a1, zI a2, zI a3, zI a4] [] m Q := by
  refine (zq_iload dX11_find_5 rfl).mpr ?_
  refine (zq_aload_n dX11_find_7 rfl).mpr ?_
  obtain ⟨g1, h⟩ := h
  refine (zq_getI2 (f := 705) (v := (mI m 705 a0)) dX11_find_8 fl_11_113 (by decide) rfl rfl (by first | rfl | simp only [zm_Is, zm_Rs, zm_As, zm_Os, zm_In0, zm_Rn0])).mpr ⟨g1, ?_⟩
  refine (zq_icmp_ge (t := 66) dX11_find_11 rfl).mpr ⟨fun c => ?_, fun c => ?_⟩
  · replace h := h.1 c
    refine (zq_iload_n dX11_find_66 rfl).mpr ?_
    exact (zq_iret dX11_find_67 rfl).mpr ⟨trivial, h⟩
  · replace h := h.2 c
    refine (zq_aload_n dX11_find_14 rfl).mpr ?_
    refine (zq_getR2 (f := 706) (v := (mR m 706 a0)) dX11_find_15 fl_11_9 (by decide) rfl rfl (by first | rfl | simp only [zm_Is, zm_Rs, zm_As, zm_Os, zm_In0, zm_Rn0])).mpr ⟨g1, ?_⟩
    refine (zq_iload dX11_find_18 rfl).mpr ?_
    obtain ⟨g2, h⟩ := h
    obtain ⟨g3, h⟩ := h
    refine (zq_iald2 (v := (mA m (mR m 706 a0) (Int.toNat a4))) dX11_find_20 (by first | rfl | simp only [zm_Is, zm_Rs, zm_As, zm_Os, zm_In0, zm_Rn0])).mpr ⟨⟨g2, g3⟩, ?_⟩
    refine (zq_iload_n dX11_find_21 rfl).mpr ?_
    refine (zq_icmp_ne (t := 60) dX11_find_22 rfl).mpr ⟨fun c => ?_, fun c => ?_⟩
    · replace h := h.1 c
      refine (zq_iinc (l := [zR a0, zI a1, zI a2, zI a3, zI (wr (a4 + 1))]) dX11_find_60 rfl rfl).mpr ?_
      refine (zq_goto (t := 5) dX11_find_63 rfl).mpr ?_
      exact h
    · replace h := h.2 c
      refine (zq_iload_n dX11_find_25 rfl).mpr ?_
      refine (zq_iconst (v := (-1)) dX11_find_26 (by decide)).mpr ?_
      refine (zq_icmp_eq (t := 46) dX11_find_27 rfl).mpr ⟨fun c => ?_, fun c => ?_⟩
      · replace h := h.1 c
        exact h
      · replace h := h.2 c
        refine (zq_aload_n dX11_find_30 rfl).mpr ?_
        refine (zq_getR2 (f := 707) (v := (mR m 707 a0)) dX11_find_31 fl_11_15 (by decide) rfl rfl (by first | rfl | simp only [zm_Is, zm_Rs, zm_As, zm_Os, zm_In0, zm_Rn0])).mpr ⟨g1, ?_⟩
        refine (zq_iload dX11_find_34 rfl).mpr ?_
        obtain ⟨g4, h⟩ := h
        obtain ⟨g5, h⟩ := h
        refine (zq_iald2 (v := (mA m (mR m 707 a0) (Int.toNat a4))) dX11_find_36 (by first | rfl | simp only [zm_Is, zm_Rs, zm_As, zm_Os, zm_In0, zm_Rn0])).mpr ⟨⟨g4, g5⟩, ?_⟩
        refine (zq_aload_n dX11_find_37 rfl).mpr ?_
        refine (zq_getR2 (f := 707) (v := (mR m 707 a0)) dX11_find_38 fl_11_15 (by decide) rfl rfl (by first | rfl | simp only [zm_Is, zm_Rs, zm_As, zm_Os, zm_In0, zm_Rn0])).mpr ⟨g1, ?_⟩
        refine (zq_iload_n dX11_find_41 rfl).mpr ?_
        obtain ⟨g6, h⟩ := h
        refine (zq_iald2 (v := (mA m (mR m 707 a0) (Int.toNat a3))) dX11_find_42 (by first | rfl | simp only [zm_Is, zm_Rs, zm_As, zm_Os, zm_In0, zm_Rn0])).mpr ⟨⟨g4, g6⟩, ?_⟩
        refine (zq_icmp_ge (t := 60) dX11_find_43 rfl).mpr ⟨fun c => ?_, fun c => ?_⟩
        · replace h := h.1 c
          refine (zq_iinc (l := [zR a0, zI a1, zI a2, zI a3, zI (wr (a4 + 1))]) dX11_find_60 rfl rfl).mpr ?_
          refine (zq_goto (t := 5) dX11_find_63 rfl).mpr ?_
          exact h
        · replace h := h.2 c
          exact h
theorem bX11_find_46 {a0 : Nat} {a1 : Int} {a2 : Int} {a3 : Int} {a4 : Int} (h : (mC m a0 = 12) ∧ zC xs xl d 134 [zR a0, zI a4, zI a2] m (fun r m1 => ∃ v2 : Int, r = .inl (some (zI v2)) ∧ ((v2 = (-1) → zW xs xl d cX11_find 11 (some .int) false [] 5 [zR a0, zI a1, zI a2, zI a3, zI (wr (a4 + 1))] [] m1 Q) ∧ (¬ (v2 = (-1)) → zW xs xl d cX11_find 11 (some .int) false [] 5 [zR a0, zI a1, zI a2, zI a4, zI (wr (a4 + 1))] [] m1 Q)))) : zW xs xl d cX11_find 11 (some .int) false [] 46 [zR a0, zI a1, zI a2, zI a3, zI a4] [] m Q := by
  refine (zq_aload_n dX11_find_46 rfl).mpr ?_
  refine (zq_iload dX11_find_47 rfl).mpr ?_
  refine (zq_iload_n dX11_find_49 rfl).mpr ?_
  obtain ⟨g3, h⟩ := h
  refine zq_virtualI (n := 2) dX11_find_50 mr_11_145 zn_134 rfl rfl rfl (zrcv_R zo_134 (by decide) g3) (Nat.le_of_ble_eq_true rfl) ?_
  refine h.mono (fun r m1 h => ?_)
  obtain ⟨v2, rfl, h⟩ := h
  refine ⟨_, rfl, ?_⟩
  refine (zq_iconst (v := (-1)) dX11_find_53 (by decide)).mpr ?_
  refine (zq_icmp_eq (t := 60) dX11_find_54 rfl).mpr ⟨fun c => ?_, fun c => ?_⟩
  · replace h := h.1 c
    refine (zq_iinc (l := [zR a0, zI a1, zI a2, zI a3, zI (wr (a4 + 1))]) dX11_find_60 rfl rfl).mpr ?_
    refine (zq_goto (t := 5) dX11_find_63 rfl).mpr ?_
    exact h
  · replace h := h.2 c
    refine (zq_iload dX11_find_57 rfl).mpr ?_
    refine (zq_istore_n (l := [zR a0, zI a1, zI a2, zI a4, zI a4]) dX11_find_59 (Nat.le_of_ble_eq_true rfl) rfl).mpr ?_
    refine (zq_iinc (l := [zR a0, zI a1, zI a2, zI a4, zI (wr (a4 + 1))]) dX11_find_60 rfl rfl).mpr ?_
    refine (zq_goto (t := 5) dX11_find_63 rfl).mpr ?_
    exact h
end ZB4
