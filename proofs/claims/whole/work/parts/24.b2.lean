section ZB2
variable {xs : Nat → Int} {xl d : Nat} {m : zM} {Q : zRes → zM → Prop}
theorem bX6_holds_0 {a0 : Nat} {a1 : Int} (h : (mC m a0 = 7) ∧ (((bAnd (mI m 396 a0) (bShl 1 a1)) = 0 → Q (.inl (some (zI 0))) m) ∧ (¬ ((bAnd (mI m 396 a0) (bShl 1 a1)) = 0) → Q (.inl (some (zI 1))) m))) : zC xs xl (d + 1) 65 [zR a0, zI a1] m Q := by
  refine zk_65 ?_
  refine (zq_aload_n dX6_holds_0 rfl).mpr ?_
  obtain ⟨g1, h⟩ := h
  refine (zq_getI2 (f := 396) (v := (mI m 396 a0)) dX6_holds_1 fl_6_54 (by decide) rfl rfl (by first | rfl | simp only [zm_Is, zm_Rs, zm_As, zm_Os, zm_In0, zm_Rn0])).mpr ⟨g1, ?_⟩
  refine (zq_iconst (v := 1) dX6_holds_4 (by decide)).mpr ?_
  refine (zq_iload_n dX6_holds_5 rfl).mpr ?_
  refine (zq_ishl dX6_holds_6).mpr ?_
  refine (zq_iand dX6_holds_7).mpr ?_
  refine (zq_if_eq (t := 15) dX6_holds_8 rfl).mpr ⟨fun c => ?_, fun c => ?_⟩
  · replace h := h.1 c
    refine (zq_iconst (v := 0) dX6_holds_15 (by decide)).mpr ?_
    exact (zq_iret dX6_holds_16 rfl).mpr ⟨Or.inl rfl, h⟩
  · replace h := h.2 c
    refine (zq_iconst (v := 1) dX6_holds_11 (by decide)).mpr ?_
    refine (zq_goto (t := 16) dX6_holds_12 rfl).mpr ?_
    exact (zq_iret dX6_holds_16 rfl).mpr ⟨Or.inr rfl, h⟩
theorem bX6_release_0 {a0 : Nat} {a1 : Int} (h : (mC m a0 = 7) ∧ Q (.inl none) (sI m 396 a0 (bAnd (mI m 396 a0) (bXor (bShl 1 a1) (-1))))) : zC xs xl (d + 1) 66 [zR a0, zI a1] m Q := by
  refine zk_66 ?_
  refine (zq_aload_n dX6_release_0 rfl).mpr ?_
  refine (zq_dupR dX6_release_1).mpr ?_
  obtain ⟨g1, h⟩ := h
  refine (zq_getI2 (f := 396) (v := (mI m 396 a0)) dX6_release_2 fl_6_54 (by decide) rfl rfl (by first | rfl | simp only [zm_Is, zm_Rs, zm_As, zm_Os, zm_In0, zm_Rn0])).mpr ⟨g1, ?_⟩
  refine (zq_iconst (v := 1) dX6_release_5 (by decide)).mpr ?_
  refine (zq_iload_n dX6_release_6 rfl).mpr ?_
  refine (zq_ishl dX6_release_7).mpr ?_
  refine (zq_iconst (v := (-1)) dX6_release_8 (by decide)).mpr ?_
  refine (zq_ixor dX6_release_9).mpr ?_
  refine (zq_iand dX6_release_10).mpr ?_
  refine (zq_putI (f := 396) dX6_release_11 fl_6_54 (by decide) rfl rfl rfl).mpr ⟨g1, ?_⟩
  exact (zq_ret dX6_release_14 rfl).mpr h
theorem bX6_receive_0 {a0 : Nat} {a1 : Int} (h : (mC m a0 = 7) ∧ Q (.inl none) (sI (sI (sI (sI m 396 a0 (bOr (mI m 396 a0) (bShl 1 a1))) 397 a0 (-1)) 398 a0 (-1)) 399 a0 0)) : zC xs xl (d + 1) 67 [zR a0, zI a1] m Q := by
  refine zk_67 ?_
  refine (zq_aload_n dX6_receive_0 rfl).mpr ?_
  refine (zq_dupR dX6_receive_1).mpr ?_
  obtain ⟨g1, h⟩ := h
  refine (zq_getI2 (f := 396) (v := (mI m 396 a0)) dX6_receive_2 fl_6_54 (by decide) rfl rfl (by first | rfl | simp only [zm_Is, zm_Rs, zm_As, zm_Os, zm_In0, zm_Rn0])).mpr ⟨g1, ?_⟩
  refine (zq_iconst (v := 1) dX6_receive_5 (by decide)).mpr ?_
  refine (zq_iload_n dX6_receive_6 rfl).mpr ?_
  refine (zq_ishl dX6_receive_7).mpr ?_
  refine (zq_ior dX6_receive_8).mpr ?_
  refine (zq_putI (f := 396) dX6_receive_9 fl_6_54 (by decide) rfl rfl rfl).mpr ⟨g1, ?_⟩
  refine (zq_aload_n dX6_receive_12 rfl).mpr ?_
  refine (zq_iconst (v := (-1)) dX6_receive_13 (by decide)).mpr ?_
  refine (zq_putI (f := 397) dX6_receive_14 fl_6_57 (by decide) rfl rfl rfl).mpr ⟨g1, ?_⟩
  refine (zq_aload_n dX6_receive_17 rfl).mpr ?_
  refine (zq_iconst (v := (-1)) dX6_receive_18 (by decide)).mpr ?_
  refine (zq_putI (f := 398) dX6_receive_19 fl_6_60 (by decide) rfl rfl rfl).mpr ⟨g1, ?_⟩
  refine (zq_aload_n dX6_receive_22 rfl).mpr ?_
  refine (zq_iconst (v := 0) dX6_receive_23 (by decide)).mpr ?_
  refine (zq_putZ (f := 399) dX6_receive_24 fl_6_63 (by decide) rfl rfl rfl).mpr ⟨⟨g1, (by decide)⟩, ?_⟩
  exact (zq_ret dX6_receive_27 rfl).mpr h
theorem bX6_await_0 {a0 : Nat} {a1 : Int} {a2 : Int} {a3 : Int} (h : (mC m a0 = 7) ∧ (a3 = 0 ∨ a3 = 1) ∧ Q (.inl none) (sI (sI (sI m 397 a0 a1) 398 a0 a2) 399 a0 a3)) : zC xs xl (d + 1) 68 [zR a0, zI a1, zI a2, zI a3] m Q := by
  refine zk_68 ?_
  refine (zq_aload_n dX6_await_0 rfl).mpr ?_
  refine (zq_iload_n dX6_await_1 rfl).mpr ?_
  obtain ⟨g1, h⟩ := h
  refine (zq_putI (f := 397) dX6_await_2 fl_6_57 (by decide) rfl rfl rfl).mpr ⟨g1, ?_⟩
  refine (zq_aload_n dX6_await_5 rfl).mpr ?_
  refine (zq_iload_n dX6_await_6 rfl).mpr ?_
  refine (zq_putI (f := 398) dX6_await_7 fl_6_60 (by decide) rfl rfl rfl).mpr ⟨g1, ?_⟩
  refine (zq_aload_n dX6_await_10 rfl).mpr ?_
  refine (zq_iload_n dX6_await_11 rfl).mpr ?_
  obtain ⟨g2, h⟩ := h
  refine (zq_putZ (f := 399) dX6_await_12 fl_6_63 (by decide) rfl rfl rfl).mpr ⟨⟨g1, g2⟩, ?_⟩
  exact (zq_ret dX6_await_15 rfl).mpr h
theorem bX6_isWaiting_0 {a0 : Nat} (h : (mC m a0 = 7) ∧ (((mI m 397 a0) < 0 → Q (.inl (some (zI 0))) m) ∧ (¬ ((mI m 397 a0) < 0) → Q (.inl (some (zI 1))) m))) : zC xs xl (d + 1) 69 [zR a0] m Q := by
  refine zk_69 ?_
  refine (zq_aload_n dX6_isWaiting_0 rfl).mpr ?_
  obtain ⟨g1, h⟩ := h
  refine (zq_getI2 (f := 397) (v := (mI m 397 a0)) dX6_isWaiting_1 fl_6_57 (by decide) rfl rfl (by first | rfl | simp only [zm_Is, zm_Rs, zm_As, zm_Os, zm_In0, zm_Rn0])).mpr ⟨g1, ?_⟩
  refine (zq_if_lt (t := 11) dX6_isWaiting_4 rfl).mpr ⟨fun c => ?_, fun c => ?_⟩
  · replace h := h.1 c
    refine (zq_iconst (v := 0) dX6_isWaiting_11 (by decide)).mpr ?_
    exact (zq_iret dX6_isWaiting_12 rfl).mpr ⟨Or.inl rfl, h⟩
  · replace h := h.2 c
    refine (zq_iconst (v := 1) dX6_isWaiting_7 (by decide)).mpr ?_
    refine (zq_goto (t := 12) dX6_isWaiting_8 rfl).mpr ?_
    exact (zq_iret dX6_isWaiting_12 rfl).mpr ⟨Or.inr rfl, h⟩
theorem bX6_couldEnd_0 {a0 : Nat} {a1 : Int} (h : (mC m a0 = 7) ∧ zC xs xl d 69 [zR a0] m (fun r m1 => ∃ v2 : Int, r = .inl (some (zI v2)) ∧ ((v2 = 0 → Q (.inl (some (zI 1))) m1) ∧ (¬ (v2 = 0) → (mC m1 a0 = 7) ∧ (((bAnd a1 (bShl 1 (mI m1 397 a0))) = 0 → Q (.inl (some (zI 0))) m1) ∧ (¬ ((bAnd a1 (bShl 1 (mI m1 397 a0))) = 0) → Q (.inl (some (zI 1))) m1)))))) : zC xs xl (d + 1) 70 [zR a0, zI a1] m Q := by
  refine zk_70 ?_
  refine (zq_aload_n dX6_couldEnd_0 rfl).mpr ?_
  obtain ⟨g3, h⟩ := h
  refine zq_virtualI (n := 0) dX6_couldEnd_1 mr_6_104 zn_69 rfl rfl rfl (zrcv_R zo_69 (by decide) g3) (Nat.le_of_ble_eq_true rfl) ?_
  refine h.mono (fun r m1 h => ?_)
  obtain ⟨v2, rfl, h⟩ := h
  refine ⟨_, rfl, ?_⟩
  refine (zq_if_eq (t := 18) dX6_couldEnd_4 rfl).mpr ⟨fun c => ?_, fun c => ?_⟩
  · replace h := h.1 c
    refine (zq_iconst (v := 1) dX6_couldEnd_18 (by decide)).mpr ?_
    refine (zq_goto (t := 23) dX6_couldEnd_19 rfl).mpr ?_
    exact (zq_iret dX6_couldEnd_23 rfl).mpr ⟨Or.inr rfl, h⟩
  · replace h := h.2 c
    refine (zq_iload_n dX6_couldEnd_7 rfl).mpr ?_
    refine (zq_iconst (v := 1) dX6_couldEnd_8 (by decide)).mpr ?_
    refine (zq_aload_n dX6_couldEnd_9 rfl).mpr ?_
    obtain ⟨g4, h⟩ := h
    refine (zq_getI2 (f := 397) (v := (mI m1 397 a0)) dX6_couldEnd_10 fl_6_57 (by decide) rfl rfl (by first | rfl | simp only [zm_Is, zm_Rs, zm_As, zm_Os, zm_In0, zm_Rn0])).mpr ⟨g4, ?_⟩
    refine (zq_ishl dX6_couldEnd_13).mpr ?_
    refine (zq_iand dX6_couldEnd_14).mpr ?_
    refine (zq_if_eq (t := 22) dX6_couldEnd_15 rfl).mpr ⟨fun c => ?_, fun c => ?_⟩
    · replace h := h.1 c
      refine (zq_iconst (v := 0) dX6_couldEnd_22 (by decide)).mpr ?_
      exact (zq_iret dX6_couldEnd_23 rfl).mpr ⟨Or.inl rfl, h⟩
    · replace h := h.2 c
      refine (zq_iconst (v := 1) dX6_couldEnd_18 (by decide)).mpr ?_
      refine (zq_goto (t := 23) dX6_couldEnd_19 rfl).mpr ?_
      exact (zq_iret dX6_couldEnd_23 rfl).mpr ⟨Or.inr rfl, h⟩
theorem bX6_heldSorts_0 {a0 : Nat} (h : (mC m a0 = 7) ∧ Q (.inl (some (zI (mI m 396 a0)))) m) : zC xs xl (d + 1) 71 [zR a0] m Q := by
  refine zk_71 ?_
  refine (zq_aload_n dX6_heldSorts_0 rfl).mpr ?_
  obtain ⟨g1, h⟩ := h
  refine (zq_getI2 (f := 396) (v := (mI m 396 a0)) dX6_heldSorts_1 fl_6_54 (by decide) rfl rfl (by first | rfl | simp only [zm_Is, zm_Rs, zm_As, zm_Os, zm_In0, zm_Rn0])).mpr ⟨g1, ?_⟩
  exact (zq_iret dX6_heldSorts_4 rfl).mpr ⟨trivial, h⟩
theorem bX6_tell_0 {a0 : Nat} {a1 : Int} (h : ((a1 = 0 → zW xs xl d cX6_tell 6 (some .int) false [] 72 [zR a0, zI a1] [] m Q) ∧ (a1 ≠ 0 → ((a1 = 1 → zW xs xl d cX6_tell 6 (some .int) false [] 85 [zR a0, zI a1] [] m Q) ∧ (a1 ≠ 1 → ((a1 = 2 → zW xs xl d cX6_tell 6 (some .int) false [] 90 [zR a0, zI a1] [] m Q) ∧ (a1 ≠ 2 → ((a1 = 3 → zW xs xl d cX6_tell 6 (some .int) false [] 95 [zR a0, zI a1] [] m Q) ∧ (a1 ≠ 3 → ((a1 = 4 → zW xs xl d cX6_tell 6 (some .int) false [] 100 [zR a0, zI a1] [] m Q) ∧ (a1 ≠ 4 → ((a1 = 5 → zW xs xl d cX6_tell 6 (some .int) false [] 105 [zR a0, zI a1] [] m Q) ∧ (a1 ≠ 5 → ((a1 = 6 → zW xs xl d cX6_tell 6 (some .int) false [] 121 [zR a0, zI a1] [] m Q) ∧ (a1 ≠ 6 → ((a1 = 7 → zW xs xl d cX6_tell 6 (some .int) false [] 129 [zR a0, zI a1] [] m Q) ∧ (a1 ≠ 7 → ((a1 = 8 → zW xs xl d cX6_tell 6 (some .int) false [] 137 [zR a0, zI a1] [] m Q) ∧ (a1 ≠ 8 → ((a1 = 9 → zW xs xl d cX6_tell 6 (some .int) false [] 145 [zR a0, zI a1] [] m Q) ∧ (a1 ≠ 9 → ((a1 = 10 → zW xs xl d cX6_tell 6 (some .int) false [] 150 [zR a0, zI a1] [] m Q) ∧ (a1 ≠ 10 → ((a1 = 11 → zW xs xl d cX6_tell 6 (some .int) false [] 155 [zR a0, zI a1] [] m Q) ∧ (a1 ≠ 11 → ((a1 = 12 → zW xs xl d cX6_tell 6 (some .int) false [] 168 [zR a0, zI a1] [] m Q) ∧ (a1 ≠ 12 → ((a1 = 13 → zW xs xl d cX6_tell 6 (some .int) false [] 173 [zR a0, zI a1] [] m Q) ∧ (a1 ≠ 13 → zW xs xl d cX6_tell 6 (some .int) false [] 178 [zR a0, zI a1] [] m Q))))))))))))))))))))))))))))) : zC xs xl (d + 1) 72 [zR a0, zI a1] m Q := by
  refine zk_72 ?_
  refine (zq_iload_n dX6_tell_0 rfl).mpr ?_
  refine (zq_tab (td := 178) (r := [72, 85, 90, 95, 100, 105, 121, 129, 137, 145, 150, 155, 168, 173]) dX6_tell_1 rfl rfl rfl).mpr ?_
  refine ⟨fun c => ?_, fun c => ?_⟩
  · replace h := h.1 c
    exact h
  · replace h := h.2 c
    refine ⟨fun c => ?_, fun c => ?_⟩
    · replace h := h.1 c
      exact h
    · replace h := h.2 c
      refine ⟨fun c => ?_, fun c => ?_⟩
      · replace h := h.1 c
        exact h
      · replace h := h.2 c
        refine ⟨fun c => ?_, fun c => ?_⟩
        · replace h := h.1 c
          exact h
        · replace h := h.2 c
          refine ⟨fun c => ?_, fun c => ?_⟩
          · replace h := h.1 c
            exact h
          · replace h := h.2 c
            refine ⟨fun c => ?_, fun c => ?_⟩
            · replace h := h.1 c
              exact h
            · replace h := h.2 c
              refine ⟨fun c => ?_, fun c => ?_⟩
              · replace h := h.1 c
                exact h
              · replace h := h.2 c
                refine ⟨fun c => ?_, fun c => ?_⟩
                · replace h := h.1 c
                  exact h
                · replace h := h.2 c
                  refine ⟨fun c => ?_, fun c => ?_⟩
                  · replace h := h.1 c
                    exact h
                  · replace h := h.2 c
                    refine ⟨fun c => ?_, fun c => ?_⟩
                    · replace h := h.1 c
                      exact h
                    · replace h := h.2 c
                      refine ⟨fun c => ?_, fun c => ?_⟩
                      · replace h := h.1 c
                        exact h
                      · replace h := h.2 c
                        refine ⟨fun c => ?_, fun c => ?_⟩
                        · replace h := h.1 c
                          exact h
                        · replace h := h.2 c
                          refine ⟨fun c => ?_, fun c => ?_⟩
                          · replace h := h.1 c
                            exact h
                          · replace h := h.2 c
                            refine ⟨fun c => ?_, fun c => ?_⟩
                            · replace h := h.1 c
                              exact h
                            · replace h := h.2 c
                              exact h
theorem bX6_tell_72 {a0 : Nat} {a1 : Int} (h : (mC m a0 = 7) ∧ (((mI m 384 a0) = 0 → Q (.inl (some (zI 0))) m) ∧ (¬ ((mI m 384 a0) = 0) → Q (.inl (some (zI 1))) m))) : zW xs xl d cX6_tell 6 (some .int) false [] 72 [zR a0, zI a1] [] m Q := by
  refine (zq_aload_n dX6_tell_72 rfl).mpr ?_
  obtain ⟨g1, h⟩ := h
  refine (zq_getI2 (f := 384) (v := (mI m 384 a0)) dX6_tell_73 fl_6_9 (by decide) rfl rfl (by first | rfl | simp only [zm_Is, zm_Rs, zm_As, zm_Os, zm_In0, zm_Rn0])).mpr ⟨g1, ?_⟩
  refine (zq_if_eq (t := 83) dX6_tell_76 rfl).mpr ⟨fun c => ?_, fun c => ?_⟩
  · replace h := h.1 c
    refine (zq_iconst (v := 0) dX6_tell_83 (by decide)).mpr ?_
    exact (zq_iret dX6_tell_84 rfl).mpr ⟨trivial, h⟩
  · replace h := h.2 c
    refine (zq_iconst (v := 1) dX6_tell_79 (by decide)).mpr ?_
    refine (zq_goto (t := 84) dX6_tell_80 rfl).mpr ?_
    exact (zq_iret dX6_tell_84 rfl).mpr ⟨trivial, h⟩
theorem bX6_tell_85 {a0 : Nat} {a1 : Int} (h : (mC m a0 = 7) ∧ Q (.inl (some (zI (mI m 386 a0)))) m) : zW xs xl d cX6_tell 6 (some .int) false [] 85 [zR a0, zI a1] [] m Q := by
  refine (zq_aload_n dX6_tell_85 rfl).mpr ?_
  obtain ⟨g1, h⟩ := h
  refine (zq_getI2 (f := 386) (v := (mI m 386 a0)) dX6_tell_86 fl_6_19 (by decide) rfl rfl (by first | rfl | simp only [zm_Is, zm_Rs, zm_As, zm_Os, zm_In0, zm_Rn0])).mpr ⟨g1, ?_⟩
  exact (zq_iret dX6_tell_89 rfl).mpr ⟨trivial, h⟩
theorem bX6_tell_90 {a0 : Nat} {a1 : Int} (h : (mC m a0 = 7) ∧ Q (.inl (some (zI (mI m 389 a0)))) m) : zW xs xl d cX6_tell 6 (some .int) false [] 90 [zR a0, zI a1] [] m Q := by
  refine (zq_aload_n dX6_tell_90 rfl).mpr ?_
  obtain ⟨g1, h⟩ := h
  refine (zq_getI2 (f := 389) (v := (mI m 389 a0)) dX6_tell_91 fl_6_29 (by decide) rfl rfl (by first | rfl | simp only [zm_Is, zm_Rs, zm_As, zm_Os, zm_In0, zm_Rn0])).mpr ⟨g1, ?_⟩
  exact (zq_iret dX6_tell_94 rfl).mpr ⟨trivial, h⟩
theorem bX6_tell_95 {a0 : Nat} {a1 : Int} (h : (mC m a0 = 7) ∧ Q (.inl (some (zI (mI m 392 a0)))) m) : zW xs xl d cX6_tell 6 (some .int) false [] 95 [zR a0, zI a1] [] m Q := by
  refine (zq_aload_n dX6_tell_95 rfl).mpr ?_
  obtain ⟨g1, h⟩ := h
  refine (zq_getI2 (f := 392) (v := (mI m 392 a0)) dX6_tell_96 fl_6_38 (by decide) rfl rfl (by first | rfl | simp only [zm_Is, zm_Rs, zm_As, zm_Os, zm_In0, zm_Rn0])).mpr ⟨g1, ?_⟩
  exact (zq_iret dX6_tell_99 rfl).mpr ⟨trivial, h⟩
theorem bX6_tell_100 {a0 : Nat} {a1 : Int} (h : (mC m a0 = 7) ∧ Q (.inl (some (zI (mI m 393 a0)))) m) : zW xs xl d cX6_tell 6 (some .int) false [] 100 [zR a0, zI a1] [] m Q := by
  refine (zq_aload_n dX6_tell_100 rfl).mpr ?_
  obtain ⟨g1, h⟩ := h
  refine (zq_getI2 (f := 393) (v := (mI m 393 a0)) dX6_tell_101 fl_6_41 (by decide) rfl rfl (by first | rfl | simp only [zm_Is, zm_Rs, zm_As, zm_Os, zm_In0, zm_Rn0])).mpr ⟨g1, ?_⟩
  exact (zq_iret dX6_tell_104 rfl).mpr ⟨trivial, h⟩
theorem bX6_tell_105 {a0 : Nat} {a1 : Int} (h : (mC m a0 = 7) ∧ (mC m (mR m 395 a0) = 3) ∧ (((mI m 128 (mR m 395 a0)) = 0 → Q (.inl (some (zI 0))) m) ∧ (¬ ((mI m 128 (mR m 395 a0)) = 0) → Q (.inl (some (zI 1))) m))) : zW xs xl d cX6_tell 6 (some .int) false [] 105 [zR a0, zI a1] [] m Q := by
  refine (zq_aload_n dX6_tell_105 rfl).mpr ?_
  obtain ⟨g1, h⟩ := h
  refine (zq_getR2 (f := 395) (v := (mR m 395 a0)) dX6_tell_106 fl_6_50 (by decide) rfl rfl (by first | rfl | simp only [zm_Is, zm_Rs, zm_As, zm_Os, zm_In0, zm_Rn0])).mpr ⟨g1, ?_⟩
  obtain ⟨g2, h⟩ := h
  refine (zq_getI2 (f := 128) (v := (mI m 128 (mR m 395 a0))) dX6_tell_109 fl_6_107 (by decide) rfl rfl (by first | rfl | simp only [zm_Is, zm_Rs, zm_As, zm_Os, zm_In0, zm_Rn0])).mpr ⟨g2, ?_⟩
  refine (zq_if_eq (t := 119) dX6_tell_112 rfl).mpr ⟨fun c => ?_, fun c => ?_⟩
  · replace h := h.1 c
    refine (zq_iconst (v := 0) dX6_tell_119 (by decide)).mpr ?_
    exact (zq_iret dX6_tell_120 rfl).mpr ⟨trivial, h⟩
  · replace h := h.2 c
    refine (zq_iconst (v := 1) dX6_tell_115 (by decide)).mpr ?_
    refine (zq_goto (t := 120) dX6_tell_116 rfl).mpr ?_
    exact (zq_iret dX6_tell_120 rfl).mpr ⟨trivial, h⟩
theorem bX6_tell_121 {a0 : Nat} {a1 : Int} (h : (mC m a0 = 7) ∧ (mC m (mR m 395 a0) = 3) ∧ Q (.inl (some (zI (mI m 130 (mR m 395 a0))))) m) : zW xs xl d cX6_tell 6 (some .int) false [] 121 [zR a0, zI a1] [] m Q := by
  refine (zq_aload_n dX6_tell_121 rfl).mpr ?_
  obtain ⟨g1, h⟩ := h
  refine (zq_getR2 (f := 395) (v := (mR m 395 a0)) dX6_tell_122 fl_6_50 (by decide) rfl rfl (by first | rfl | simp only [zm_Is, zm_Rs, zm_As, zm_Os, zm_In0, zm_Rn0])).mpr ⟨g1, ?_⟩
  obtain ⟨g2, h⟩ := h
  refine (zq_getI2 (f := 130) (v := (mI m 130 (mR m 395 a0))) dX6_tell_125 fl_6_110 (by decide) rfl rfl (by first | rfl | simp only [zm_Is, zm_Rs, zm_As, zm_Os, zm_In0, zm_Rn0])).mpr ⟨g2, ?_⟩
  exact (zq_iret dX6_tell_128 rfl).mpr ⟨trivial, h⟩
theorem bX6_tell_129 {a0 : Nat} {a1 : Int} (h : (mC m a0 = 7) ∧ (mC m (mR m 395 a0) = 3) ∧ Q (.inl (some (zI (mI m 131 (mR m 395 a0))))) m) : zW xs xl d cX6_tell 6 (some .int) false [] 129 [zR a0, zI a1] [] m Q := by
  refine (zq_aload_n dX6_tell_129 rfl).mpr ?_
  obtain ⟨g1, h⟩ := h
  refine (zq_getR2 (f := 395) (v := (mR m 395 a0)) dX6_tell_130 fl_6_50 (by decide) rfl rfl (by first | rfl | simp only [zm_Is, zm_Rs, zm_As, zm_Os, zm_In0, zm_Rn0])).mpr ⟨g1, ?_⟩
  obtain ⟨g2, h⟩ := h
  refine (zq_getI2 (f := 131) (v := (mI m 131 (mR m 395 a0))) dX6_tell_133 fl_6_113 (by decide) rfl rfl (by first | rfl | simp only [zm_Is, zm_Rs, zm_As, zm_Os, zm_In0, zm_Rn0])).mpr ⟨g2, ?_⟩
  exact (zq_iret dX6_tell_136 rfl).mpr ⟨trivial, h⟩
theorem bX6_tell_137 {a0 : Nat} {a1 : Int} (h : (mC m a0 = 7) ∧ (mC m (mR m 395 a0) = 3) ∧ Q (.inl (some (zI (mI m 132 (mR m 395 a0))))) m) : zW xs xl d cX6_tell 6 (some .int) false [] 137 [zR a0, zI a1] [] m Q := by
  refine (zq_aload_n dX6_tell_137 rfl).mpr ?_
  obtain ⟨g1, h⟩ := h
  refine (zq_getR2 (f := 395) (v := (mR m 395 a0)) dX6_tell_138 fl_6_50 (by decide) rfl rfl (by first | rfl | simp only [zm_Is, zm_Rs, zm_As, zm_Os, zm_In0, zm_Rn0])).mpr ⟨g1, ?_⟩
  obtain ⟨g2, h⟩ := h
  refine (zq_getI2 (f := 132) (v := (mI m 132 (mR m 395 a0))) dX6_tell_141 fl_6_116 (by decide) rfl rfl (by first | rfl | simp only [zm_Is, zm_Rs, zm_As, zm_Os, zm_In0, zm_Rn0])).mpr ⟨g2, ?_⟩
  exact (zq_iret dX6_tell_144 rfl).mpr ⟨trivial, h⟩
theorem bX6_tell_145 {a0 : Nat} {a1 : Int} (h : (mC m a0 = 7) ∧ Q (.inl (some (zI (mI m 397 a0)))) m) : zW xs xl d cX6_tell 6 (some .int) false [] 145 [zR a0, zI a1] [] m Q := by
  refine (zq_aload_n dX6_tell_145 rfl).mpr ?_
  obtain ⟨g1, h⟩ := h
  refine (zq_getI2 (f := 397) (v := (mI m 397 a0)) dX6_tell_146 fl_6_57 (by decide) rfl rfl (by first | rfl | simp only [zm_Is, zm_Rs, zm_As, zm_Os, zm_In0, zm_Rn0])).mpr ⟨g1, ?_⟩
  exact (zq_iret dX6_tell_149 rfl).mpr ⟨trivial, h⟩
theorem bX6_tell_150 {a0 : Nat} {a1 : Int} (h : (mC m a0 = 7) ∧ Q (.inl (some (zI (mI m 398 a0)))) m) : zW xs xl d cX6_tell 6 (some .int) false [] 150 [zR a0, zI a1] [] m Q := by
  refine (zq_aload_n dX6_tell_150 rfl).mpr ?_
  obtain ⟨g1, h⟩ := h
  refine (zq_getI2 (f := 398) (v := (mI m 398 a0)) dX6_tell_151 fl_6_60 (by decide) rfl rfl (by first | rfl | simp only [zm_Is, zm_Rs, zm_As, zm_Os, zm_In0, zm_Rn0])).mpr ⟨g1, ?_⟩
  exact (zq_iret dX6_tell_154 rfl).mpr ⟨trivial, h⟩
theorem bX6_tell_155 {a0 : Nat} {a1 : Int} (h : (mC m a0 = 7) ∧ (((mI m 399 a0) = 0 → Q (.inl (some (zI 0))) m) ∧ (¬ ((mI m 399 a0) = 0) → Q (.inl (some (zI 1))) m))) : zW xs xl d cX6_tell 6 (some .int) false [] 155 [zR a0, zI a1] [] m Q := by
  refine (zq_aload_n dX6_tell_155 rfl).mpr ?_
  obtain ⟨g1, h⟩ := h
  refine (zq_getI2 (f := 399) (v := (mI m 399 a0)) dX6_tell_156 fl_6_63 (by decide) rfl rfl (by first | rfl | simp only [zm_Is, zm_Rs, zm_As, zm_Os, zm_In0, zm_Rn0])).mpr ⟨g1, ?_⟩
  refine (zq_if_eq (t := 166) dX6_tell_159 rfl).mpr ⟨fun c => ?_, fun c => ?_⟩
  · replace h := h.1 c
    refine (zq_iconst (v := 0) dX6_tell_166 (by decide)).mpr ?_
    exact (zq_iret dX6_tell_167 rfl).mpr ⟨trivial, h⟩
  · replace h := h.2 c
    refine (zq_iconst (v := 1) dX6_tell_162 (by decide)).mpr ?_
    refine (zq_goto (t := 167) dX6_tell_163 rfl).mpr ?_
    exact (zq_iret dX6_tell_167 rfl).mpr ⟨trivial, h⟩
theorem bX6_tell_168 {a0 : Nat} {a1 : Int} (h : (mC m a0 = 7) ∧ Q (.inl (some (zI (mI m 396 a0)))) m) : zW xs xl d cX6_tell 6 (some .int) false [] 168 [zR a0, zI a1] [] m Q := by
  refine (zq_aload_n dX6_tell_168 rfl).mpr ?_
  obtain ⟨g1, h⟩ := h
  refine (zq_getI2 (f := 396) (v := (mI m 396 a0)) dX6_tell_169 fl_6_54 (by decide) rfl rfl (by first | rfl | simp only [zm_Is, zm_Rs, zm_As, zm_Os, zm_In0, zm_Rn0])).mpr ⟨g1, ?_⟩
  exact (zq_iret dX6_tell_172 rfl).mpr ⟨trivial, h⟩
theorem bX6_tell_173 {a0 : Nat} {a1 : Int} (h : (mC m a0 = 7) ∧ Q (.inl (some (zI (mI m 394 a0)))) m) : zW xs xl d cX6_tell 6 (some .int) false [] 173 [zR a0, zI a1] [] m Q := by
  refine (zq_aload_n dX6_tell_173 rfl).mpr ?_
  obtain ⟨g1, h⟩ := h
  refine (zq_getI2 (f := 394) (v := (mI m 394 a0)) dX6_tell_174 fl_6_44 (by decide) rfl rfl (by first | rfl | simp only [zm_Is, zm_Rs, zm_As, zm_Os, zm_In0, zm_Rn0])).mpr ⟨g1, ?_⟩
  exact (zq_iret dX6_tell_177 rfl).mpr ⟨trivial, h⟩
theorem bX6_tell_178 {a0 : Nat} {a1 : Int} (h : (mC m a0 = 7) ∧ Q (.inl (some (zI (mI m 388 a0)))) m) : zW xs xl d cX6_tell 6 (some .int) false [] 178 [zR a0, zI a1] [] m Q := by
  refine (zq_aload_n dX6_tell_178 rfl).mpr ?_
  obtain ⟨g1, h⟩ := h
  refine (zq_getI2 (f := 388) (v := (mI m 388 a0)) dX6_tell_179 fl_6_26 (by decide) rfl rfl (by first | rfl | simp only [zm_Is, zm_Rs, zm_As, zm_Os, zm_In0, zm_Rn0])).mpr ⟨g1, ?_⟩
  exact (zq_iret dX6_tell_182 rfl).mpr ⟨trivial, h⟩
theorem bX6_copyFrom_0 {a0 : Nat} {a1 : Nat} (h : (mC m a1 = 7) ∧ (mC m a0 = 7) ∧ zC xs xl d 58 [zR a0, zR (mR m 385 a1), zI (mI m 386 a1), zI (mI m 387 a1), zI (mI m 388 a1)] m (fun r m2 => r = .inl none ∧ (mC m2 a1 = 7) ∧ (mC m2 a0 = 7) ∧ ((mI m2 384 a1) = 0 ∨ (mI m2 384 a1) = 1) ∧ (mC m2 (mR m2 395 a0) = 3) ∧ zC xs xl d 30 [zR (mR m2 395 a0), zR (mR m2 395 a1)] (sI (sI (sI (sI (sI (sI (sI m2 384 a0 (mI m2 384 a1)) 389 a0 (mI m2 389 a1)) 390 a0 (mI m2 390 a1)) 391 a0 (mI m2 391 a1)) 392 a0 (mI m2 392 a1)) 393 a0 (mI m2 393 a1)) 394 a0 (mI m2 394 a1)) (fun r m8 => r = .inl none ∧ (mC m8 a1 = 7) ∧ (mC m8 a0 = 7) ∧ zC xs xl d 68 [zR a0, zI (mI m8 397 a1), zI (mI m8 398 a1), zI (mI m8 399 a1)] (sI m8 396 a0 (mI m8 396 a1)) (fun r m13 => r = .inl none ∧ Q (.inl none) m13)))) : zC xs xl (d + 1) 73 [zR a0, zR a1] m Q := by
  refine zk_73 ?_
  refine (zq_aload_n dX6_copyFrom_0 rfl).mpr ?_
  refine (zq_aload_n dX6_copyFrom_1 rfl).mpr ?_
  obtain ⟨g1, h⟩ := h
  refine (zq_getR2 (f := 385) (v := (mR m 385 a1)) dX6_copyFrom_2 fl_6_15 (by decide) rfl rfl (by first | rfl | simp only [zm_Is, zm_Rs, zm_As, zm_Os, zm_In0, zm_Rn0])).mpr ⟨g1, ?_⟩
  refine (zq_aload_n dX6_copyFrom_5 rfl).mpr ?_
  refine (zq_getI2 (f := 386) (v := (mI m 386 a1)) dX6_copyFrom_6 fl_6_19 (by decide) rfl rfl (by first | rfl | simp only [zm_Is, zm_Rs, zm_As, zm_Os, zm_In0, zm_Rn0])).mpr ⟨g1, ?_⟩
  refine (zq_aload_n dX6_copyFrom_9 rfl).mpr ?_
  refine (zq_getI2 (f := 387) (v := (mI m 387 a1)) dX6_copyFrom_10 fl_6_23 (by decide) rfl rfl (by first | rfl | simp only [zm_Is, zm_Rs, zm_As, zm_Os, zm_In0, zm_Rn0])).mpr ⟨g1, ?_⟩
  refine (zq_aload_n dX6_copyFrom_13 rfl).mpr ?_
  refine (zq_getI2 (f := 388) (v := (mI m 388 a1)) dX6_copyFrom_14 fl_6_26 (by decide) rfl rfl (by first | rfl | simp only [zm_Is, zm_Rs, zm_As, zm_Os, zm_In0, zm_Rn0])).mpr ⟨g1, ?_⟩
  obtain ⟨g4, h⟩ := h
  refine zq_virtualV (n := 4) dX6_copyFrom_17 mr_6_119 zn_58 rfl rfl rfl (zrcv_R zo_58 (by decide) g4) (Nat.le_of_ble_eq_true rfl) ?_
  refine h.mono (fun r m2 h => ?_)
  obtain ⟨rfl, h⟩ := h
  refine ⟨rfl, ?_⟩
  refine (zq_aload_n dX6_copyFrom_20 rfl).mpr ?_
  refine (zq_aload_n dX6_copyFrom_21 rfl).mpr ?_
  obtain ⟨g5, h⟩ := h
  refine (zq_getI2 (f := 384) (v := (mI m2 384 a1)) dX6_copyFrom_22 fl_6_9 (by decide) rfl rfl (by first | rfl | simp only [zm_Is, zm_Rs, zm_As, zm_Os, zm_In0, zm_Rn0])).mpr ⟨g5, ?_⟩
  obtain ⟨g6, h⟩ := h
  obtain ⟨g7, h⟩ := h
  refine (zq_putZ (f := 384) dX6_copyFrom_25 fl_6_9 (by decide) rfl rfl rfl).mpr ⟨⟨g6, g7⟩, ?_⟩
  refine (zq_aload_n dX6_copyFrom_28 rfl).mpr ?_
  refine (zq_aload_n dX6_copyFrom_29 rfl).mpr ?_
  refine (zq_getI2 (f := 389) (v := (mI m2 389 a1)) dX6_copyFrom_30 fl_6_29 (by decide) rfl rfl (by first | rfl | simp only [zm_Is, zm_Rs, zm_As, zm_Os, zm_In0, zm_Rn0])).mpr ⟨g5, ?_⟩
  refine (zq_putI (f := 389) dX6_copyFrom_33 fl_6_29 (by decide) rfl rfl rfl).mpr ⟨g6, ?_⟩
  refine (zq_aload_n dX6_copyFrom_36 rfl).mpr ?_
  refine (zq_aload_n dX6_copyFrom_37 rfl).mpr ?_
  refine (zq_getI2 (f := 390) (v := (mI m2 390 a1)) dX6_copyFrom_38 fl_6_32 (by decide) rfl rfl (by first | rfl | simp only [zm_Is, zm_Rs, zm_As, zm_Os, zm_In0, zm_Rn0])).mpr ⟨g5, ?_⟩
  refine (zq_putI (f := 390) dX6_copyFrom_41 fl_6_32 (by decide) rfl rfl rfl).mpr ⟨g6, ?_⟩
  refine (zq_aload_n dX6_copyFrom_44 rfl).mpr ?_
  refine (zq_aload_n dX6_copyFrom_45 rfl).mpr ?_
  refine (zq_getI2 (f := 391) (v := (mI m2 391 a1)) dX6_copyFrom_46 fl_6_35 (by decide) rfl rfl (by first | rfl | simp only [zm_Is, zm_Rs, zm_As, zm_Os, zm_In0, zm_Rn0])).mpr ⟨g5, ?_⟩
  refine (zq_putI (f := 391) dX6_copyFrom_49 fl_6_35 (by decide) rfl rfl rfl).mpr ⟨g6, ?_⟩
  refine (zq_aload_n dX6_copyFrom_52 rfl).mpr ?_
  refine (zq_aload_n dX6_copyFrom_53 rfl).mpr ?_
  refine (zq_getI2 (f := 392) (v := (mI m2 392 a1)) dX6_copyFrom_54 fl_6_38 (by decide) rfl rfl (by first | rfl | simp only [zm_Is, zm_Rs, zm_As, zm_Os, zm_In0, zm_Rn0])).mpr ⟨g5, ?_⟩
  refine (zq_putI (f := 392) dX6_copyFrom_57 fl_6_38 (by decide) rfl rfl rfl).mpr ⟨g6, ?_⟩
  refine (zq_aload_n dX6_copyFrom_60 rfl).mpr ?_
  refine (zq_aload_n dX6_copyFrom_61 rfl).mpr ?_
  refine (zq_getI2 (f := 393) (v := (mI m2 393 a1)) dX6_copyFrom_62 fl_6_41 (by decide) rfl rfl (by first | rfl | simp only [zm_Is, zm_Rs, zm_As, zm_Os, zm_In0, zm_Rn0])).mpr ⟨g5, ?_⟩
  refine (zq_putI (f := 393) dX6_copyFrom_65 fl_6_41 (by decide) rfl rfl rfl).mpr ⟨g6, ?_⟩
  refine (zq_aload_n dX6_copyFrom_68 rfl).mpr ?_
  refine (zq_aload_n dX6_copyFrom_69 rfl).mpr ?_
  refine (zq_getI2 (f := 394) (v := (mI m2 394 a1)) dX6_copyFrom_70 fl_6_44 (by decide) rfl rfl (by first | rfl | simp only [zm_Is, zm_Rs, zm_As, zm_Os, zm_In0, zm_Rn0])).mpr ⟨g5, ?_⟩
  refine (zq_putI (f := 394) dX6_copyFrom_73 fl_6_44 (by decide) rfl rfl rfl).mpr ⟨g6, ?_⟩
  refine (zq_aload_n dX6_copyFrom_76 rfl).mpr ?_
  refine (zq_getR2 (f := 395) (v := (mR m2 395 a0)) dX6_copyFrom_77 fl_6_50 (by decide) rfl rfl (by first | rfl | simp only [zm_Is, zm_Rs, zm_As, zm_Os, zm_In0, zm_Rn0])).mpr ⟨g6, ?_⟩
  refine (zq_aload_n dX6_copyFrom_80 rfl).mpr ?_
  refine (zq_getR2 (f := 395) (v := (mR m2 395 a1)) dX6_copyFrom_81 fl_6_50 (by decide) rfl rfl (by first | rfl | simp only [zm_Is, zm_Rs, zm_As, zm_Os, zm_In0, zm_Rn0])).mpr ⟨g5, ?_⟩
  obtain ⟨g10, h⟩ := h
  refine zq_virtualV (n := 1) dX6_copyFrom_84 mr_6_123 zn_30 rfl rfl rfl (zrcv_R zo_30 (by decide) g10) (Nat.le_of_ble_eq_true rfl) ?_
  refine h.mono (fun r m8 h => ?_)
  obtain ⟨rfl, h⟩ := h
  refine ⟨rfl, ?_⟩
  refine (zq_aload_n dX6_copyFrom_87 rfl).mpr ?_
  refine (zq_aload_n dX6_copyFrom_88 rfl).mpr ?_
  obtain ⟨g11, h⟩ := h
  refine (zq_getI2 (f := 396) (v := (mI m8 396 a1)) dX6_copyFrom_89 fl_6_54 (by decide) rfl rfl (by first | rfl | simp only [zm_Is, zm_Rs, zm_As, zm_Os, zm_In0, zm_Rn0])).mpr ⟨g11, ?_⟩
  obtain ⟨g12, h⟩ := h
  refine (zq_putI (f := 396) dX6_copyFrom_92 fl_6_54 (by decide) rfl rfl rfl).mpr ⟨g12, ?_⟩
  refine (zq_aload_n dX6_copyFrom_95 rfl).mpr ?_
  refine (zq_aload_n dX6_copyFrom_96 rfl).mpr ?_
  refine (zq_getI2 (f := 397) (v := (mI m8 397 a1)) dX6_copyFrom_97 fl_6_57 (by decide) rfl rfl (by first | rfl | simp only [zm_Is, zm_Rs, zm_As, zm_Os, zm_In0, zm_Rn0])).mpr ⟨g11, ?_⟩
  refine (zq_aload_n dX6_copyFrom_100 rfl).mpr ?_
  refine (zq_getI2 (f := 398) (v := (mI m8 398 a1)) dX6_copyFrom_101 fl_6_60 (by decide) rfl rfl (by first | rfl | simp only [zm_Is, zm_Rs, zm_As, zm_Os, zm_In0, zm_Rn0])).mpr ⟨g11, ?_⟩
  refine (zq_aload_n dX6_copyFrom_104 rfl).mpr ?_
  refine (zq_getI2 (f := 399) (v := (mI m8 399 a1)) dX6_copyFrom_105 fl_6_63 (by decide) rfl rfl (by first | rfl | simp only [zm_Is, zm_Rs, zm_As, zm_Os, zm_In0, zm_Rn0])).mpr ⟨g11, ?_⟩
  refine zq_virtualV (n := 3) dX6_copyFrom_108 mr_6_127 zn_68 rfl rfl rfl (zrcv_R zo_68 (by decide) g12) (Nat.le_of_ble_eq_true rfl) ?_
  refine h.mono (fun r m13 h => ?_)
  obtain ⟨rfl, h⟩ := h
  refine ⟨rfl, ?_⟩
  exact (zq_ret dX6_copyFrom_111 rfl).mpr h
theorem bX7_init_0 {a0 : Nat} (h : (a0 ≠ 0) ∧ (∀ m2 : zM, m2 = nwA m 34 60 → (mC m2 a0 = 8) ∧ zW xs xl d cX7_init 7 (none) true [] 25 [zR a0, zI 0] [] (sI (sI (sR m2 448 a0 (mz m)) 449 a0 0) 450 a0 0) Q)) : zC xs xl (d + 1) 74 [zR a0] m Q := by
  refine zk_74 ?_
  refine (zq_aload_n dX7_init_0 rfl).mpr ?_
  obtain ⟨g1, h⟩ := h
  refine (zq_oinit dX7_init_1 mr_7_3).mpr ⟨⟨g1, (Nat.le_of_ble_eq_true rfl)⟩, ?_⟩
  refine (zq_aload_n dX7_init_4 rfl).mpr ?_
  refine (zq_bipush (v := 60) dX7_init_5 (by decide)).mpr ?_
  refine zq_anew2 (kd := 34) (i := 60) dX7_init_7 nw_7_9 rfl rfl rfl ⟨by decide, by decide⟩ (fun m2 em2 => ?_)
  replace h := h m2 em2
  obtain ⟨g3, h⟩ := h
  refine (zq_putR (f := 448) dX7_init_10 fl_7_11 (by decide) rfl rfl rfl).mpr ⟨g3, ?_⟩
  refine (zq_aload_n dX7_init_13 rfl).mpr ?_
  refine (zq_iconst (v := 0) dX7_init_14 (by decide)).mpr ?_
  refine (zq_putI (f := 449) dX7_init_15 fl_7_17 (by decide) rfl rfl rfl).mpr ⟨g3, ?_⟩
  refine (zq_aload_n dX7_init_18 rfl).mpr ?_
  refine (zq_iconst (v := 0) dX7_init_19 (by decide)).mpr ?_
  refine (zq_putI (f := 450) dX7_init_20 fl_7_21 (by decide) rfl rfl rfl).mpr ⟨g3, ?_⟩
  refine (zq_iconst (v := 0) dX7_init_23 (by decide)).mpr ?_
  refine (zq_istore_n (l := [zR a0, zI 0]) dX7_init_24 (Nat.le_of_ble_eq_true rfl) rfl).mpr ?_
  exact h
theorem bX7_init_25 {a0 : Nat} {a1 : Int} (h : ((60 ≤ a1 → Q (.inl none) m) ∧ (¬ (60 ≤ a1) → (mC m a0 = 8) ∧ (∀ m2 : zM, m2 = nwO m 4 5 → ((mz m) ≠ 0) ∧ zC xs xl d 35 [zR (mz m)] m2 (fun r m3 => r = .inl none ∧ (0 ≤ a1 ∧ a1 < mN m3 (mR m 448 a0)) ∧ (30 ≤ mC m3 (mR m 448 a0) ∧ mC m3 (mR m 448 a0) < 43) ∧ (mC m3 (mz m) + 29 = mC m3 (mR m 448 a0)) ∧ zW xs xl d cX7_init 7 (none) true [] 25 [zR a0, zI (wr (a1 + 1))] [] (sO m3 (mR m 448 a0) (Int.toNat a1) (mz m)) Q))))) : zW xs xl d cX7_init 7 (none) true [] 25 [zR a0, zI a1] [] m Q := by
  refine (zq_iload_n dX7_init_25 rfl).mpr ?_
  refine (zq_bipush (v := 60) dX7_init_26 (by decide)).mpr ?_
  refine (zq_icmp_ge (t := 50) dX7_init_28 rfl).mpr ⟨fun c => ?_, fun c => ?_⟩
  · replace h := h.1 c
    exact (zq_ret dX7_init_50 rfl).mpr h
  · replace h := h.2 c
    refine (zq_aload_n dX7_init_31 rfl).mpr ?_
    obtain ⟨g1, h⟩ := h
    refine (zq_getR2 (f := 448) (v := (mR m 448 a0)) dX7_init_32 fl_7_11 (by decide) rfl rfl (by first | rfl | simp only [zm_Is, zm_Rs, zm_As, zm_Os, zm_In0, zm_Rn0])).mpr ⟨g1, ?_⟩
    refine (zq_iload_n dX7_init_35 rfl).mpr ?_
    refine zq_new2 dX7_init_36 nw_7_9 rfl (fun m2 em2 => ?_)
    replace h := h m2 em2
    refine (zq_dupR dX7_init_39).mpr ?_
    obtain ⟨g5, h⟩ := h
    refine zq_special2 (n := 0) dX7_init_40 mr_7_24 zn_35 rfl rfl g5 (Nat.le_of_ble_eq_true rfl) ?_
    refine h.mono (fun r m3 h => ?_)
    obtain ⟨rfl, h⟩ := h
    refine ⟨rfl, ?_⟩
    obtain ⟨g6, h⟩ := h
    obtain ⟨g7, h⟩ := h
    obtain ⟨g8, h⟩ := h
    refine (zq_aast dX7_init_43).mpr ⟨⟨g7.1, g7.2, g8, g6⟩, ?_⟩
    refine (zq_iinc (l := [zR a0, zI (wr (a1 + 1))]) dX7_init_44 rfl rfl).mpr ?_
    refine (zq_goto (t := 25) dX7_init_47 rfl).mpr ?_
    exact h
theorem bX7_add_0 {a0 : Nat} {a1 : Int} {a2 : Int} {a3 : Int} (h : (mC m a0 = 8) ∧ (((mI m 449 a0) < 60 → (29 ≤ mC m (mR m 448 a0) ∧ mC m (mR m 448 a0) < 43) ∧ (0 ≤ (mI m 449 a0) ∧ (mI m 449 a0) < mN m (mR m 448 a0)) ∧ (mC m (mO m (mR m 448 a0) (Int.toNat (mI m 449 a0))) = 5) ∧ zC xs xl d 36 [zR (mO m (mR m 448 a0) (Int.toNat (mI m 449 a0))), zI a1, zI a2, zI a3] m (fun r m4 => r = .inl none ∧ (mC m4 a0 = 8) ∧ Q (.inl (some (zI (wr ((wr ((mI m4 449 a0) + 1)) - 1))))) (sI m4 449 a0 (wr ((mI m4 449 a0) + 1))))) ∧ (¬ ((mI m 449 a0) < 60) → Q (.inl (some (zI (-1)))) m))) : zC xs xl (d + 1) 75 [zR a0, zI a1, zI a2, zI a3] m Q := by
  refine zk_75 ?_
  refine (zq_aload_n dX7_add_0 rfl).mpr ?_
  obtain ⟨g1, h⟩ := h
  refine (zq_getI2 (f := 449) (v := (mI m 449 a0)) dX7_add_1 fl_7_17 (by decide) rfl rfl (by first | rfl | simp only [zm_Is, zm_Rs, zm_As, zm_Os, zm_In0, zm_Rn0])).mpr ⟨g1, ?_⟩
  refine (zq_bipush (v := 60) dX7_add_4 (by decide)).mpr ?_
  refine (zq_icmp_lt (t := 11) dX7_add_6 rfl).mpr ⟨fun c => ?_, fun c => ?_⟩
  · replace h := h.1 c
    refine (zq_aload_n dX7_add_11 rfl).mpr ?_
    refine (zq_getR2 (f := 448) (v := (mR m 448 a0)) dX7_add_12 fl_7_11 (by decide) rfl rfl (by first | rfl | simp only [zm_Is, zm_Rs, zm_As, zm_Os, zm_In0, zm_Rn0])).mpr ⟨g1, ?_⟩
    refine (zq_aload_n dX7_add_15 rfl).mpr ?_
    refine (zq_getI2 (f := 449) (v := (mI m 449 a0)) dX7_add_16 fl_7_17 (by decide) rfl rfl (by first | rfl | simp only [zm_Is, zm_Rs, zm_As, zm_Os, zm_In0, zm_Rn0])).mpr ⟨g1, ?_⟩
    obtain ⟨g2, h⟩ := h
    obtain ⟨g3, h⟩ := h
    refine (zq_aald2 (v := (mO m (mR m 448 a0) (Int.toNat (mI m 449 a0)))) dX7_add_19 (by first | rfl | simp only [zm_Is, zm_Rs, zm_As, zm_Os, zm_In0, zm_Rn0])).mpr ⟨⟨g2.1, g2.2, g3⟩, ?_⟩
    refine (zq_iload_n dX7_add_20 rfl).mpr ?_
    refine (zq_iload_n dX7_add_21 rfl).mpr ?_
    refine (zq_iload_n dX7_add_22 rfl).mpr ?_
    obtain ⟨g6, h⟩ := h
    refine zq_virtualV (n := 3) dX7_add_23 mr_7_25 zn_36 rfl rfl rfl (zrcv_R zo_36 (by decide) g6) (Nat.le_of_ble_eq_true rfl) ?_
    refine h.mono (fun r m4 h => ?_)
    obtain ⟨rfl, h⟩ := h
    refine ⟨rfl, ?_⟩
    refine (zq_aload_n dX7_add_26 rfl).mpr ?_
    refine (zq_dupR dX7_add_27).mpr ?_
    obtain ⟨g7, h⟩ := h
    refine (zq_getI2 (f := 449) (v := (mI m4 449 a0)) dX7_add_28 fl_7_17 (by decide) rfl rfl (by first | rfl | simp only [zm_Is, zm_Rs, zm_As, zm_Os, zm_In0, zm_Rn0])).mpr ⟨g7, ?_⟩
    refine (zq_iconst (v := 1) dX7_add_31 (by decide)).mpr ?_
    refine (zq_iadd dX7_add_32).mpr ?_
    refine (zq_putI (f := 449) dX7_add_33 fl_7_17 (by decide) rfl rfl rfl).mpr ⟨g7, ?_⟩
    refine (zq_aload_n dX7_add_36 rfl).mpr ?_
    refine (zq_getI2 (f := 449) (v := (wr ((mI m4 449 a0) + 1))) dX7_add_37 fl_7_17 (by decide) rfl rfl (by first | rfl | simp only [zm_Is, zm_Rs, zm_As, zm_Os, zm_In0, zm_Rn0])).mpr ⟨g7, ?_⟩
    refine (zq_iconst (v := 1) dX7_add_40 (by decide)).mpr ?_
    refine (zq_isub dX7_add_41).mpr ?_
    exact (zq_iret dX7_add_42 rfl).mpr ⟨trivial, h⟩
  · replace h := h.2 c
    refine (zq_iconst (v := (-1)) dX7_add_9 (by decide)).mpr ?_
    exact (zq_iret dX7_add_10 rfl).mpr ⟨trivial, h⟩
theorem bX7_plankFor_0 {a0 : Nat} {a1 : Int} {a2 : Int} (h : zW xs xl d cX7_plankFor 7 (some .int) false [] 5 [zR a0, zI a1, zI a2, zI (-1), zI 0, zU, zU] [] m Q) : zC xs xl (d + 1) 76 [zR a0, zI a1, zI a2] m Q := by
  refine zk_76 ?_
  refine (zq_iconst (v := (-1)) dX7_plankFor_0 (by decide)).mpr ?_
  refine (zq_istore_n (l := [zR a0, zI a1, zI a2, zI (-1), zU, zU, zU]) dX7_plankFor_1 (Nat.le_of_ble_eq_true rfl) rfl).mpr ?_
  refine (zq_iconst (v := 0) dX7_plankFor_2 (by decide)).mpr ?_
  refine (zq_istore (l := [zR a0, zI a1, zI a2, zI (-1), zI 0, zU, zU]) dX7_plankFor_3 (Nat.le_of_ble_eq_true rfl) rfl).mpr ?_
  exact h
theorem bX7_plankFor_5 {a0 : Nat} {a1 : Int} {a2 : Int} {a3 : Int} {a4 : Int} {a5 : zV} {a6 : zV} (h : (mC m a0 = 8) ∧ (((mI m 449 a0) ≤ a4 → Q (.inl (some (zI a3))) m) ∧ (¬ ((mI m 449 a0) ≤ a4) → (29 ≤ mC m (mR m 448 a0) ∧ mC m (mR m 448 a0) < 43) ∧ (0 ≤ a4 ∧ a4 < mN m (mR m 448 a0)) ∧ ((a3 < 0 → zW xs xl d cX7_plankFor 7 (some .int) false [] 44 [zR a0, zI a1, zI a2, zI a3, zI a4, zR (mO m (mR m 448 a0) (Int.toNat a4)), a6] [] m Q) ∧ (¬ (a3 < 0) → (mC m (mO m (mR m 448 a0) (Int.toNat a4)) = 5) ∧ (0 ≤ a3 ∧ a3 < mN m (mR m 448 a0)) ∧ (mC m (mO m (mR m 448 a0) (Int.toNat a3)) = 5) ∧ (((mI m 257 (mO m (mR m 448 a0) (Int.toNat a3))) ≤ (mI m 257 (mO m (mR m 448 a0) (Int.toNat a4))) → (((mI m 256 (mO m (mR m 448 a0) (Int.toNat a4))) ≠ a1 → zW xs xl d cX7_plankFor 7 (some .int) false [] 5 [zR a0, zI a1, zI a2, zI a3, zI (wr (a4 + 1)), zR (mO m (mR m 448 a0) (Int.toNat a4)), zI 0] [] m Q) ∧ (¬ ((mI m 256 (mO m (mR m 448 a0) (Int.toNat a4))) ≠ a1) → zW xs xl d cX7_plankFor 7 (some .int) false [] 5 [zR a0, zI a1, zI a2, zI a3, zI (wr (a4 + 1)), zR (mO m (mR m 448 a0) (Int.toNat a4)), zI 0] [] m Q))) ∧ (¬ ((mI m 257 (mO m (mR m 448 a0) (Int.toNat a3))) ≤ (mI m 257 (mO m (mR m 448 a0) (Int.toNat a4)))) → zW xs xl d cX7_plankFor 7 (some .int) false [] 44 [zR a0, zI a1, zI a2, zI a3, zI a4, zR (mO m (mR m 448 a0) (Int.toNat a4)), a6] [] m Q))))))) : zW xs xl d cX7_plankFor 7 (some .int) false [] 5 [zR a0, zI a1, zI a2, zI a3, zI a4, a5, a6] [] m Q := by
  refine (zq_iload dX7_plankFor_5 rfl).mpr ?_
  refine (zq_aload_n dX7_plankFor_7 rfl).mpr ?_
  obtain ⟨g1, h⟩ := h
  refine (zq_getI2 (f := 449) (v := (mI m 449 a0)) dX7_plankFor_8 fl_7_17 (by decide) rfl rfl (by first | rfl | simp only [zm_Is, zm_Rs, zm_As, zm_Os, zm_In0, zm_Rn0])).mpr ⟨g1, ?_⟩
  refine (zq_icmp_ge (t := 83) dX7_plankFor_11 rfl).mpr ⟨fun c => ?_, fun c => ?_⟩
  · replace h := h.1 c
    refine (zq_iload_n dX7_plankFor_83 rfl).mpr ?_
    exact (zq_iret dX7_plankFor_84 rfl).mpr ⟨trivial, h⟩
  · replace h := h.2 c
    refine (zq_aload_n dX7_plankFor_14 rfl).mpr ?_
    refine (zq_getR2 (f := 448) (v := (mR m 448 a0)) dX7_plankFor_15 fl_7_11 (by decide) rfl rfl (by first | rfl | simp only [zm_Is, zm_Rs, zm_As, zm_Os, zm_In0, zm_Rn0])).mpr ⟨g1, ?_⟩
    refine (zq_iload dX7_plankFor_18 rfl).mpr ?_
    obtain ⟨g2, h⟩ := h
    obtain ⟨g3, h⟩ := h
    refine (zq_aald2 (v := (mO m (mR m 448 a0) (Int.toNat a4))) dX7_plankFor_20 (by first | rfl | simp only [zm_Is, zm_Rs, zm_As, zm_Os, zm_In0, zm_Rn0])).mpr ⟨⟨g2.1, g2.2, g3⟩, ?_⟩
    refine (zq_astore (l := [zR a0, zI a1, zI a2, zI a3, zI a4, zR (mO m (mR m 448 a0) (Int.toNat a4)), a6]) dX7_plankFor_21 (Nat.le_of_ble_eq_true rfl) rfl).mpr ?_
    refine (zq_iload_n dX7_plankFor_23 rfl).mpr ?_
    refine (zq_if_lt (t := 44) dX7_plankFor_24 rfl).mpr ⟨fun c => ?_, fun c => ?_⟩
    · replace h := h.1 c
      exact h
    · replace h := h.2 c
      refine (zq_aload dX7_plankFor_27 rfl).mpr ?_
      obtain ⟨g4, h⟩ := h
      refine (zq_getI2 (f := 257) (v := (mI m 257 (mO m (mR m 448 a0) (Int.toNat a4)))) dX7_plankFor_29 fl_7_29 (by decide) rfl rfl (by first | rfl | simp only [zm_Is, zm_Rs, zm_As, zm_Os, zm_In0, zm_Rn0])).mpr ⟨g4, ?_⟩
      refine (zq_aload_n dX7_plankFor_32 rfl).mpr ?_
      refine (zq_getR2 (f := 448) (v := (mR m 448 a0)) dX7_plankFor_33 fl_7_11 (by decide) rfl rfl (by first | rfl | simp only [zm_Is, zm_Rs, zm_As, zm_Os, zm_In0, zm_Rn0])).mpr ⟨g1, ?_⟩
      refine (zq_iload_n dX7_plankFor_36 rfl).mpr ?_
      obtain ⟨g5, h⟩ := h
      refine (zq_aald2 (v := (mO m (mR m 448 a0) (Int.toNat a3))) dX7_plankFor_37 (by first | rfl | simp only [zm_Is, zm_Rs, zm_As, zm_Os, zm_In0, zm_Rn0])).mpr ⟨⟨g2.1, g2.2, g5⟩, ?_⟩
      obtain ⟨g6, h⟩ := h
      refine (zq_getI2 (f := 257) (v := (mI m 257 (mO m (mR m 448 a0) (Int.toNat a3)))) dX7_plankFor_38 fl_7_29 (by decide) rfl rfl (by first | rfl | simp only [zm_Is, zm_Rs, zm_As, zm_Os, zm_In0, zm_Rn0])).mpr ⟨g6, ?_⟩
      refine (zq_icmp_ge (t := 48) dX7_plankFor_41 rfl).mpr ⟨fun c => ?_, fun c => ?_⟩
      · replace h := h.1 c
        refine (zq_iconst (v := 0) dX7_plankFor_48 (by decide)).mpr ?_
        refine (zq_istore (l := [zR a0, zI a1, zI a2, zI a3, zI a4, zR (mO m (mR m 448 a0) (Int.toNat a4)), zI 0]) dX7_plankFor_49 (Nat.le_of_ble_eq_true rfl) rfl).mpr ?_
        refine (zq_aload dX7_plankFor_51 rfl).mpr ?_
        refine (zq_getI2 (f := 256) (v := (mI m 256 (mO m (mR m 448 a0) (Int.toNat a4)))) dX7_plankFor_53 fl_7_32 (by decide) rfl rfl (by first | rfl | simp only [zm_Is, zm_Rs, zm_As, zm_Os, zm_In0, zm_Rn0])).mpr ⟨g4, ?_⟩
        refine (zq_iload_n dX7_plankFor_56 rfl).mpr ?_
        refine (zq_icmp_ne (t := 77) dX7_plankFor_57 rfl).mpr ⟨fun c => ?_, fun c => ?_⟩
        · replace h := h.1 c
          refine (zq_iinc (l := [zR a0, zI a1, zI a2, zI a3, zI (wr (a4 + 1)), zR (mO m (mR m 448 a0) (Int.toNat a4)), zI 0]) dX7_plankFor_77 rfl rfl).mpr ?_
          refine (zq_goto (t := 5) dX7_plankFor_80 rfl).mpr ?_
          exact h
        · replace h := h.2 c
          refine (zq_iload dX7_plankFor_60 rfl).mpr ?_
          refine (zq_if_eq (t := 77) dX7_plankFor_62 rfl).mpr ⟨fun _ => ?_, fun c => absurd (by decide) c⟩
          refine (zq_iinc (l := [zR a0, zI a1, zI a2, zI a3, zI (wr (a4 + 1)), zR (mO m (mR m 448 a0) (Int.toNat a4)), zI 0]) dX7_plankFor_77 rfl rfl).mpr ?_
          refine (zq_goto (t := 5) dX7_plankFor_80 rfl).mpr ?_
          exact h
      · replace h := h.2 c
        exact h
theorem bX7_plankFor_44 {a0 : Nat} {a1 : Int} {a2 : Int} {a3 : Int} {a4 : Int} {a5 : Nat} {a6 : zV} (h : (mC m a5 = 5) ∧ (((mI m 256 a5) ≠ a1 → zW xs xl d cX7_plankFor 7 (some .int) false [] 5 [zR a0, zI a1, zI a2, zI a3, zI (wr (a4 + 1)), zR a5, zI 1] [] m Q) ∧ (¬ ((mI m 256 a5) ≠ a1) → zC xs xl d 39 [zR a5, zI a2] m (fun r m2 => ∃ v3 : Int, r = .inl (some (zI v3)) ∧ ((v3 < 0 → zW xs xl d cX7_plankFor 7 (some .int) false [] 5 [zR a0, zI a1, zI a2, zI a3, zI (wr (a4 + 1)), zR a5, zI 1] [] m2 Q) ∧ (¬ (v3 < 0) → zW xs xl d cX7_plankFor 7 (some .int) false [] 5 [zR a0, zI a1, zI a2, zI a4, zI (wr (a4 + 1)), zR a5, zI 1] [] m2 Q)))))) : zW xs xl d cX7_plankFor 7 (some .int) false [] 44 [zR a0, zI a1, zI a2, zI a3, zI a4, zR a5, a6] [] m Q := by
  refine (zq_iconst (v := 1) dX7_plankFor_44 (by decide)).mpr ?_
  refine (zq_goto (t := 49) dX7_plankFor_45 rfl).mpr ?_
  refine (zq_istore (l := [zR a0, zI a1, zI a2, zI a3, zI a4, zR a5, zI 1]) dX7_plankFor_49 (Nat.le_of_ble_eq_true rfl) rfl).mpr ?_
  refine (zq_aload dX7_plankFor_51 rfl).mpr ?_
  obtain ⟨g1, h⟩ := h
  refine (zq_getI2 (f := 256) (v := (mI m 256 a5)) dX7_plankFor_53 fl_7_32 (by decide) rfl rfl (by first | rfl | simp only [zm_Is, zm_Rs, zm_As, zm_Os, zm_In0, zm_Rn0])).mpr ⟨g1, ?_⟩
  refine (zq_iload_n dX7_plankFor_56 rfl).mpr ?_
  refine (zq_icmp_ne (t := 77) dX7_plankFor_57 rfl).mpr ⟨fun c => ?_, fun c => ?_⟩
  · replace h := h.1 c
    refine (zq_iinc (l := [zR a0, zI a1, zI a2, zI a3, zI (wr (a4 + 1)), zR a5, zI 1]) dX7_plankFor_77 rfl rfl).mpr ?_
    refine (zq_goto (t := 5) dX7_plankFor_80 rfl).mpr ?_
    exact h
  · replace h := h.2 c
    refine (zq_iload dX7_plankFor_60 rfl).mpr ?_
    refine (zq_if_eq (t := 77) dX7_plankFor_62 rfl).mpr ⟨fun c => absurd c (by decide), fun _ => ?_⟩
    refine (zq_aload dX7_plankFor_65 rfl).mpr ?_
    refine (zq_iload_n dX7_plankFor_67 rfl).mpr ?_
    refine zq_virtualI (n := 1) dX7_plankFor_68 mr_7_35 zn_39 rfl rfl rfl (zrcv_R zo_39 (by decide) g1) (Nat.le_of_ble_eq_true rfl) ?_
    refine h.mono (fun r m2 h => ?_)
    obtain ⟨v3, rfl, h⟩ := h
    refine ⟨_, rfl, ?_⟩
    refine (zq_if_lt (t := 77) dX7_plankFor_71 rfl).mpr ⟨fun c => ?_, fun c => ?_⟩
    · replace h := h.1 c
      refine (zq_iinc (l := [zR a0, zI a1, zI a2, zI a3, zI (wr (a4 + 1)), zR a5, zI 1]) dX7_plankFor_77 rfl rfl).mpr ?_
      refine (zq_goto (t := 5) dX7_plankFor_80 rfl).mpr ?_
      exact h
    · replace h := h.2 c
      refine (zq_iload dX7_plankFor_74 rfl).mpr ?_
      refine (zq_istore_n (l := [zR a0, zI a1, zI a2, zI a4, zI a4, zR a5, zI 1]) dX7_plankFor_76 (Nat.le_of_ble_eq_true rfl) rfl).mpr ?_
      refine (zq_iinc (l := [zR a0, zI a1, zI a2, zI a4, zI (wr (a4 + 1)), zR a5, zI 1]) dX7_plankFor_77 rfl rfl).mpr ?_
      refine (zq_goto (t := 5) dX7_plankFor_80 rfl).mpr ?_
      exact h
theorem bX7_cutAway_0 {a0 : Nat} {a1 : Nat} {a2 : Int} {a3 : Int} (h : (mC m a1 = 5) ∧ (((wr ((mI m 257 a1) - (wr (a2 + a3)))) < 10 → (mC m a0 = 8) ∧ zW xs xl d cX7_cutAway 7 (none) false [] 69 [zR a0, zR a1, zI a2, zI a3, zI (wr (a2 + a3)), zI (wr ((mI m 257 a1) - (wr (a2 + a3))))] [] (sI m 450 a0 (wr ((mI m 450 a0) + (wr ((mI m 257 a1) - (wr (a2 + a3))))))) Q) ∧ (¬ ((wr ((mI m 257 a1) - (wr (a2 + a3)))) < 10) → (mC m a0 = 8) ∧ (((mI m 449 a0) < 60 → (29 ≤ mC m (mR m 448 a0) ∧ mC m (mR m 448 a0) < 43) ∧ (0 ≤ (mI m 449 a0) ∧ (mI m 449 a0) < mN m (mR m 448 a0)) ∧ (mC m (mO m (mR m 448 a0) (Int.toNat (mI m 449 a0))) = 5) ∧ zC xs xl d 41 [zR (mO m (mR m 448 a0) (Int.toNat (mI m 449 a0))), zR a1, zI (wr (a2 + a3))] m (fun r m6 => r = .inl none ∧ (mC m6 a0 = 8) ∧ zW xs xl d cX7_cutAway 7 (none) false [] 69 [zR a0, zR a1, zI a2, zI a3, zI (wr (a2 + a3)), zI (wr ((mI m 257 a1) - (wr (a2 + a3))))] [] (sI m6 449 a0 (wr ((mI m6 449 a0) + 1))) Q)) ∧ (¬ ((mI m 449 a0) < 60) → zW xs xl d cX7_cutAway 7 (none) false [] 69 [zR a0, zR a1, zI a2, zI a3, zI (wr (a2 + a3)), zI (wr ((mI m 257 a1) - (wr (a2 + a3))))] [] (sI m 450 a0 (wr ((mI m 450 a0) + (wr ((mI m 257 a1) - (wr (a2 + a3))))))) Q))))) : zC xs xl (d + 1) 77 [zR a0, zR a1, zI a2, zI a3] m Q := by
  refine zk_77 ?_
  refine (zq_iload_n dX7_cutAway_0 rfl).mpr ?_
  refine (zq_iload_n dX7_cutAway_1 rfl).mpr ?_
  refine (zq_iadd dX7_cutAway_2).mpr ?_
  refine (zq_istore (l := [zR a0, zR a1, zI a2, zI a3, zI (wr (a2 + a3)), zU]) dX7_cutAway_3 (Nat.le_of_ble_eq_true rfl) rfl).mpr ?_
  refine (zq_aload_n dX7_cutAway_5 rfl).mpr ?_
  obtain ⟨g1, h⟩ := h
  refine (zq_getI2 (f := 257) (v := (mI m 257 a1)) dX7_cutAway_6 fl_7_29 (by decide) rfl rfl (by first | rfl | simp only [zm_Is, zm_Rs, zm_As, zm_Os, zm_In0, zm_Rn0])).mpr ⟨g1, ?_⟩
  refine (zq_iload dX7_cutAway_9 rfl).mpr ?_
  refine (zq_isub dX7_cutAway_11).mpr ?_
  refine (zq_istore (l := [zR a0, zR a1, zI a2, zI a3, zI (wr (a2 + a3)), zI (wr ((mI m 257 a1) - (wr (a2 + a3))))]) dX7_cutAway_12 (Nat.le_of_ble_eq_true rfl) rfl).mpr ?_
  refine (zq_iload dX7_cutAway_14 rfl).mpr ?_
  refine (zq_bipush (v := 10) dX7_cutAway_16 (by decide)).mpr ?_
  refine (zq_icmp_lt (t := 30) dX7_cutAway_18 rfl).mpr ⟨fun c => ?_, fun c => ?_⟩
  · replace h := h.1 c
    refine (zq_aload_n dX7_cutAway_30 rfl).mpr ?_
    refine (zq_dupR dX7_cutAway_31).mpr ?_
    obtain ⟨g2, h⟩ := h
    refine (zq_getI2 (f := 450) (v := (mI m 450 a0)) dX7_cutAway_32 fl_7_21 (by decide) rfl rfl (by first | rfl | simp only [zm_Is, zm_Rs, zm_As, zm_Os, zm_In0, zm_Rn0])).mpr ⟨g2, ?_⟩
    refine (zq_iload dX7_cutAway_35 rfl).mpr ?_
    refine (zq_iadd dX7_cutAway_37).mpr ?_
    refine (zq_putI (f := 450) dX7_cutAway_38 fl_7_21 (by decide) rfl rfl rfl).mpr ⟨g2, ?_⟩
    refine (zq_goto (t := 69) dX7_cutAway_41 rfl).mpr ?_
    exact h
  · replace h := h.2 c
    refine (zq_aload_n dX7_cutAway_21 rfl).mpr ?_
    obtain ⟨g3, h⟩ := h
    refine (zq_getI2 (f := 449) (v := (mI m 449 a0)) dX7_cutAway_22 fl_7_17 (by decide) rfl rfl (by first | rfl | simp only [zm_Is, zm_Rs, zm_As, zm_Os, zm_In0, zm_Rn0])).mpr ⟨g3, ?_⟩
    refine (zq_bipush (v := 60) dX7_cutAway_25 (by decide)).mpr ?_
    refine (zq_icmp_lt (t := 44) dX7_cutAway_27 rfl).mpr ⟨fun c => ?_, fun c => ?_⟩
    · replace h := h.1 c
      refine (zq_aload_n dX7_cutAway_44 rfl).mpr ?_
      refine (zq_getR2 (f := 448) (v := (mR m 448 a0)) dX7_cutAway_45 fl_7_11 (by decide) rfl rfl (by first | rfl | simp only [zm_Is, zm_Rs, zm_As, zm_Os, zm_In0, zm_Rn0])).mpr ⟨g3, ?_⟩
      refine (zq_aload_n dX7_cutAway_48 rfl).mpr ?_
      refine (zq_getI2 (f := 449) (v := (mI m 449 a0)) dX7_cutAway_49 fl_7_17 (by decide) rfl rfl (by first | rfl | simp only [zm_Is, zm_Rs, zm_As, zm_Os, zm_In0, zm_Rn0])).mpr ⟨g3, ?_⟩
      obtain ⟨g4, h⟩ := h
      obtain ⟨g5, h⟩ := h
      refine (zq_aald2 (v := (mO m (mR m 448 a0) (Int.toNat (mI m 449 a0)))) dX7_cutAway_52 (by first | rfl | simp only [zm_Is, zm_Rs, zm_As, zm_Os, zm_In0, zm_Rn0])).mpr ⟨⟨g4.1, g4.2, g5⟩, ?_⟩
      refine (zq_aload_n dX7_cutAway_53 rfl).mpr ?_
      refine (zq_iload dX7_cutAway_54 rfl).mpr ?_
      obtain ⟨g8, h⟩ := h
      refine zq_virtualV (n := 2) dX7_cutAway_56 mr_7_39 zn_41 rfl rfl rfl (zrcv_R zo_41 (by decide) g8) (Nat.le_of_ble_eq_true rfl) ?_
      refine h.mono (fun r m6 h => ?_)
      obtain ⟨rfl, h⟩ := h
      refine ⟨rfl, ?_⟩
      refine (zq_aload_n dX7_cutAway_59 rfl).mpr ?_
      refine (zq_dupR dX7_cutAway_60).mpr ?_
      obtain ⟨g9, h⟩ := h
      refine (zq_getI2 (f := 449) (v := (mI m6 449 a0)) dX7_cutAway_61 fl_7_17 (by decide) rfl rfl (by first | rfl | simp only [zm_Is, zm_Rs, zm_As, zm_Os, zm_In0, zm_Rn0])).mpr ⟨g9, ?_⟩
      refine (zq_iconst (v := 1) dX7_cutAway_64 (by decide)).mpr ?_
      refine (zq_iadd dX7_cutAway_65).mpr ?_
      refine (zq_putI (f := 449) dX7_cutAway_66 fl_7_17 (by decide) rfl rfl rfl).mpr ⟨g9, ?_⟩
      exact h
    · replace h := h.2 c
      refine (zq_aload_n dX7_cutAway_30 rfl).mpr ?_
      refine (zq_dupR dX7_cutAway_31).mpr ?_
      refine (zq_getI2 (f := 450) (v := (mI m 450 a0)) dX7_cutAway_32 fl_7_21 (by decide) rfl rfl (by first | rfl | simp only [zm_Is, zm_Rs, zm_As, zm_Os, zm_In0, zm_Rn0])).mpr ⟨g3, ?_⟩
      refine (zq_iload dX7_cutAway_35 rfl).mpr ?_
      refine (zq_iadd dX7_cutAway_37).mpr ?_
      refine (zq_putI (f := 450) dX7_cutAway_38 fl_7_21 (by decide) rfl rfl rfl).mpr ⟨g3, ?_⟩
      refine (zq_goto (t := 69) dX7_cutAway_41 rfl).mpr ?_
      exact h
theorem bX7_cutAway_69 {a0 : Nat} {a1 : Nat} {a2 : Int} {a3 : Int} {a4 : Int} {a5 : Int} (h : ((10 ≤ a2 → (mC m a1 = 5) ∧ zC xs xl d 42 [zR a1, zI a2] m (fun r m1 => r = .inl none ∧ Q (.inl none) m1)) ∧ (¬ (10 ≤ a2) → (mC m a0 = 8) ∧ (mC m a1 = 5) ∧ zC xs xl d 42 [zR a1, zI 0] (sI m 450 a0 (wr ((mI m 450 a0) + a2))) (fun r m5 => r = .inl none ∧ Q (.inl none) m5)))) : zW xs xl d cX7_cutAway 7 (none) false [] 69 [zR a0, zR a1, zI a2, zI a3, zI a4, zI a5] [] m Q := by
  refine (zq_iload_n dX7_cutAway_69 rfl).mpr ?_
  refine (zq_bipush (v := 10) dX7_cutAway_70 (by decide)).mpr ?_
  refine (zq_icmp_ge (t := 93) dX7_cutAway_72 rfl).mpr ⟨fun c => ?_, fun c => ?_⟩
  · replace h := h.1 c
    refine (zq_aload_n dX7_cutAway_93 rfl).mpr ?_
    refine (zq_iload_n dX7_cutAway_94 rfl).mpr ?_
    obtain ⟨g3, h⟩ := h
    refine zq_virtualV (n := 1) dX7_cutAway_95 mr_7_43 zn_42 rfl rfl rfl (zrcv_R zo_42 (by decide) g3) (Nat.le_of_ble_eq_true rfl) ?_
    refine h.mono (fun r m1 h => ?_)
    obtain ⟨rfl, h⟩ := h
    refine ⟨rfl, ?_⟩
    exact (zq_ret dX7_cutAway_98 rfl).mpr h
  · replace h := h.2 c
    refine (zq_aload_n dX7_cutAway_75 rfl).mpr ?_
    refine (zq_dupR dX7_cutAway_76).mpr ?_
    obtain ⟨g4, h⟩ := h
    refine (zq_getI2 (f := 450) (v := (mI m 450 a0)) dX7_cutAway_77 fl_7_21 (by decide) rfl rfl (by first | rfl | simp only [zm_Is, zm_Rs, zm_As, zm_Os, zm_In0, zm_Rn0])).mpr ⟨g4, ?_⟩
    refine (zq_iload_n dX7_cutAway_80 rfl).mpr ?_
    refine (zq_iadd dX7_cutAway_81).mpr ?_
    refine (zq_putI (f := 450) dX7_cutAway_82 fl_7_21 (by decide) rfl rfl rfl).mpr ⟨g4, ?_⟩
    refine (zq_aload_n dX7_cutAway_85 rfl).mpr ?_
    refine (zq_iconst (v := 0) dX7_cutAway_86 (by decide)).mpr ?_
    obtain ⟨g7, h⟩ := h
    refine zq_virtualV (n := 1) dX7_cutAway_87 mr_7_43 zn_42 rfl rfl rfl (zrcv_R zo_42 (by decide) g7) (Nat.le_of_ble_eq_true rfl) ?_
    refine h.mono (fun r m5 h => ?_)
    obtain ⟨rfl, h⟩ := h
    refine ⟨rfl, ?_⟩
    refine (zq_goto (t := 98) dX7_cutAway_90 rfl).mpr ?_
    exact (zq_ret dX7_cutAway_98 rfl).mpr h
theorem bX7_moveWetness_0 {a0 : Nat} (h : zW xs xl d cX7_moveWetness 7 (none) false [] 2 [zR a0, zI 0] [] m Q) : zC xs xl (d + 1) 78 [zR a0] m Q := by
  refine zk_78 ?_
  refine (zq_iconst (v := 0) dX7_moveWetness_0 (by decide)).mpr ?_
  refine (zq_istore_n (l := [zR a0, zI 0]) dX7_moveWetness_1 (Nat.le_of_ble_eq_true rfl) rfl).mpr ?_
  exact h
theorem bX7_moveWetness_2 {a0 : Nat} {a1 : Int} (h : (mC m a0 = 8) ∧ (((mI m 449 a0) ≤ a1 → Q (.inl none) m) ∧ (¬ ((mI m 449 a0) ≤ a1) → (29 ≤ mC m (mR m 448 a0) ∧ mC m (mR m 448 a0) < 43) ∧ (0 ≤ a1 ∧ a1 < mN m (mR m 448 a0)) ∧ (mC m (mO m (mR m 448 a0) (Int.toNat a1)) = 5) ∧ (((mI m 257 (mO m (mR m 448 a0) (Int.toNat a1))) ≤ 0 → zW xs xl d cX7_moveWetness 7 (none) false [] 2 [zR a0, zI (wr (a1 + 1))] [] m Q) ∧ (¬ ((mI m 257 (mO m (mR m 448 a0) (Int.toNat a1))) ≤ 0) → zC xs xl d 128 [zI (mI m 258 (mO m (mR m 448 a0) (Int.toNat a1))), zI 15, zI 1] m (fun r m5 => ∃ v6 : Int, r = .inl (some (zI v6)) ∧ (mC m5 (mO m (mR m 448 a0) (Int.toNat a1)) = 5) ∧ zW xs xl d cX7_moveWetness 7 (none) false [] 2 [zR a0, zI (wr (a1 + 1))] [] (sI m5 258 (mO m (mR m 448 a0) (Int.toNat a1)) v6) Q)))))) : zW xs xl d cX7_moveWetness 7 (none) false [] 2 [zR a0, zI a1] [] m Q := by
  refine (zq_iload_n dX7_moveWetness_2 rfl).mpr ?_
  refine (zq_aload_n dX7_moveWetness_3 rfl).mpr ?_
  obtain ⟨g1, h⟩ := h
  refine (zq_getI2 (f := 449) (v := (mI m 449 a0)) dX7_moveWetness_4 fl_7_17 (by decide) rfl rfl (by first | rfl | simp only [zm_Is, zm_Rs, zm_As, zm_Os, zm_In0, zm_Rn0])).mpr ⟨g1, ?_⟩
  refine (zq_icmp_ge (t := 52) dX7_moveWetness_7 rfl).mpr ⟨fun c => ?_, fun c => ?_⟩
  · replace h := h.1 c
    exact (zq_ret dX7_moveWetness_52 rfl).mpr h
  · replace h := h.2 c
    refine (zq_aload_n dX7_moveWetness_10 rfl).mpr ?_
    refine (zq_getR2 (f := 448) (v := (mR m 448 a0)) dX7_moveWetness_11 fl_7_11 (by decide) rfl rfl (by first | rfl | simp only [zm_Is, zm_Rs, zm_As, zm_Os, zm_In0, zm_Rn0])).mpr ⟨g1, ?_⟩
    refine (zq_iload_n dX7_moveWetness_14 rfl).mpr ?_
    obtain ⟨g2, h⟩ := h
    obtain ⟨g3, h⟩ := h
    refine (zq_aald2 (v := (mO m (mR m 448 a0) (Int.toNat a1))) dX7_moveWetness_15 (by first | rfl | simp only [zm_Is, zm_Rs, zm_As, zm_Os, zm_In0, zm_Rn0])).mpr ⟨⟨g2.1, g2.2, g3⟩, ?_⟩
    obtain ⟨g4, h⟩ := h
    refine (zq_getI2 (f := 257) (v := (mI m 257 (mO m (mR m 448 a0) (Int.toNat a1)))) dX7_moveWetness_16 fl_7_29 (by decide) rfl rfl (by first | rfl | simp only [zm_Is, zm_Rs, zm_As, zm_Os, zm_In0, zm_Rn0])).mpr ⟨g4, ?_⟩
    refine (zq_if_le (t := 46) dX7_moveWetness_19 rfl).mpr ⟨fun c => ?_, fun c => ?_⟩
    · replace h := h.1 c
      refine (zq_iinc (l := [zR a0, zI (wr (a1 + 1))]) dX7_moveWetness_46 rfl rfl).mpr ?_
      refine (zq_goto (t := 2) dX7_moveWetness_49 rfl).mpr ?_
      exact h
    · replace h := h.2 c
      refine (zq_aload_n dX7_moveWetness_22 rfl).mpr ?_
      refine (zq_getR2 (f := 448) (v := (mR m 448 a0)) dX7_moveWetness_23 fl_7_11 (by decide) rfl rfl (by first | rfl | simp only [zm_Is, zm_Rs, zm_As, zm_Os, zm_In0, zm_Rn0])).mpr ⟨g1, ?_⟩
      refine (zq_iload_n dX7_moveWetness_26 rfl).mpr ?_
      refine (zq_aald2 (v := (mO m (mR m 448 a0) (Int.toNat a1))) dX7_moveWetness_27 (by first | rfl | simp only [zm_Is, zm_Rs, zm_As, zm_Os, zm_In0, zm_Rn0])).mpr ⟨⟨g2.1, g2.2, g3⟩, ?_⟩
      refine (zq_aload_n dX7_moveWetness_28 rfl).mpr ?_
      refine (zq_getR2 (f := 448) (v := (mR m 448 a0)) dX7_moveWetness_29 fl_7_11 (by decide) rfl rfl (by first | rfl | simp only [zm_Is, zm_Rs, zm_As, zm_Os, zm_In0, zm_Rn0])).mpr ⟨g1, ?_⟩
      refine (zq_iload_n dX7_moveWetness_32 rfl).mpr ?_
      refine (zq_aald2 (v := (mO m (mR m 448 a0) (Int.toNat a1))) dX7_moveWetness_33 (by first | rfl | simp only [zm_Is, zm_Rs, zm_As, zm_Os, zm_In0, zm_Rn0])).mpr ⟨⟨g2.1, g2.2, g3⟩, ?_⟩
      refine (zq_getI2 (f := 258) (v := (mI m 258 (mO m (mR m 448 a0) (Int.toNat a1)))) dX7_moveWetness_34 fl_7_47 (by decide) rfl rfl (by first | rfl | simp only [zm_Is, zm_Rs, zm_As, zm_Os, zm_In0, zm_Rn0])).mpr ⟨g4, ?_⟩
      refine (zq_bipush (v := 15) dX7_moveWetness_37 (by decide)).mpr ?_
      refine (zq_iconst (v := 1) dX7_moveWetness_39 (by decide)).mpr ?_
      refine zq_staticI (n := 3) dX7_moveWetness_40 mr_7_50 zn_128 rfl rfl (Nat.le_of_ble_eq_true rfl) (Nat.le_of_ble_eq_true rfl) ?_
      refine h.mono (fun r m5 h => ?_)
      obtain ⟨v6, rfl, h⟩ := h
      refine ⟨_, rfl, ?_⟩
      obtain ⟨g7, h⟩ := h
      refine (zq_putI (f := 258) dX7_moveWetness_43 fl_7_47 (by decide) rfl rfl rfl).mpr ⟨g7, ?_⟩
      refine (zq_iinc (l := [zR a0, zI (wr (a1 + 1))]) dX7_moveWetness_46 rfl rfl).mpr ?_
      refine (zq_goto (t := 2) dX7_moveWetness_49 rfl).mpr ?_
      exact h
theorem bX7_lengthOfAll_0 {a0 : Nat} (h : zW xs xl d cX7_lengthOfAll 7 (some .int) false [] 4 [zR a0, zI 0, zI 0] [] m Q) : zC xs xl (d + 1) 79 [zR a0] m Q := by
  refine zk_79 ?_
  refine (zq_iconst (v := 0) dX7_lengthOfAll_0 (by decide)).mpr ?_
  refine (zq_istore_n (l := [zR a0, zI 0, zU]) dX7_lengthOfAll_1 (Nat.le_of_ble_eq_true rfl) rfl).mpr ?_
  refine (zq_iconst (v := 0) dX7_lengthOfAll_2 (by decide)).mpr ?_
  refine (zq_istore_n (l := [zR a0, zI 0, zI 0]) dX7_lengthOfAll_3 (Nat.le_of_ble_eq_true rfl) rfl).mpr ?_
  exact h
theorem bX7_lengthOfAll_4 {a0 : Nat} {a1 : Int} {a2 : Int} (h : (mC m a0 = 8) ∧ (((mI m 449 a0) ≤ a2 → Q (.inl (some (zI a1))) m) ∧ (¬ ((mI m 449 a0) ≤ a2) → (29 ≤ mC m (mR m 448 a0) ∧ mC m (mR m 448 a0) < 43) ∧ (0 ≤ a2 ∧ a2 < mN m (mR m 448 a0)) ∧ (mC m (mO m (mR m 448 a0) (Int.toNat a2)) = 5) ∧ zW xs xl d cX7_lengthOfAll 7 (some .int) false [] 4 [zR a0, zI (wr (a1 + (mI m 257 (mO m (mR m 448 a0) (Int.toNat a2))))), zI (wr (a2 + 1))] [] m Q))) : zW xs xl d cX7_lengthOfAll 7 (some .int) false [] 4 [zR a0, zI a1, zI a2] [] m Q := by
  refine (zq_iload_n dX7_lengthOfAll_4 rfl).mpr ?_
  refine (zq_aload_n dX7_lengthOfAll_5 rfl).mpr ?_
  obtain ⟨g1, h⟩ := h
  refine (zq_getI2 (f := 449) (v := (mI m 449 a0)) dX7_lengthOfAll_6 fl_7_17 (by decide) rfl rfl (by first | rfl | simp only [zm_Is, zm_Rs, zm_As, zm_Os, zm_In0, zm_Rn0])).mpr ⟨g1, ?_⟩
  refine (zq_icmp_ge (t := 30) dX7_lengthOfAll_9 rfl).mpr ⟨fun c => ?_, fun c => ?_⟩
  · replace h := h.1 c
    refine (zq_iload_n dX7_lengthOfAll_30 rfl).mpr ?_
    exact (zq_iret dX7_lengthOfAll_31 rfl).mpr ⟨trivial, h⟩
  · replace h := h.2 c
    refine (zq_iload_n dX7_lengthOfAll_12 rfl).mpr ?_
    refine (zq_aload_n dX7_lengthOfAll_13 rfl).mpr ?_
    refine (zq_getR2 (f := 448) (v := (mR m 448 a0)) dX7_lengthOfAll_14 fl_7_11 (by decide) rfl rfl (by first | rfl | simp only [zm_Is, zm_Rs, zm_As, zm_Os, zm_In0, zm_Rn0])).mpr ⟨g1, ?_⟩
    refine (zq_iload_n dX7_lengthOfAll_17 rfl).mpr ?_
    obtain ⟨g2, h⟩ := h
    obtain ⟨g3, h⟩ := h
    refine (zq_aald2 (v := (mO m (mR m 448 a0) (Int.toNat a2))) dX7_lengthOfAll_18 (by first | rfl | simp only [zm_Is, zm_Rs, zm_As, zm_Os, zm_In0, zm_Rn0])).mpr ⟨⟨g2.1, g2.2, g3⟩, ?_⟩
    obtain ⟨g4, h⟩ := h
    refine (zq_getI2 (f := 257) (v := (mI m 257 (mO m (mR m 448 a0) (Int.toNat a2)))) dX7_lengthOfAll_19 fl_7_29 (by decide) rfl rfl (by first | rfl | simp only [zm_Is, zm_Rs, zm_As, zm_Os, zm_In0, zm_Rn0])).mpr ⟨g4, ?_⟩
    refine (zq_iadd dX7_lengthOfAll_22).mpr ?_
    refine (zq_istore_n (l := [zR a0, zI (wr (a1 + (mI m 257 (mO m (mR m 448 a0) (Int.toNat a2))))), zI a2]) dX7_lengthOfAll_23 (Nat.le_of_ble_eq_true rfl) rfl).mpr ?_
    refine (zq_iinc (l := [zR a0, zI (wr (a1 + (mI m 257 (mO m (mR m 448 a0) (Int.toNat a2))))), zI (wr (a2 + 1))]) dX7_lengthOfAll_24 rfl rfl).mpr ?_
    refine (zq_goto (t := 4) dX7_lengthOfAll_27 rfl).mpr ?_
    exact h
theorem bX7_copyFrom_0 {a0 : Nat} {a1 : Nat} (h : (mC m a1 = 8) ∧ (mC m a0 = 8) ∧ zW xs xl d cX7_copyFrom 7 (none) false [] 18 [zR a0, zR a1, zI 0] [] (sI (sI m 449 a0 (mI m 449 a1)) 450 a0 (mI m 450 a1)) Q) : zC xs xl (d + 1) 80 [zR a0, zR a1] m Q := by
  refine zk_80 ?_
  refine (zq_aload_n dX7_copyFrom_0 rfl).mpr ?_
  refine (zq_aload_n dX7_copyFrom_1 rfl).mpr ?_
  obtain ⟨g1, h⟩ := h
  refine (zq_getI2 (f := 449) (v := (mI m 449 a1)) dX7_copyFrom_2 fl_7_17 (by decide) rfl rfl (by first | rfl | simp only [zm_Is, zm_Rs, zm_As, zm_Os, zm_In0, zm_Rn0])).mpr ⟨g1, ?_⟩
  obtain ⟨g2, h⟩ := h
  refine (zq_putI (f := 449) dX7_copyFrom_5 fl_7_17 (by decide) rfl rfl rfl).mpr ⟨g2, ?_⟩
  refine (zq_aload_n dX7_copyFrom_8 rfl).mpr ?_
  refine (zq_aload_n dX7_copyFrom_9 rfl).mpr ?_
  refine (zq_getI2 (f := 450) (v := (mI m 450 a1)) dX7_copyFrom_10 fl_7_21 (by decide) rfl rfl (by first | rfl | simp only [zm_Is, zm_Rs, zm_As, zm_Os, zm_In0, zm_Rn0])).mpr ⟨g1, ?_⟩
  refine (zq_putI (f := 450) dX7_copyFrom_13 fl_7_21 (by decide) rfl rfl rfl).mpr ⟨g2, ?_⟩
  refine (zq_iconst (v := 0) dX7_copyFrom_16 (by decide)).mpr ?_
  refine (zq_istore_n (l := [zR a0, zR a1, zI 0]) dX7_copyFrom_17 (Nat.le_of_ble_eq_true rfl) rfl).mpr ?_
  exact h
theorem bX7_copyFrom_18 {a0 : Nat} {a1 : Nat} {a2 : Int} (h : (mC m a0 = 8) ∧ (((mI m 449 a0) ≤ a2 → Q (.inl none) m) ∧ (¬ ((mI m 449 a0) ≤ a2) → (29 ≤ mC m (mR m 448 a0) ∧ mC m (mR m 448 a0) < 43) ∧ (0 ≤ a2 ∧ a2 < mN m (mR m 448 a0)) ∧ (mC m a1 = 8) ∧ (29 ≤ mC m (mR m 448 a1) ∧ mC m (mR m 448 a1) < 43) ∧ (0 ≤ a2 ∧ a2 < mN m (mR m 448 a1)) ∧ (mC m (mO m (mR m 448 a0) (Int.toNat a2)) = 5) ∧ zC xs xl d 44 [zR (mO m (mR m 448 a0) (Int.toNat a2)), zR (mO m (mR m 448 a1) (Int.toNat a2))] m (fun r m7 => r = .inl none ∧ zW xs xl d cX7_copyFrom 7 (none) false [] 18 [zR a0, zR a1, zI (wr (a2 + 1))] [] m7 Q)))) : zW xs xl d cX7_copyFrom 7 (none) false [] 18 [zR a0, zR a1, zI a2] [] m Q := by
  refine (zq_iload_n dX7_copyFrom_18 rfl).mpr ?_
  refine (zq_aload_n dX7_copyFrom_19 rfl).mpr ?_
  obtain ⟨g1, h⟩ := h
  refine (zq_getI2 (f := 449) (v := (mI m 449 a0)) dX7_copyFrom_20 fl_7_17 (by decide) rfl rfl (by first | rfl | simp only [zm_Is, zm_Rs, zm_As, zm_Os, zm_In0, zm_Rn0])).mpr ⟨g1, ?_⟩
  refine (zq_icmp_ge (t := 47) dX7_copyFrom_23 rfl).mpr ⟨fun c => ?_, fun c => ?_⟩
  · replace h := h.1 c
    exact (zq_ret dX7_copyFrom_47 rfl).mpr h
  · replace h := h.2 c
    refine (zq_aload_n dX7_copyFrom_26 rfl).mpr ?_
    refine (zq_getR2 (f := 448) (v := (mR m 448 a0)) dX7_copyFrom_27 fl_7_11 (by decide) rfl rfl (by first | rfl | simp only [zm_Is, zm_Rs, zm_As, zm_Os, zm_In0, zm_Rn0])).mpr ⟨g1, ?_⟩
    refine (zq_iload_n dX7_copyFrom_30 rfl).mpr ?_
    obtain ⟨g2, h⟩ := h
    obtain ⟨g3, h⟩ := h
    refine (zq_aald2 (v := (mO m (mR m 448 a0) (Int.toNat a2))) dX7_copyFrom_31 (by first | rfl | simp only [zm_Is, zm_Rs, zm_As, zm_Os, zm_In0, zm_Rn0])).mpr ⟨⟨g2.1, g2.2, g3⟩, ?_⟩
    refine (zq_aload_n dX7_copyFrom_32 rfl).mpr ?_
    obtain ⟨g4, h⟩ := h
    refine (zq_getR2 (f := 448) (v := (mR m 448 a1)) dX7_copyFrom_33 fl_7_11 (by decide) rfl rfl (by first | rfl | simp only [zm_Is, zm_Rs, zm_As, zm_Os, zm_In0, zm_Rn0])).mpr ⟨g4, ?_⟩
    refine (zq_iload_n dX7_copyFrom_36 rfl).mpr ?_
    obtain ⟨g5, h⟩ := h
    obtain ⟨g6, h⟩ := h
    refine (zq_aald2 (v := (mO m (mR m 448 a1) (Int.toNat a2))) dX7_copyFrom_37 (by first | rfl | simp only [zm_Is, zm_Rs, zm_As, zm_Os, zm_In0, zm_Rn0])).mpr ⟨⟨g5.1, g5.2, g6⟩, ?_⟩
    obtain ⟨g9, h⟩ := h
    refine zq_virtualV (n := 1) dX7_copyFrom_38 mr_7_54 zn_44 rfl rfl rfl (zrcv_R zo_44 (by decide) g9) (Nat.le_of_ble_eq_true rfl) ?_
    refine h.mono (fun r m7 h => ?_)
    obtain ⟨rfl, h⟩ := h
    refine ⟨rfl, ?_⟩
    refine (zq_iinc (l := [zR a0, zR a1, zI (wr (a2 + 1))]) dX7_copyFrom_41 rfl rfl).mpr ?_
    refine (zq_goto (t := 18) dX7_copyFrom_44 rfl).mpr ?_
    exact h
theorem bX8_init_0 {a0 : Nat} (h : (a0 ≠ 0) ∧ (∀ m2 : zM, m2 = nwA m 22 1000 → (mC m2 a0 = 9) ∧ Q (.inl none) (sI (sR m2 512 a0 (mz m)) 513 a0 0))) : zC xs xl (d + 1) 81 [zR a0] m Q := by
  refine zk_81 ?_
  refine (zq_aload_n dX8_init_0 rfl).mpr ?_
  obtain ⟨g1, h⟩ := h
  refine (zq_oinit dX8_init_1 mr_8_3).mpr ⟨⟨g1, (Nat.le_of_ble_eq_true rfl)⟩, ?_⟩
  refine (zq_aload_n dX8_init_4 rfl).mpr ?_
  refine (zq_sipush (v := 1000) dX8_init_5 (by decide)).mpr ?_
  refine zq_newarray2 (kd := 22) (i := 1000) dX8_init_8 rfl (by decide) rfl ⟨by decide, by decide⟩ (fun m2 em2 => ?_)
  replace h := h m2 em2
  obtain ⟨g3, h⟩ := h
  refine (zq_putR (f := 512) dX8_init_10 fl_8_9 (by decide) rfl rfl rfl).mpr ⟨g3, ?_⟩
  refine (zq_aload_n dX8_init_13 rfl).mpr ?_
  refine (zq_iconst (v := 0) dX8_init_14 (by decide)).mpr ?_
  refine (zq_putI (f := 513) dX8_init_15 fl_8_15 (by decide) rfl rfl rfl).mpr ⟨g3, ?_⟩
  exact (zq_ret dX8_init_18 rfl).mpr h
theorem bX8_append_0 {a0 : Nat} {a1 : Int} (h : zW xs xl d cX8_append 8 (none) false [] 3 [zR a0, zI a1, zI 24] [] m Q) : zC xs xl (d + 1) 82 [zR a0, zI a1] m Q := by
  refine zk_82 ?_
  refine (zq_bipush (v := 24) dX8_append_0 (by decide)).mpr ?_
  refine (zq_istore_n (l := [zR a0, zI a1, zI 24]) dX8_append_2 (Nat.le_of_ble_eq_true rfl) rfl).mpr ?_
  exact h
theorem bX8_append_3 {a0 : Nat} {a1 : Int} {a2 : Int} (h : ((a2 < 0 → Q (.inl none) m) ∧ (¬ (a2 < 0) → (mC m a0 = 9) ∧ ((1000 ≤ (mI m 513 a0) → Q (.inl none) m) ∧ (¬ (1000 ≤ (mI m 513 a0)) → (0 ≤ (mI m 513 a0) ∧ (mI m 513 a0) < mN m (mR m 512 a0)) ∧ ((mC m (mR m 512 a0) = 21 ∧ ((bI2b (bUsh a1 a2)) = 0 ∨ (bI2b (bUsh a1 a2)) = 1)) ∨ (mC m (mR m 512 a0) = 22 ∧ -128 ≤ (bI2b (bUsh a1 a2)) ∧ (bI2b (bUsh a1 a2)) ≤ 127)) ∧ zW xs xl d cX8_append 8 (none) false [] 3 [zR a0, zI a1, zI (wr (a2 + (-8)))] [] (sI (sA m (mR m 512 a0) (Int.toNat (mI m 513 a0)) (bI2b (bUsh a1 a2))) 513 a0 (wr ((mI m 513 a0) + 1))) Q))))) : zW xs xl d cX8_append 8 (none) false [] 3 [zR a0, zI a1, zI a2] [] m Q := by
  refine (zq_iload_n dX8_append_3 rfl).mpr ?_
  refine (zq_if_lt (t := 46) dX8_append_4 rfl).mpr ⟨fun c => ?_, fun c => ?_⟩
  · replace h := h.1 c
    exact (zq_ret dX8_append_46 rfl).mpr h
  · replace h := h.2 c
    refine (zq_aload_n dX8_append_7 rfl).mpr ?_
    obtain ⟨g1, h⟩ := h
    refine (zq_getI2 (f := 513) (v := (mI m 513 a0)) dX8_append_8 fl_8_15 (by decide) rfl rfl (by first | rfl | simp only [zm_Is, zm_Rs, zm_As, zm_Os, zm_In0, zm_Rn0])).mpr ⟨g1, ?_⟩
    refine (zq_sipush (v := 1000) dX8_append_11 (by decide)).mpr ?_
    refine (zq_icmp_ge (t := 46) dX8_append_14 rfl).mpr ⟨fun c => ?_, fun c => ?_⟩
    · replace h := h.1 c
      exact (zq_ret dX8_append_46 rfl).mpr h
    · replace h := h.2 c
      refine (zq_aload_n dX8_append_17 rfl).mpr ?_
      refine (zq_getR2 (f := 512) (v := (mR m 512 a0)) dX8_append_18 fl_8_9 (by decide) rfl rfl (by first | rfl | simp only [zm_Is, zm_Rs, zm_As, zm_Os, zm_In0, zm_Rn0])).mpr ⟨g1, ?_⟩
      refine (zq_aload_n dX8_append_21 rfl).mpr ?_
      refine (zq_getI2 (f := 513) (v := (mI m 513 a0)) dX8_append_22 fl_8_15 (by decide) rfl rfl (by first | rfl | simp only [zm_Is, zm_Rs, zm_As, zm_Os, zm_In0, zm_Rn0])).mpr ⟨g1, ?_⟩
      refine (zq_iload_n dX8_append_25 rfl).mpr ?_
      refine (zq_iload_n dX8_append_26 rfl).mpr ?_
      refine (zq_iushr dX8_append_27).mpr ?_
      refine (zq_i2b dX8_append_28).mpr ?_
      obtain ⟨g2, h⟩ := h
      obtain ⟨g3, h⟩ := h
      refine (zq_bast dX8_append_29).mpr ⟨⟨g3, g2⟩, ?_⟩
      refine (zq_aload_n dX8_append_30 rfl).mpr ?_
      refine (zq_dupR dX8_append_31).mpr ?_
      refine (zq_getI2 (f := 513) (v := (mI m 513 a0)) dX8_append_32 fl_8_15 (by decide) rfl rfl (by first | rfl | simp only [zm_Is, zm_Rs, zm_As, zm_Os, zm_In0, zm_Rn0])).mpr ⟨g1, ?_⟩
      refine (zq_iconst (v := 1) dX8_append_35 (by decide)).mpr ?_
      refine (zq_iadd dX8_append_36).mpr ?_
      refine (zq_putI (f := 513) dX8_append_37 fl_8_15 (by decide) rfl rfl rfl).mpr ⟨g1, ?_⟩
      refine (zq_iinc (l := [zR a0, zI a1, zI (wr (a2 + (-8)))]) dX8_append_40 rfl rfl).mpr ?_
      refine (zq_goto (t := 3) dX8_append_43 rfl).mpr ?_
      exact h
theorem bX8_at_0 {a0 : Nat} {a1 : Int} (h : ((a1 < 0 → Q (.inl (some (zI (-1)))) m) ∧ (¬ (a1 < 0) → (mC m a0 = 9) ∧ (((mI m 513 a0) ≤ a1 → Q (.inl (some (zI (-1)))) m) ∧ (¬ ((mI m 513 a0) ≤ a1) → (mC m (mR m 512 a0) = 21 ∨ mC m (mR m 512 a0) = 22) ∧ (0 ≤ a1 ∧ a1 < mN m (mR m 512 a0)) ∧ Q (.inl (some (zI (bAnd (mA m (mR m 512 a0) (Int.toNat a1)) 255)))) m))))) : zC xs xl (d + 1) 83 [zR a0, zI a1] m Q := by
  refine zk_83 ?_
  refine (zq_iload_n dX8_at_0 rfl).mpr ?_
  refine (zq_if_lt (t := 25) dX8_at_1 rfl).mpr ⟨fun c => ?_, fun c => ?_⟩
  · replace h := h.1 c
    refine (zq_iconst (v := (-1)) dX8_at_25 (by decide)).mpr ?_
    exact (zq_iret dX8_at_26 rfl).mpr ⟨trivial, h⟩
  · replace h := h.2 c
    refine (zq_iload_n dX8_at_4 rfl).mpr ?_
    refine (zq_aload_n dX8_at_5 rfl).mpr ?_
    obtain ⟨g1, h⟩ := h
    refine (zq_getI2 (f := 513) (v := (mI m 513 a0)) dX8_at_6 fl_8_15 (by decide) rfl rfl (by first | rfl | simp only [zm_Is, zm_Rs, zm_As, zm_Os, zm_In0, zm_Rn0])).mpr ⟨g1, ?_⟩
    refine (zq_icmp_ge (t := 25) dX8_at_9 rfl).mpr ⟨fun c => ?_, fun c => ?_⟩
    · replace h := h.1 c
      refine (zq_iconst (v := (-1)) dX8_at_25 (by decide)).mpr ?_
      exact (zq_iret dX8_at_26 rfl).mpr ⟨trivial, h⟩
    · replace h := h.2 c
      refine (zq_aload_n dX8_at_12 rfl).mpr ?_
      refine (zq_getR2 (f := 512) (v := (mR m 512 a0)) dX8_at_13 fl_8_9 (by decide) rfl rfl (by first | rfl | simp only [zm_Is, zm_Rs, zm_As, zm_Os, zm_In0, zm_Rn0])).mpr ⟨g1, ?_⟩
      refine (zq_iload_n dX8_at_16 rfl).mpr ?_
      obtain ⟨g2, h⟩ := h
      obtain ⟨g3, h⟩ := h
      refine (zq_bald2 (v := (mA m (mR m 512 a0) (Int.toNat a1))) dX8_at_17 (by first | rfl | simp only [zm_Is, zm_Rs, zm_As, zm_Os, zm_In0, zm_Rn0])).mpr ⟨⟨g2, g3⟩, ?_⟩
      refine (zq_sipush (v := 255) dX8_at_18 (by decide)).mpr ?_
      refine (zq_iand dX8_at_21).mpr ?_
      refine (zq_goto (t := 26) dX8_at_22 rfl).mpr ?_
      exact (zq_iret dX8_at_26 rfl).mpr ⟨trivial, h⟩
theorem bX9_init_0 {a0 : Nat} (h : (a0 ≠ 0) ∧ (mC m a0 = 10) ∧ (∀ m3 : zM, m3 = nwO (sI m 576 a0 0) 7 3 → ((mz m) ≠ 0) ∧ zC xs xl d 74 [zR (mz m)] m3 (fun r m4 => r = .inl none ∧ (mC m4 a0 = 10) ∧ (∀ m8 : zM, m8 = nwA (sR m4 577 a0 (mz m)) 20 5 → (mC m8 a0 = 10) ∧ (∀ m10 : zM, m10 = nwA (sR m8 578 a0 (mz m4)) 20 5 → (mC m10 a0 = 10) ∧ (∀ m12 : zM, m12 = nwA (sR m10 579 a0 (mz m8)) 36 6 → (mC m12 a0 = 10) ∧ (∀ m14 : zM, m14 = nwB (sI (sR m12 580 a0 (mz m10)) 581 a0 0) 40 6 → (mC m14 a0 = 10) ∧ zW xs xl d cX9_init 9 (none) true [] 72 [zR a0, zI 0] [] (sI (sI (sR m14 582 a0 (mz m12)) 583 a0 0) 584 a0 0) Q))))))) : zC xs xl (d + 1) 84 [zR a0] m Q := by
  refine zk_84 ?_
  refine (zq_aload_n dX9_init_0 rfl).mpr ?_
  obtain ⟨g1, h⟩ := h
  refine (zq_oinit dX9_init_1 mr_9_3).mpr ⟨⟨g1, (Nat.le_of_ble_eq_true rfl)⟩, ?_⟩
  refine (zq_aload_n dX9_init_4 rfl).mpr ?_
  refine (zq_iconst (v := 0) dX9_init_5 (by decide)).mpr ?_
  obtain ⟨g2, h⟩ := h
  refine (zq_putI (f := 576) dX9_init_6 fl_9_9 (by decide) rfl rfl rfl).mpr ⟨g2, ?_⟩
  refine (zq_aload_n dX9_init_9 rfl).mpr ?_
  refine zq_new2 dX9_init_10 nw_9_15 rfl (fun m3 em3 => ?_)
  replace h := h m3 em3
  refine (zq_dupR dX9_init_13).mpr ?_
  obtain ⟨g6, h⟩ := h
  refine zq_special2 (n := 0) dX9_init_14 mr_9_17 zn_74 rfl rfl g6 (Nat.le_of_ble_eq_true rfl) ?_
  refine h.mono (fun r m4 h => ?_)
  obtain ⟨rfl, h⟩ := h
  refine ⟨rfl, ?_⟩
  obtain ⟨g7, h⟩ := h
  refine (zq_putR (f := 577) dX9_init_17 fl_9_18 (by decide) rfl rfl rfl).mpr ⟨g7, ?_⟩
  refine (zq_aload_n dX9_init_20 rfl).mpr ?_
  refine (zq_iconst (v := 5) dX9_init_21 (by decide)).mpr ?_
  refine zq_newarray2 (kd := 20) (i := 5) dX9_init_22 rfl (by decide) rfl ⟨by decide, by decide⟩ (fun m8 em8 => ?_)
  replace h := h m8 em8
  obtain ⟨g9, h⟩ := h
  refine (zq_putR (f := 578) dX9_init_24 fl_9_22 (by decide) rfl rfl rfl).mpr ⟨g9, ?_⟩
  refine (zq_aload_n dX9_init_27 rfl).mpr ?_
  refine (zq_iconst (v := 5) dX9_init_28 (by decide)).mpr ?_
  refine zq_newarray2 (kd := 20) (i := 5) dX9_init_29 rfl (by decide) rfl ⟨by decide, by decide⟩ (fun m10 em10 => ?_)
  replace h := h m10 em10
  obtain ⟨g11, h⟩ := h
  refine (zq_putR (f := 579) dX9_init_31 fl_9_26 (by decide) rfl rfl rfl).mpr ⟨g11, ?_⟩
  refine (zq_aload_n dX9_init_34 rfl).mpr ?_
  refine (zq_bipush (v := 6) dX9_init_35 (by decide)).mpr ?_
  refine zq_anew2 (kd := 36) (i := 6) dX9_init_37 nw_9_29 rfl rfl rfl ⟨by decide, by decide⟩ (fun m12 em12 => ?_)
  replace h := h m12 em12
  obtain ⟨g13, h⟩ := h
  refine (zq_putR (f := 580) dX9_init_40 fl_9_31 (by decide) rfl rfl rfl).mpr ⟨g13, ?_⟩
  refine (zq_aload_n dX9_init_43 rfl).mpr ?_
  refine (zq_iconst (v := 0) dX9_init_44 (by decide)).mpr ?_
  refine (zq_putI (f := 581) dX9_init_45 fl_9_35 (by decide) rfl rfl rfl).mpr ⟨g13, ?_⟩
  refine (zq_aload_n dX9_init_48 rfl).mpr ?_
  refine (zq_bipush (v := 40) dX9_init_49 (by decide)).mpr ?_
  refine (zq_bipush (v := 6) dX9_init_51 (by decide)).mpr ?_
  refine zq_mna2 (i := 40) (k2 := 6) dX9_init_53 rfl rfl rfl ⟨by decide, by decide, by decide, by decide⟩ (fun m14 em14 => ?_)
  replace h := h m14 em14
  obtain ⟨g15, h⟩ := h
  refine (zq_putR (f := 582) dX9_init_57 fl_9_40 (by decide) rfl rfl rfl).mpr ⟨g15, ?_⟩
  refine (zq_aload_n dX9_init_60 rfl).mpr ?_
  refine (zq_iconst (v := 0) dX9_init_61 (by decide)).mpr ?_
  refine (zq_putI (f := 583) dX9_init_62 fl_9_43 (by decide) rfl rfl rfl).mpr ⟨g15, ?_⟩
  refine (zq_aload_n dX9_init_65 rfl).mpr ?_
  refine (zq_iconst (v := 0) dX9_init_66 (by decide)).mpr ?_
  refine (zq_putI (f := 584) dX9_init_67 fl_9_46 (by decide) rfl rfl rfl).mpr ⟨g15, ?_⟩
  refine (zq_iconst (v := 0) dX9_init_70 (by decide)).mpr ?_
  refine (zq_istore_n (l := [zR a0, zI 0]) dX9_init_71 (Nat.le_of_ble_eq_true rfl) rfl).mpr ?_
  exact h
theorem bX9_init_72 {a0 : Nat} {a1 : Int} (h : ((6 ≤ a1 → Q (.inl none) m) ∧ (¬ (6 ≤ a1) → (mC m a0 = 10) ∧ (∀ m2 : zM, m2 = nwO m 6 16 → ((mz m) ≠ 0) ∧ zC xs xl d 57 [zR (mz m)] m2 (fun r m3 => r = .inl none ∧ (0 ≤ a1 ∧ a1 < mN m3 (mR m 580 a0)) ∧ (30 ≤ mC m3 (mR m 580 a0) ∧ mC m3 (mR m 580 a0) < 43) ∧ (mC m3 (mz m) + 29 = mC m3 (mR m 580 a0)) ∧ zW xs xl d cX9_init 9 (none) true [] 72 [zR a0, zI (wr (a1 + 1))] [] (sO m3 (mR m 580 a0) (Int.toNat a1) (mz m)) Q))))) : zW xs xl d cX9_init 9 (none) true [] 72 [zR a0, zI a1] [] m Q := by
  refine (zq_iload_n dX9_init_72 rfl).mpr ?_
  refine (zq_bipush (v := 6) dX9_init_73 (by decide)).mpr ?_
  refine (zq_icmp_ge (t := 97) dX9_init_75 rfl).mpr ⟨fun c => ?_, fun c => ?_⟩
  · replace h := h.1 c
    exact (zq_ret dX9_init_97 rfl).mpr h
  · replace h := h.2 c
    refine (zq_aload_n dX9_init_78 rfl).mpr ?_
    obtain ⟨g1, h⟩ := h
    refine (zq_getR2 (f := 580) (v := (mR m 580 a0)) dX9_init_79 fl_9_31 (by decide) rfl rfl (by first | rfl | simp only [zm_Is, zm_Rs, zm_As, zm_Os, zm_In0, zm_Rn0])).mpr ⟨g1, ?_⟩
    refine (zq_iload_n dX9_init_82 rfl).mpr ?_
    refine zq_new2 dX9_init_83 nw_9_29 rfl (fun m2 em2 => ?_)
    replace h := h m2 em2
    refine (zq_dupR dX9_init_86).mpr ?_
    obtain ⟨g5, h⟩ := h
    refine zq_special2 (n := 0) dX9_init_87 mr_9_49 zn_57 rfl rfl g5 (Nat.le_of_ble_eq_true rfl) ?_
    refine h.mono (fun r m3 h => ?_)
    obtain ⟨rfl, h⟩ := h
    refine ⟨rfl, ?_⟩
    obtain ⟨g6, h⟩ := h
    obtain ⟨g7, h⟩ := h
    obtain ⟨g8, h⟩ := h
    refine (zq_aast dX9_init_90).mpr ⟨⟨g7.1, g7.2, g8, g6⟩, ?_⟩
    refine (zq_iinc (l := [zR a0, zI (wr (a1 + 1))]) dX9_init_91 rfl rfl).mpr ?_
    refine (zq_goto (t := 72) dX9_init_94 rfl).mpr ?_
    exact h
theorem bX9_passTick_0 {a0 : Nat} (h : (mC m a0 = 10) ∧ zC xs xl d 86 [zR a0] (sI m 576 a0 (wr ((mI m 576 a0) + 1))) (fun r m2 => r = .inl none ∧ zW xs xl d cX9_passTick 9 (none) false [] 16 [zR a0, zI 0] [] m2 Q)) : zC xs xl (d + 1) 85 [zR a0] m Q := by
  refine zk_85 ?_
  refine (zq_aload_n dX9_passTick_0 rfl).mpr ?_
  refine (zq_dupR dX9_passTick_1).mpr ?_
  obtain ⟨g1, h⟩ := h
  refine (zq_getI2 (f := 576) (v := (mI m 576 a0)) dX9_passTick_2 fl_9_9 (by decide) rfl rfl (by first | rfl | simp only [zm_Is, zm_Rs, zm_As, zm_Os, zm_In0, zm_Rn0])).mpr ⟨g1, ?_⟩
  refine (zq_iconst (v := 1) dX9_passTick_5 (by decide)).mpr ?_
  refine (zq_iadd dX9_passTick_6).mpr ?_
  refine (zq_putI (f := 576) dX9_passTick_7 fl_9_9 (by decide) rfl rfl rfl).mpr ⟨g1, ?_⟩
  refine (zq_aload_n dX9_passTick_10 rfl).mpr ?_
  refine zq_virtualV (n := 0) dX9_passTick_11 mr_9_50 zn_86 rfl rfl rfl (zrcv_R zo_86 (by decide) g1) (Nat.le_of_ble_eq_true rfl) ?_
  refine h.mono (fun r m2 h => ?_)
  obtain ⟨rfl, h⟩ := h
  refine ⟨rfl, ?_⟩
  refine (zq_iconst (v := 0) dX9_passTick_14 (by decide)).mpr ?_
  refine (zq_istore_n (l := [zR a0, zI 0]) dX9_passTick_15 (Nat.le_of_ble_eq_true rfl) rfl).mpr ?_
  exact h
theorem bX9_passTick_16 {a0 : Nat} {a1 : Int} (h : (mC m a0 = 10) ∧ (((mI m 581 a0) ≤ a1 → (((wr ((mI m 576 a0) - wr (wr (Int.tdiv (mI m 576 a0) 5) * 5))) ≠ 0 → Q (.inl none) m) ∧ (¬ ((wr ((mI m 576 a0) - wr (wr (Int.tdiv (mI m 576 a0) 5) * 5))) ≠ 0) → (mC m (mR m 577 a0) = 8) ∧ zC xs xl d 78 [zR (mR m 577 a0)] m (fun r m2 => r = .inl none ∧ Q (.inl none) m2)))) ∧ (¬ ((mI m 581 a0) ≤ a1) → (29 ≤ mC m (mR m 580 a0) ∧ mC m (mR m 580 a0) < 43) ∧ (0 ≤ a1 ∧ a1 < mN m (mR m 580 a0)) ∧ (mC m (mO m (mR m 580 a0) (Int.toNat a1)) = 7) ∧ (((mI m 399 (mO m (mR m 580 a0) (Int.toNat a1))) ≠ 0 → zW xs xl d cX9_passTick 9 (none) false [] 16 [zR a0, zI (wr (a1 + 1))] [] m Q) ∧ (¬ ((mI m 399 (mO m (mR m 580 a0) (Int.toNat a1))) ≠ 0) → zC xs xl d 88 [zR a0, zR (mO m (mR m 580 a0) (Int.toNat a1))] m (fun r m8 => ∃ v9 : Int, r = .inl (some (zI v9)) ∧ (mC m8 a0 = 10) ∧ zC xs xl d 89 [zR a0, zI a1, zI v9] m8 (fun r m10 => r = .inl none ∧ zW xs xl d cX9_passTick 9 (none) false [] 16 [zR a0, zI (wr (a1 + 1))] [] m10 Q))))))) : zW xs xl d cX9_passTick 9 (none) false [] 16 [zR a0, zI a1] [] m Q := by
  refine (zq_iload_n dX9_passTick_16 rfl).mpr ?_
  refine (zq_aload_n dX9_passTick_17 rfl).mpr ?_
  obtain ⟨g1, h⟩ := h
  refine (zq_getI2 (f := 581) (v := (mI m 581 a0)) dX9_passTick_18 fl_9_35 (by decide) rfl rfl (by first | rfl | simp only [zm_Is, zm_Rs, zm_As, zm_Os, zm_In0, zm_Rn0])).mpr ⟨g1, ?_⟩
  refine (zq_icmp_ge (t := 57) dX9_passTick_21 rfl).mpr ⟨fun c => ?_, fun c => ?_⟩
  · replace h := h.1 c
    refine (zq_aload_n dX9_passTick_57 rfl).mpr ?_
    refine (zq_getI2 (f := 576) (v := (mI m 576 a0)) dX9_passTick_58 fl_9_9 (by decide) rfl rfl (by first | rfl | simp only [zm_Is, zm_Rs, zm_As, zm_Os, zm_In0, zm_Rn0])).mpr ⟨g1, ?_⟩
    refine (zq_iconst (v := 5) dX9_passTick_61 (by decide)).mpr ?_
    refine (zq_irem dX9_passTick_62).mpr ⟨by decide, ?_⟩
    refine (zq_if_ne (t := 73) dX9_passTick_63 rfl).mpr ⟨fun c => ?_, fun c => ?_⟩
    · replace h := h.1 c
      exact (zq_ret dX9_passTick_73 rfl).mpr h
    · replace h := h.2 c
      refine (zq_aload_n dX9_passTick_66 rfl).mpr ?_
      refine (zq_getR2 (f := 577) (v := (mR m 577 a0)) dX9_passTick_67 fl_9_18 (by decide) rfl rfl (by first | rfl | simp only [zm_Is, zm_Rs, zm_As, zm_Os, zm_In0, zm_Rn0])).mpr ⟨g1, ?_⟩
      obtain ⟨g4, h⟩ := h
      refine zq_virtualV (n := 0) dX9_passTick_70 mr_9_65 zn_78 rfl rfl rfl (zrcv_R zo_78 (by decide) g4) (Nat.le_of_ble_eq_true rfl) ?_
      refine h.mono (fun r m2 h => ?_)
      obtain ⟨rfl, h⟩ := h
      refine ⟨rfl, ?_⟩
      exact (zq_ret dX9_passTick_73 rfl).mpr h
  · replace h := h.2 c
    refine (zq_aload_n dX9_passTick_24 rfl).mpr ?_
    refine (zq_getR2 (f := 580) (v := (mR m 580 a0)) dX9_passTick_25 fl_9_31 (by decide) rfl rfl (by first | rfl | simp only [zm_Is, zm_Rs, zm_As, zm_Os, zm_In0, zm_Rn0])).mpr ⟨g1, ?_⟩
    refine (zq_iload_n dX9_passTick_28 rfl).mpr ?_
    obtain ⟨g5, h⟩ := h
    obtain ⟨g6, h⟩ := h
    refine (zq_aald2 (v := (mO m (mR m 580 a0) (Int.toNat a1))) dX9_passTick_29 (by first | rfl | simp only [zm_Is, zm_Rs, zm_As, zm_Os, zm_In0, zm_Rn0])).mpr ⟨⟨g5.1, g5.2, g6⟩, ?_⟩
    obtain ⟨g7, h⟩ := h
    refine (zq_getI2 (f := 399) (v := (mI m 399 (mO m (mR m 580 a0) (Int.toNat a1)))) dX9_passTick_30 fl_9_53 (by decide) rfl rfl (by first | rfl | simp only [zm_Is, zm_Rs, zm_As, zm_Os, zm_In0, zm_Rn0])).mpr ⟨g7, ?_⟩
    refine (zq_if_ne (t := 51) dX9_passTick_33 rfl).mpr ⟨fun c => ?_, fun c => ?_⟩
    · replace h := h.1 c
      refine (zq_iinc (l := [zR a0, zI (wr (a1 + 1))]) dX9_passTick_51 rfl rfl).mpr ?_
      refine (zq_goto (t := 16) dX9_passTick_54 rfl).mpr ?_
      exact h
    · replace h := h.2 c
      refine (zq_aload_n dX9_passTick_36 rfl).mpr ?_
      refine (zq_iload_n dX9_passTick_37 rfl).mpr ?_
      refine (zq_aload_n dX9_passTick_38 rfl).mpr ?_
      refine (zq_aload_n dX9_passTick_39 rfl).mpr ?_
      refine (zq_getR2 (f := 580) (v := (mR m 580 a0)) dX9_passTick_40 fl_9_31 (by decide) rfl rfl (by first | rfl | simp only [zm_Is, zm_Rs, zm_As, zm_Os, zm_In0, zm_Rn0])).mpr ⟨g1, ?_⟩
      refine (zq_iload_n dX9_passTick_43 rfl).mpr ?_
      refine (zq_aald2 (v := (mO m (mR m 580 a0) (Int.toNat a1))) dX9_passTick_44 (by first | rfl | simp only [zm_Is, zm_Rs, zm_As, zm_Os, zm_In0, zm_Rn0])).mpr ⟨⟨g5.1, g5.2, g6⟩, ?_⟩
      refine zq_virtualI (n := 1) dX9_passTick_45 mr_9_57 zn_88 rfl rfl rfl (zrcv_R zo_88 (by decide) g1) (Nat.le_of_ble_eq_true rfl) ?_
      refine h.mono (fun r m8 h => ?_)
      obtain ⟨v9, rfl, h⟩ := h
      refine ⟨_, rfl, ?_⟩
      obtain ⟨g12, h⟩ := h
      refine zq_virtualV (n := 2) dX9_passTick_48 mr_9_61 zn_89 rfl rfl rfl (zrcv_R zo_89 (by decide) g12) (Nat.le_of_ble_eq_true rfl) ?_
      refine h.mono (fun r m10 h => ?_)
      obtain ⟨rfl, h⟩ := h
      refine ⟨rfl, ?_⟩
      refine (zq_iinc (l := [zR a0, zI (wr (a1 + 1))]) dX9_passTick_51 rfl rfl).mpr ?_
      refine (zq_goto (t := 16) dX9_passTick_54 rfl).mpr ?_
      exact h
theorem bX9_grantFrames_0 {a0 : Nat} (h : zW xs xl d cX9_grantFrames 9 (none) false [] 4 [zR a0, zI 0, zI 0, zU, zU] [] m Q) : zC xs xl (d + 1) 86 [zR a0] m Q := by
  refine zk_86 ?_
  refine (zq_iconst (v := 0) dX9_grantFrames_0 (by decide)).mpr ?_
  refine (zq_istore_n (l := [zR a0, zI 0, zU, zU, zU]) dX9_grantFrames_1 (Nat.le_of_ble_eq_true rfl) rfl).mpr ?_
  refine (zq_iconst (v := 0) dX9_grantFrames_2 (by decide)).mpr ?_
  refine (zq_istore_n (l := [zR a0, zI 0, zI 0, zU, zU]) dX9_grantFrames_3 (Nat.le_of_ble_eq_true rfl) rfl).mpr ?_
  exact h
theorem bX9_grantFrames_4 {a0 : Nat} {a1 : Int} {a2 : Int} {a3 : zV} {a4 : zV} (h : (mC m a0 = 10) ∧ (((mI m 581 a0) ≤ a2 → Q (.inl none) m) ∧ (¬ ((mI m 581 a0) ≤ a2) → zC xs xl d 87 [zR a0, zI a1] m (fun r m2 => ∃ v3 : Int, r = .inl (some (zI v3)) ∧ ((0 ≤ v3 → (mC m2 a0 = 10) ∧ (29 ≤ mC m2 (mR m2 580 a0) ∧ mC m2 (mR m2 580 a0) < 43) ∧ (0 ≤ v3 ∧ v3 < mN m2 (mR m2 580 a0)) ∧ (mC m2 (mO m2 (mR m2 580 a0) (Int.toNat v3)) = 7) ∧ zC xs xl d 127 [zI (mI m2 397 (mO m2 (mR m2 580 a0) (Int.toNat v3))), zI 5] m2 (fun r m8 => ∃ v9 : Int, r = .inl (some (zI v9)) ∧ ((v9 = 0 → zW xs xl d cX9_grantFrames 9 (none) false [] 4 [zR a0, zI (bOr a1 (bShl 1 v3)), zI (wr (a2 + 1)), zI v3, zI (mI m2 397 (mO m2 (mR m2 580 a0) (Int.toNat v3)))] [] m8 Q) ∧ (¬ (v9 = 0) → (mC m8 a0 = 10) ∧ (mC m8 (mR m8 579 a0) = 20) ∧ (0 ≤ (mI m2 397 (mO m2 (mR m2 580 a0) (Int.toNat v3))) ∧ (mI m2 397 (mO m2 (mR m2 580 a0) (Int.toNat v3))) < mN m8 (mR m8 579 a0)) ∧ (((mA m8 (mR m8 579 a0) (Int.toNat (mI m2 397 (mO m2 (mR m2 580 a0) (Int.toNat v3))))) ≤ 0 → zW xs xl d cX9_grantFrames 9 (none) false [] 4 [zR a0, zI (bOr a1 (bShl 1 v3)), zI (wr (a2 + 1)), zI v3, zI (mI m2 397 (mO m2 (mR m2 580 a0) (Int.toNat v3)))] [] m8 Q) ∧ (¬ ((mA m8 (mR m8 579 a0) (Int.toNat (mI m2 397 (mO m2 (mR m2 580 a0) (Int.toNat v3))))) ≤ 0) → (29 ≤ mC m8 (mR m8 580 a0) ∧ mC m8 (mR m8 580 a0) < 43) ∧ (0 ≤ v3 ∧ v3 < mN m8 (mR m8 580 a0)) ∧ (mC m8 (mO m8 (mR m8 580 a0) (Int.toNat v3)) = 7) ∧ zC xs xl d 67 [zR (mO m8 (mR m8 580 a0) (Int.toNat v3)), zI (mI m2 397 (mO m2 (mR m2 580 a0) (Int.toNat v3)))] (sA m8 (mR m8 579 a0) (Int.toNat (mI m2 397 (mO m2 (mR m2 580 a0) (Int.toNat v3)))) (wr ((mA m8 (mR m8 579 a0) (Int.toNat (mI m2 397 (mO m2 (mR m2 580 a0) (Int.toNat v3))))) - 1))) (fun r m15 => r = .inl none ∧ zW xs xl d cX9_grantFrames 9 (none) false [] 4 [zR a0, zI (bOr a1 (bShl 1 v3)), zI (wr (a2 + 1)), zI v3, zI (mI m2 397 (mO m2 (mR m2 580 a0) (Int.toNat v3)))] [] m15 Q))))))) ∧ (¬ (0 ≤ v3) → Q (.inl none) m2)))))) : zW xs xl d cX9_grantFrames 9 (none) false [] 4 [zR a0, zI a1, zI a2, a3, a4] [] m Q := by
  refine (zq_iload_n dX9_grantFrames_4 rfl).mpr ?_
  refine (zq_aload_n dX9_grantFrames_5 rfl).mpr ?_
  obtain ⟨g1, h⟩ := h
  refine (zq_getI2 (f := 581) (v := (mI m 581 a0)) dX9_grantFrames_6 fl_9_35 (by decide) rfl rfl (by first | rfl | simp only [zm_Is, zm_Rs, zm_As, zm_Os, zm_In0, zm_Rn0])).mpr ⟨g1, ?_⟩
  refine (zq_icmp_ge (t := 87) dX9_grantFrames_9 rfl).mpr ⟨fun c => ?_, fun c => ?_⟩
  · replace h := h.1 c
    exact (zq_ret dX9_grantFrames_87 rfl).mpr h
  · replace h := h.2 c
    refine (zq_aload_n dX9_grantFrames_12 rfl).mpr ?_
    refine (zq_iload_n dX9_grantFrames_13 rfl).mpr ?_
    refine zq_virtualI (n := 1) dX9_grantFrames_14 mr_9_68 zn_87 rfl rfl rfl (zrcv_R zo_87 (by decide) g1) (Nat.le_of_ble_eq_true rfl) ?_
    refine h.mono (fun r m2 h => ?_)
    obtain ⟨v3, rfl, h⟩ := h
    refine ⟨_, rfl, ?_⟩
    refine (zq_istore_n (l := [zR a0, zI a1, zI a2, zI v3, a4]) dX9_grantFrames_17 (Nat.le_of_ble_eq_true rfl) rfl).mpr ?_
    refine (zq_iload_n dX9_grantFrames_18 rfl).mpr ?_
    refine (zq_if_ge (t := 23) dX9_grantFrames_19 rfl).mpr ⟨fun c => ?_, fun c => ?_⟩
    · replace h := h.1 c
      refine (zq_iload_n dX9_grantFrames_23 rfl).mpr ?_
      refine (zq_iconst (v := 1) dX9_grantFrames_24 (by decide)).mpr ?_
      refine (zq_iload_n dX9_grantFrames_25 rfl).mpr ?_
      refine (zq_ishl dX9_grantFrames_26).mpr ?_
      refine (zq_ior dX9_grantFrames_27).mpr ?_
      refine (zq_istore_n (l := [zR a0, zI (bOr a1 (bShl 1 v3)), zI a2, zI v3, a4]) dX9_grantFrames_28 (Nat.le_of_ble_eq_true rfl) rfl).mpr ?_
      refine (zq_aload_n dX9_grantFrames_29 rfl).mpr ?_
      obtain ⟨g4, h⟩ := h
      refine (zq_getR2 (f := 580) (v := (mR m2 580 a0)) dX9_grantFrames_30 fl_9_31 (by decide) rfl rfl (by first | rfl | simp only [zm_Is, zm_Rs, zm_As, zm_Os, zm_In0, zm_Rn0])).mpr ⟨g4, ?_⟩
      refine (zq_iload_n dX9_grantFrames_33 rfl).mpr ?_
      obtain ⟨g5, h⟩ := h
      obtain ⟨g6, h⟩ := h
      refine (zq_aald2 (v := (mO m2 (mR m2 580 a0) (Int.toNat v3))) dX9_grantFrames_34 (by first | rfl | simp only [zm_Is, zm_Rs, zm_As, zm_Os, zm_In0, zm_Rn0])).mpr ⟨⟨g5.1, g5.2, g6⟩, ?_⟩
      obtain ⟨g7, h⟩ := h
      refine (zq_getI2 (f := 397) (v := (mI m2 397 (mO m2 (mR m2 580 a0) (Int.toNat v3)))) dX9_grantFrames_35 fl_9_72 (by decide) rfl rfl (by first | rfl | simp only [zm_Is, zm_Rs, zm_As, zm_Os, zm_In0, zm_Rn0])).mpr ⟨g7, ?_⟩
      refine (zq_istore (l := [zR a0, zI (bOr a1 (bShl 1 v3)), zI a2, zI v3, zI (mI m2 397 (mO m2 (mR m2 580 a0) (Int.toNat v3)))]) dX9_grantFrames_38 (Nat.le_of_ble_eq_true rfl) rfl).mpr ?_
      refine (zq_iload dX9_grantFrames_40 rfl).mpr ?_
      refine (zq_iconst (v := 5) dX9_grantFrames_42 (by decide)).mpr ?_
      refine zq_staticI (n := 2) dX9_grantFrames_43 mr_9_75 zn_127 rfl rfl (Nat.le_of_ble_eq_true rfl) (Nat.le_of_ble_eq_true rfl) ?_
      refine h.mono (fun r m8 h => ?_)
      obtain ⟨v9, rfl, h⟩ := h
      refine ⟨_, rfl, ?_⟩
      refine (zq_if_eq (t := 81) dX9_grantFrames_46 rfl).mpr ⟨fun c => ?_, fun c => ?_⟩
      · replace h := h.1 c
        refine (zq_iinc (l := [zR a0, zI (bOr a1 (bShl 1 v3)), zI (wr (a2 + 1)), zI v3, zI (mI m2 397 (mO m2 (mR m2 580 a0) (Int.toNat v3)))]) dX9_grantFrames_81 rfl rfl).mpr ?_
        refine (zq_goto (t := 4) dX9_grantFrames_84 rfl).mpr ?_
        exact h
      · replace h := h.2 c
        refine (zq_aload_n dX9_grantFrames_49 rfl).mpr ?_
        obtain ⟨g10, h⟩ := h
        refine (zq_getR2 (f := 579) (v := (mR m8 579 a0)) dX9_grantFrames_50 fl_9_26 (by decide) rfl rfl (by first | rfl | simp only [zm_Is, zm_Rs, zm_As, zm_Os, zm_In0, zm_Rn0])).mpr ⟨g10, ?_⟩
        refine (zq_iload dX9_grantFrames_53 rfl).mpr ?_
        obtain ⟨g11, h⟩ := h
        obtain ⟨g12, h⟩ := h
        refine (zq_iald2 (v := (mA m8 (mR m8 579 a0) (Int.toNat (mI m2 397 (mO m2 (mR m2 580 a0) (Int.toNat v3)))))) dX9_grantFrames_55 (by first | rfl | simp only [zm_Is, zm_Rs, zm_As, zm_Os, zm_In0, zm_Rn0])).mpr ⟨⟨g11, g12⟩, ?_⟩
        refine (zq_if_le (t := 81) dX9_grantFrames_56 rfl).mpr ⟨fun c => ?_, fun c => ?_⟩
        · replace h := h.1 c
          refine (zq_iinc (l := [zR a0, zI (bOr a1 (bShl 1 v3)), zI (wr (a2 + 1)), zI v3, zI (mI m2 397 (mO m2 (mR m2 580 a0) (Int.toNat v3)))]) dX9_grantFrames_81 rfl rfl).mpr ?_
          refine (zq_goto (t := 4) dX9_grantFrames_84 rfl).mpr ?_
          exact h
        · replace h := h.2 c
          refine (zq_aload_n dX9_grantFrames_59 rfl).mpr ?_
          refine (zq_getR2 (f := 579) (v := (mR m8 579 a0)) dX9_grantFrames_60 fl_9_26 (by decide) rfl rfl (by first | rfl | simp only [zm_Is, zm_Rs, zm_As, zm_Os, zm_In0, zm_Rn0])).mpr ⟨g10, ?_⟩
          refine (zq_iload dX9_grantFrames_63 rfl).mpr ?_
          refine (zq_dup2IR dX9_grantFrames_65).mpr ?_
          refine (zq_iald2 (v := (mA m8 (mR m8 579 a0) (Int.toNat (mI m2 397 (mO m2 (mR m2 580 a0) (Int.toNat v3)))))) dX9_grantFrames_66 (by first | rfl | simp only [zm_Is, zm_Rs, zm_As, zm_Os, zm_In0, zm_Rn0])).mpr ⟨⟨g11, g12⟩, ?_⟩
          refine (zq_iconst (v := 1) dX9_grantFrames_67 (by decide)).mpr ?_
          refine (zq_isub dX9_grantFrames_68).mpr ?_
          refine (zq_iast dX9_grantFrames_69).mpr ⟨⟨g11, g12⟩, ?_⟩
          refine (zq_aload_n dX9_grantFrames_70 rfl).mpr ?_
          refine (zq_getR2 (f := 580) (v := (mR m8 580 a0)) dX9_grantFrames_71 fl_9_31 (by decide) rfl rfl (by first | rfl | simp only [zm_Is, zm_Rs, zm_As, zm_Os, zm_In0, zm_Rn0])).mpr ⟨g10, ?_⟩
          refine (zq_iload_n dX9_grantFrames_74 rfl).mpr ?_
          obtain ⟨g13, h⟩ := h
          obtain ⟨g14, h⟩ := h
          refine (zq_aald2 (v := (mO m8 (mR m8 580 a0) (Int.toNat v3))) dX9_grantFrames_75 (by first | rfl | simp only [zm_Is, zm_Rs, zm_As, zm_Os, zm_In0, zm_Rn0])).mpr ⟨⟨g13.1, g13.2, g14⟩, ?_⟩
          refine (zq_iload dX9_grantFrames_76 rfl).mpr ?_
          obtain ⟨g17, h⟩ := h
          refine zq_virtualV (n := 1) dX9_grantFrames_78 mr_9_79 zn_67 rfl rfl rfl (zrcv_R zo_67 (by decide) g17) (Nat.le_of_ble_eq_true rfl) ?_
          refine h.mono (fun r m15 h => ?_)
          obtain ⟨rfl, h⟩ := h
          refine ⟨rfl, ?_⟩
          refine (zq_iinc (l := [zR a0, zI (bOr a1 (bShl 1 v3)), zI (wr (a2 + 1)), zI v3, zI (mI m2 397 (mO m2 (mR m2 580 a0) (Int.toNat v3)))]) dX9_grantFrames_81 rfl rfl).mpr ?_
          refine (zq_goto (t := 4) dX9_grantFrames_84 rfl).mpr ?_
          exact h
    · replace h := h.2 c
      exact (zq_ret dX9_grantFrames_22 rfl).mpr h
theorem bX9_longestWaiting_0 {a0 : Nat} {a1 : Int} (h : zW xs xl d cX9_longestWaiting 9 (some .int) false [] 4 [zR a0, zI a1, zI (-1), zI 0, zU] [] m Q) : zC xs xl (d + 1) 87 [zR a0, zI a1] m Q := by
  refine zk_87 ?_
  refine (zq_iconst (v := (-1)) dX9_longestWaiting_0 (by decide)).mpr ?_
  refine (zq_istore_n (l := [zR a0, zI a1, zI (-1), zU, zU]) dX9_longestWaiting_1 (Nat.le_of_ble_eq_true rfl) rfl).mpr ?_
  refine (zq_iconst (v := 0) dX9_longestWaiting_2 (by decide)).mpr ?_
  refine (zq_istore_n (l := [zR a0, zI a1, zI (-1), zI 0, zU]) dX9_longestWaiting_3 (Nat.le_of_ble_eq_true rfl) rfl).mpr ?_
  exact h
theorem bX9_longestWaiting_4 {a0 : Nat} {a1 : Int} {a2 : Int} {a3 : Int} {a4 : zV} (h : (mC m a0 = 10) ∧ (((mI m 581 a0) ≤ a3 → Q (.inl (some (zI a2))) m) ∧ (¬ ((mI m 581 a0) ≤ a3) → ((a2 < 0 → zW xs xl d cX9_longestWaiting 9 (some .int) false [] 42 [zR a0, zI a1, zI a2, zI a3, a4] [zI 1] m Q) ∧ (¬ (a2 < 0) → (29 ≤ mC m (mR m 580 a0) ∧ mC m (mR m 580 a0) < 43) ∧ (0 ≤ a3 ∧ a3 < mN m (mR m 580 a0)) ∧ (mC m (mO m (mR m 580 a0) (Int.toNat a3)) = 7) ∧ (0 ≤ a2 ∧ a2 < mN m (mR m 580 a0)) ∧ (mC m (mO m (mR m 580 a0) (Int.toNat a2)) = 7) ∧ (((mI m 398 (mO m (mR m 580 a0) (Int.toNat a2))) ≤ (mI m 398 (mO m (mR m 580 a0) (Int.toNat a3))) → zW xs xl d cX9_longestWaiting 9 (some .int) false [] 42 [zR a0, zI a1, zI a2, zI a3, a4] [zI 0] m Q) ∧ (¬ ((mI m 398 (mO m (mR m 580 a0) (Int.toNat a2))) ≤ (mI m 398 (mO m (mR m 580 a0) (Int.toNat a3)))) → zW xs xl d cX9_longestWaiting 9 (some .int) false [] 42 [zR a0, zI a1, zI a2, zI a3, a4] [zI 1] m Q))))))) : zW xs xl d cX9_longestWaiting 9 (some .int) false [] 4 [zR a0, zI a1, zI a2, zI a3, a4] [] m Q := by
  refine (zq_iload_n dX9_longestWaiting_4 rfl).mpr ?_
  refine (zq_aload_n dX9_longestWaiting_5 rfl).mpr ?_
  obtain ⟨g1, h⟩ := h
  refine (zq_getI2 (f := 581) (v := (mI m 581 a0)) dX9_longestWaiting_6 fl_9_35 (by decide) rfl rfl (by first | rfl | simp only [zm_Is, zm_Rs, zm_As, zm_Os, zm_In0, zm_Rn0])).mpr ⟨g1, ?_⟩
  refine (zq_icmp_ge (t := 77) dX9_longestWaiting_9 rfl).mpr ⟨fun c => ?_, fun c => ?_⟩
  · replace h := h.1 c
    refine (zq_iload_n dX9_longestWaiting_77 rfl).mpr ?_
    exact (zq_iret dX9_longestWaiting_78 rfl).mpr ⟨trivial, h⟩
  · replace h := h.2 c
    refine (zq_iload_n dX9_longestWaiting_12 rfl).mpr ?_
    refine (zq_if_lt (t := 37) dX9_longestWaiting_13 rfl).mpr ⟨fun c => ?_, fun c => ?_⟩
    · replace h := h.1 c
      refine (zq_iconst (v := 1) dX9_longestWaiting_37 (by decide)).mpr ?_
      refine (zq_goto (t := 42) dX9_longestWaiting_38 rfl).mpr ?_
      exact h
    · replace h := h.2 c
      refine (zq_aload_n dX9_longestWaiting_16 rfl).mpr ?_
      refine (zq_getR2 (f := 580) (v := (mR m 580 a0)) dX9_longestWaiting_17 fl_9_31 (by decide) rfl rfl (by first | rfl | simp only [zm_Is, zm_Rs, zm_As, zm_Os, zm_In0, zm_Rn0])).mpr ⟨g1, ?_⟩
      refine (zq_iload_n dX9_longestWaiting_20 rfl).mpr ?_
      obtain ⟨g2, h⟩ := h
      obtain ⟨g3, h⟩ := h
      refine (zq_aald2 (v := (mO m (mR m 580 a0) (Int.toNat a3))) dX9_longestWaiting_21 (by first | rfl | simp only [zm_Is, zm_Rs, zm_As, zm_Os, zm_In0, zm_Rn0])).mpr ⟨⟨g2.1, g2.2, g3⟩, ?_⟩
      obtain ⟨g4, h⟩ := h
      refine (zq_getI2 (f := 398) (v := (mI m 398 (mO m (mR m 580 a0) (Int.toNat a3)))) dX9_longestWaiting_22 fl_9_83 (by decide) rfl rfl (by first | rfl | simp only [zm_Is, zm_Rs, zm_As, zm_Os, zm_In0, zm_Rn0])).mpr ⟨g4, ?_⟩
      refine (zq_aload_n dX9_longestWaiting_25 rfl).mpr ?_
      refine (zq_getR2 (f := 580) (v := (mR m 580 a0)) dX9_longestWaiting_26 fl_9_31 (by decide) rfl rfl (by first | rfl | simp only [zm_Is, zm_Rs, zm_As, zm_Os, zm_In0, zm_Rn0])).mpr ⟨g1, ?_⟩
      refine (zq_iload_n dX9_longestWaiting_29 rfl).mpr ?_
      obtain ⟨g5, h⟩ := h
      refine (zq_aald2 (v := (mO m (mR m 580 a0) (Int.toNat a2))) dX9_longestWaiting_30 (by first | rfl | simp only [zm_Is, zm_Rs, zm_As, zm_Os, zm_In0, zm_Rn0])).mpr ⟨⟨g2.1, g2.2, g5⟩, ?_⟩
      obtain ⟨g6, h⟩ := h
      refine (zq_getI2 (f := 398) (v := (mI m 398 (mO m (mR m 580 a0) (Int.toNat a2)))) dX9_longestWaiting_31 fl_9_83 (by decide) rfl rfl (by first | rfl | simp only [zm_Is, zm_Rs, zm_As, zm_Os, zm_In0, zm_Rn0])).mpr ⟨g6, ?_⟩
      refine (zq_icmp_ge (t := 41) dX9_longestWaiting_34 rfl).mpr ⟨fun c => ?_, fun c => ?_⟩
      · replace h := h.1 c
        refine (zq_iconst (v := 0) dX9_longestWaiting_41 (by decide)).mpr ?_
        exact h
      · replace h := h.2 c
        refine (zq_iconst (v := 1) dX9_longestWaiting_37 (by decide)).mpr ?_
        refine (zq_goto (t := 42) dX9_longestWaiting_38 rfl).mpr ?_
        exact h
theorem bX9_longestWaiting_42 {a0 : Nat} {a1 : Int} {a2 : Int} {a3 : Int} {a4 : zV} {s0 : Int} (h : (mC m a0 = 10) ∧ (29 ≤ mC m (mR m 580 a0) ∧ mC m (mR m 580 a0) < 43) ∧ (0 ≤ a3 ∧ a3 < mN m (mR m 580 a0)) ∧ (mC m (mO m (mR m 580 a0) (Int.toNat a3)) = 7) ∧ zC xs xl d 69 [zR (mO m (mR m 580 a0) (Int.toNat a3))] m (fun r m4 => ∃ v5 : Int, r = .inl (some (zI v5)) ∧ ((v5 = 0 → zW xs xl d cX9_longestWaiting 9 (some .int) false [] 4 [zR a0, zI a1, zI a2, zI (wr (a3 + 1)), zI s0] [] m4 Q) ∧ (¬ (v5 = 0) → (((bAnd a1 (bShl 1 a3)) ≠ 0 → zW xs xl d cX9_longestWaiting 9 (some .int) false [] 4 [zR a0, zI a1, zI a2, zI (wr (a3 + 1)), zI s0] [] m4 Q) ∧ (¬ ((bAnd a1 (bShl 1 a3)) ≠ 0) → ((s0 = 0 → zW xs xl d cX9_longestWaiting 9 (some .int) false [] 4 [zR a0, zI a1, zI a2, zI (wr (a3 + 1)), zI s0] [] m4 Q) ∧ (¬ (s0 = 0) → zW xs xl d cX9_longestWaiting 9 (some .int) false [] 4 [zR a0, zI a1, zI a3, zI (wr (a3 + 1)), zI s0] [] m4 Q)))))))) : zW xs xl d cX9_longestWaiting 9 (some .int) false [] 42 [zR a0, zI a1, zI a2, zI a3, a4] [zI s0] m Q := by
  refine (zq_istore (l := [zR a0, zI a1, zI a2, zI a3, zI s0]) dX9_longestWaiting_42 (Nat.le_of_ble_eq_true rfl) rfl).mpr ?_
  refine (zq_aload_n dX9_longestWaiting_44 rfl).mpr ?_
  obtain ⟨g1, h⟩ := h
  refine (zq_getR2 (f := 580) (v := (mR m 580 a0)) dX9_longestWaiting_45 fl_9_31 (by decide) rfl rfl (by first | rfl | simp only [zm_Is, zm_Rs, zm_As, zm_Os, zm_In0, zm_Rn0])).mpr ⟨g1, ?_⟩
  refine (zq_iload_n dX9_longestWaiting_48 rfl).mpr ?_
  obtain ⟨g2, h⟩ := h
  obtain ⟨g3, h⟩ := h
  refine (zq_aald2 (v := (mO m (mR m 580 a0) (Int.toNat a3))) dX9_longestWaiting_49 (by first | rfl | simp only [zm_Is, zm_Rs, zm_As, zm_Os, zm_In0, zm_Rn0])).mpr ⟨⟨g2.1, g2.2, g3⟩, ?_⟩
  obtain ⟨g6, h⟩ := h
  refine zq_virtualI (n := 0) dX9_longestWaiting_50 mr_9_86 zn_69 rfl rfl rfl (zrcv_R zo_69 (by decide) g6) (Nat.le_of_ble_eq_true rfl) ?_
  refine h.mono (fun r m4 h => ?_)
  obtain ⟨v5, rfl, h⟩ := h
  refine ⟨_, rfl, ?_⟩
  refine (zq_if_eq (t := 71) dX9_longestWaiting_53 rfl).mpr ⟨fun c => ?_, fun c => ?_⟩
  · replace h := h.1 c
    refine (zq_iinc (l := [zR a0, zI a1, zI a2, zI (wr (a3 + 1)), zI s0]) dX9_longestWaiting_71 rfl rfl).mpr ?_
    refine (zq_goto (t := 4) dX9_longestWaiting_74 rfl).mpr ?_
    exact h
  · replace h := h.2 c
    refine (zq_iload_n dX9_longestWaiting_56 rfl).mpr ?_
    refine (zq_iconst (v := 1) dX9_longestWaiting_57 (by decide)).mpr ?_
    refine (zq_iload_n dX9_longestWaiting_58 rfl).mpr ?_
    refine (zq_ishl dX9_longestWaiting_59).mpr ?_
    refine (zq_iand dX9_longestWaiting_60).mpr ?_
    refine (zq_if_ne (t := 71) dX9_longestWaiting_61 rfl).mpr ⟨fun c => ?_, fun c => ?_⟩
    · replace h := h.1 c
      refine (zq_iinc (l := [zR a0, zI a1, zI a2, zI (wr (a3 + 1)), zI s0]) dX9_longestWaiting_71 rfl rfl).mpr ?_
      refine (zq_goto (t := 4) dX9_longestWaiting_74 rfl).mpr ?_
      exact h
    · replace h := h.2 c
      refine (zq_iload dX9_longestWaiting_64 rfl).mpr ?_
      refine (zq_if_eq (t := 71) dX9_longestWaiting_66 rfl).mpr ⟨fun c => ?_, fun c => ?_⟩
      · replace h := h.1 c
        refine (zq_iinc (l := [zR a0, zI a1, zI a2, zI (wr (a3 + 1)), zI s0]) dX9_longestWaiting_71 rfl rfl).mpr ?_
        refine (zq_goto (t := 4) dX9_longestWaiting_74 rfl).mpr ?_
        exact h
      · replace h := h.2 c
        refine (zq_iload_n dX9_longestWaiting_69 rfl).mpr ?_
        refine (zq_istore_n (l := [zR a0, zI a1, zI a3, zI a3, zI s0]) dX9_longestWaiting_70 (Nat.le_of_ble_eq_true rfl) rfl).mpr ?_
        refine (zq_iinc (l := [zR a0, zI a1, zI a3, zI (wr (a3 + 1)), zI s0]) dX9_longestWaiting_71 rfl rfl).mpr ?_
        refine (zq_goto (t := 4) dX9_longestWaiting_74 rfl).mpr ?_
        exact h
theorem bX9_work_0 {a0 : Nat} {a1 : Nat} (h : (mC m a1 = 7) ∧ zC xs xl d 59 [zR a1] m (fun r m1 => ∃ v2 : Nat, r = .inl (some (zR v2)) ∧ ((v2 ≠ 0 → (mC m1 v2 = 1) ∧ (((mI m1 0 v2) = 0 → (mC m1 a0 = 10) ∧ zC xs xl d 90 [zR a0, zR a1, zI (mI m1 1 v2)] m1 (fun r m5 => ∃ v6 : Int, r = .inl (some (zI v6)) ∧ Q (.inl (some (zI v6))) m5)) ∧ ((mI m1 0 v2) ≠ 0 → (((mI m1 0 v2) = 1 → (mC m1 a0 = 10) ∧ zC xs xl d 91 [zR a0, zR a1, zI (mI m1 1 v2)] m1 (fun r m8 => ∃ v9 : Int, r = .inl (some (zI v9)) ∧ Q (.inl (some (zI v9))) m8)) ∧ ((mI m1 0 v2) ≠ 1 → (((mI m1 0 v2) = 2 → (mC m1 a0 = 10) ∧ zC xs xl d 92 [zR a0, zR a1, zI (mI m1 1 v2), zI (mI m1 2 v2)] m1 (fun r m11 => ∃ v12 : Int, r = .inl (some (zI v12)) ∧ Q (.inl (some (zI v12))) m11)) ∧ ((mI m1 0 v2) ≠ 2 → (((mI m1 0 v2) = 3 → (mC m1 a1 = 7) ∧ zC xs xl d 63 [zR a1, zR v2] m1 (fun r m14 => ∃ v15 : Int, r = .inl (some (zI v15)) ∧ Q (.inl (some (zI v15))) m14)) ∧ ((mI m1 0 v2) ≠ 3 → (((mI m1 0 v2) = 4 → (mC m1 a1 = 7) ∧ zC xs xl d 63 [zR a1, zR v2] m1 (fun r m17 => ∃ v18 : Int, r = .inl (some (zI v18)) ∧ Q (.inl (some (zI v18))) m17)) ∧ ((mI m1 0 v2) ≠ 4 → (((mI m1 0 v2) = 5 → (mC m1 a1 = 7) ∧ (mC m1 (mR m1 395 a1) = 3) ∧ zC xs xl d 26 [zR (mR m1 395 a1), zR v2] m1 (fun r m21 => ∃ v22 : Int, r = .inl (some (zI v22)) ∧ Q (.inl (some (zI v22))) m21)) ∧ ((mI m1 0 v2) ≠ 5 → (((mI m1 0 v2) = 6 → (mC m1 a1 = 7) ∧ zC xs xl d 63 [zR a1, zR v2] m1 (fun r m24 => ∃ v25 : Int, r = .inl (some (zI v25)) ∧ Q (.inl (some (zI v25))) m24)) ∧ ((mI m1 0 v2) ≠ 6 → (((mI m1 0 v2) = 7 → (mC m1 a1 = 7) ∧ zC xs xl d 64 [zR a1] m1 (fun r m27 => ∃ v28 : Int, r = .inl (some (zI v28)) ∧ Q (.inl (some (zI v28))) m27)) ∧ ((mI m1 0 v2) ≠ 7 → (mC m1 a1 = 7) ∧ zC xs xl d 63 [zR a1, zR v2] m1 (fun r m30 => ∃ v31 : Int, r = .inl (some (zI v31)) ∧ Q (.inl (some (zI v31))) m30)))))))))))))))))) ∧ (¬ (v2 ≠ 0) → Q (.inl (some (zI 0))) m1)))) : zC xs xl (d + 1) 88 [zR a0, zR a1] m Q := by
  refine zk_88 ?_
  refine (zq_aload_n dX9_work_0 rfl).mpr ?_
  obtain ⟨g3, h⟩ := h
  refine zq_virtualR (n := 0) dX9_work_1 mr_9_90 zn_59 rfl rfl rfl (zrcv_R zo_59 (by decide) g3) (Nat.le_of_ble_eq_true rfl) ?_
  refine h.mono (fun r m1 h => ?_)
  obtain ⟨v2, rfl, h⟩ := h
  refine ⟨_, rfl, ?_⟩
  refine (zq_astore_n (l := [zR a0, zR a1, zR v2]) dX9_work_4 (Nat.le_of_ble_eq_true rfl) rfl).mpr ?_
  refine (zq_aload_n dX9_work_5 rfl).mpr ?_
  refine (zq_ifnonnull (t := 11) dX9_work_6 rfl).mpr ⟨fun c => ?_, fun c => ?_⟩
  · replace h := h.1 c
    refine (zq_aload_n dX9_work_11 rfl).mpr ?_
    obtain ⟨g4, h⟩ := h
    refine (zq_getI2 (f := 0) (v := (mI m1 0 v2)) dX9_work_12 fl_9_94 (by decide) rfl rfl (by first | rfl | simp only [zm_Is, zm_Rs, zm_As, zm_Os, zm_In0, zm_Rn0])).mpr ⟨g4, ?_⟩
    refine (zq_tab (td := 108) (r := [60, 70, 80, 108, 108, 94, 108, 103]) dX9_work_15 rfl rfl rfl).mpr ?_
    refine ⟨fun c => ?_, fun c => ?_⟩
    · replace h := h.1 c
      refine (zq_aload_n dX9_work_60 rfl).mpr ?_
      refine (zq_aload_n dX9_work_61 rfl).mpr ?_
      refine (zq_aload_n dX9_work_62 rfl).mpr ?_
      refine (zq_getI2 (f := 1) (v := (mI m1 1 v2)) dX9_work_63 fl_9_99 (by decide) rfl rfl (by first | rfl | simp only [zm_Is, zm_Rs, zm_As, zm_Os, zm_In0, zm_Rn0])).mpr ⟨g4, ?_⟩
      obtain ⟨g7, h⟩ := h
      refine zq_virtualI (n := 2) dX9_work_66 mr_9_102 zn_90 rfl rfl rfl (zrcv_R zo_90 (by decide) g7) (Nat.le_of_ble_eq_true rfl) ?_
      refine h.mono (fun r m5 h => ?_)
      obtain ⟨v6, rfl, h⟩ := h
      refine ⟨_, rfl, ?_⟩
      exact (zq_iret dX9_work_69 rfl).mpr ⟨trivial, h⟩
    · replace h := h.2 c
      refine ⟨fun c => ?_, fun c => ?_⟩
      · replace h := h.1 c
        refine (zq_aload_n dX9_work_70 rfl).mpr ?_
        refine (zq_aload_n dX9_work_71 rfl).mpr ?_
        refine (zq_aload_n dX9_work_72 rfl).mpr ?_
        refine (zq_getI2 (f := 1) (v := (mI m1 1 v2)) dX9_work_73 fl_9_99 (by decide) rfl rfl (by first | rfl | simp only [zm_Is, zm_Rs, zm_As, zm_Os, zm_In0, zm_Rn0])).mpr ⟨g4, ?_⟩
        obtain ⟨g10, h⟩ := h
        refine zq_virtualI (n := 2) dX9_work_76 mr_9_106 zn_91 rfl rfl rfl (zrcv_R zo_91 (by decide) g10) (Nat.le_of_ble_eq_true rfl) ?_
        refine h.mono (fun r m8 h => ?_)
        obtain ⟨v9, rfl, h⟩ := h
        refine ⟨_, rfl, ?_⟩
        exact (zq_iret dX9_work_79 rfl).mpr ⟨trivial, h⟩
      · replace h := h.2 c
        refine ⟨fun c => ?_, fun c => ?_⟩
        · replace h := h.1 c
          refine (zq_aload_n dX9_work_80 rfl).mpr ?_
          refine (zq_aload_n dX9_work_81 rfl).mpr ?_
          refine (zq_aload_n dX9_work_82 rfl).mpr ?_
          refine (zq_getI2 (f := 1) (v := (mI m1 1 v2)) dX9_work_83 fl_9_99 (by decide) rfl rfl (by first | rfl | simp only [zm_Is, zm_Rs, zm_As, zm_Os, zm_In0, zm_Rn0])).mpr ⟨g4, ?_⟩
          refine (zq_aload_n dX9_work_86 rfl).mpr ?_
          refine (zq_getI2 (f := 2) (v := (mI m1 2 v2)) dX9_work_87 fl_9_109 (by decide) rfl rfl (by first | rfl | simp only [zm_Is, zm_Rs, zm_As, zm_Os, zm_In0, zm_Rn0])).mpr ⟨g4, ?_⟩
          obtain ⟨g13, h⟩ := h
          refine zq_virtualI (n := 3) dX9_work_90 mr_9_112 zn_92 rfl rfl rfl (zrcv_R zo_92 (by decide) g13) (Nat.le_of_ble_eq_true rfl) ?_
          refine h.mono (fun r m11 h => ?_)
          obtain ⟨v12, rfl, h⟩ := h
          refine ⟨_, rfl, ?_⟩
          exact (zq_iret dX9_work_93 rfl).mpr ⟨trivial, h⟩
        · replace h := h.2 c
          refine ⟨fun c => ?_, fun c => ?_⟩
          · replace h := h.1 c
            refine (zq_aload_n dX9_work_108 rfl).mpr ?_
            refine (zq_aload_n dX9_work_109 rfl).mpr ?_
            obtain ⟨g16, h⟩ := h
            refine zq_virtualI (n := 1) dX9_work_110 mr_9_130 zn_63 rfl rfl rfl (zrcv_R zo_63 (by decide) g16) (Nat.le_of_ble_eq_true rfl) ?_
            refine h.mono (fun r m14 h => ?_)
            obtain ⟨v15, rfl, h⟩ := h
            refine ⟨_, rfl, ?_⟩
            exact (zq_iret dX9_work_113 rfl).mpr ⟨trivial, h⟩
          · replace h := h.2 c
            refine ⟨fun c => ?_, fun c => ?_⟩
            · replace h := h.1 c
              refine (zq_aload_n dX9_work_108 rfl).mpr ?_
              refine (zq_aload_n dX9_work_109 rfl).mpr ?_
              obtain ⟨g19, h⟩ := h
              refine zq_virtualI (n := 1) dX9_work_110 mr_9_130 zn_63 rfl rfl rfl (zrcv_R zo_63 (by decide) g19) (Nat.le_of_ble_eq_true rfl) ?_
              refine h.mono (fun r m17 h => ?_)
              obtain ⟨v18, rfl, h⟩ := h
              refine ⟨_, rfl, ?_⟩
              exact (zq_iret dX9_work_113 rfl).mpr ⟨trivial, h⟩
            · replace h := h.2 c
              refine ⟨fun c => ?_, fun c => ?_⟩
              · replace h := h.1 c
                refine (zq_aload_n dX9_work_94 rfl).mpr ?_
                obtain ⟨g20, h⟩ := h
                refine (zq_getR2 (f := 395) (v := (mR m1 395 a1)) dX9_work_95 fl_9_116 (by decide) rfl rfl (by first | rfl | simp only [zm_Is, zm_Rs, zm_As, zm_Os, zm_In0, zm_Rn0])).mpr ⟨g20, ?_⟩
                refine (zq_aload_n dX9_work_98 rfl).mpr ?_
                obtain ⟨g23, h⟩ := h
                refine zq_virtualI (n := 1) dX9_work_99 mr_9_120 zn_26 rfl rfl rfl (zrcv_R zo_26 (by decide) g23) (Nat.le_of_ble_eq_true rfl) ?_
                refine h.mono (fun r m21 h => ?_)
                obtain ⟨v22, rfl, h⟩ := h
                refine ⟨_, rfl, ?_⟩
                exact (zq_iret dX9_work_102 rfl).mpr ⟨trivial, h⟩
              · replace h := h.2 c
                refine ⟨fun c => ?_, fun c => ?_⟩
                · replace h := h.1 c
                  refine (zq_aload_n dX9_work_108 rfl).mpr ?_
                  refine (zq_aload_n dX9_work_109 rfl).mpr ?_
                  obtain ⟨g26, h⟩ := h
                  refine zq_virtualI (n := 1) dX9_work_110 mr_9_130 zn_63 rfl rfl rfl (zrcv_R zo_63 (by decide) g26) (Nat.le_of_ble_eq_true rfl) ?_
                  refine h.mono (fun r m24 h => ?_)
                  obtain ⟨v25, rfl, h⟩ := h
                  refine ⟨_, rfl, ?_⟩
                  exact (zq_iret dX9_work_113 rfl).mpr ⟨trivial, h⟩
                · replace h := h.2 c
                  refine ⟨fun c => ?_, fun c => ?_⟩
                  · replace h := h.1 c
                    refine (zq_aload_n dX9_work_103 rfl).mpr ?_
                    obtain ⟨g29, h⟩ := h
                    refine zq_virtualI (n := 0) dX9_work_104 mr_9_126 zn_64 rfl rfl rfl (zrcv_R zo_64 (by decide) g29) (Nat.le_of_ble_eq_true rfl) ?_
                    refine h.mono (fun r m27 h => ?_)
                    obtain ⟨v28, rfl, h⟩ := h
                    refine ⟨_, rfl, ?_⟩
                    exact (zq_iret dX9_work_107 rfl).mpr ⟨trivial, h⟩
                  · replace h := h.2 c
                    refine (zq_aload_n dX9_work_108 rfl).mpr ?_
                    refine (zq_aload_n dX9_work_109 rfl).mpr ?_
                    obtain ⟨g32, h⟩ := h
                    refine zq_virtualI (n := 1) dX9_work_110 mr_9_130 zn_63 rfl rfl rfl (zrcv_R zo_63 (by decide) g32) (Nat.le_of_ble_eq_true rfl) ?_
                    refine h.mono (fun r m30 h => ?_)
                    obtain ⟨v31, rfl, h⟩ := h
                    refine ⟨_, rfl, ?_⟩
                    exact (zq_iret dX9_work_113 rfl).mpr ⟨trivial, h⟩
  · replace h := h.2 c
    refine (zq_iconst (v := 0) dX9_work_9 (by decide)).mpr ?_
    exact (zq_iret dX9_work_10 rfl).mpr ⟨trivial, h⟩
theorem bX9_settle_0 {a0 : Nat} {a1 : Int} {a2 : Int} (h : (mC m a0 = 10) ∧ (29 ≤ mC m (mR m 580 a0) ∧ mC m (mR m 580 a0) < 43) ∧ (0 ≤ a1 ∧ a1 < mN m (mR m 580 a0)) ∧ ((a2 ≠ 2 → ((a2 ≠ 1 → Q (.inl none) m) ∧ (¬ (a2 ≠ 1) → (mC m (mO m (mR m 580 a0) (Int.toNat a1)) = 7) ∧ zC xs xl d 60 [zR (mO m (mR m 580 a0) (Int.toNat a1))] m (fun r m4 => r = .inl none ∧ (mC m4 (mO m (mR m 580 a0) (Int.toNat a1)) = 7) ∧ zC xs xl d 59 [zR (mO m (mR m 580 a0) (Int.toNat a1))] m4 (fun r m7 => ∃ v8 : Nat, r = .inl (some (zR v8)) ∧ ((v8 ≠ 0 → Q (.inl none) m7) ∧ (¬ (v8 ≠ 0) → (mC m7 a0 = 10) ∧ zC xs xl d 93 [zR a0, zI a1] m7 (fun r m10 => r = .inl none ∧ Q (.inl none) m10)))))))) ∧ (¬ (a2 ≠ 2) → (mC m (mO m (mR m 580 a0) (Int.toNat a1)) = 7) ∧ zC xs xl d 61 [zR (mO m (mR m 580 a0) (Int.toNat a1))] m (fun r m13 => r = .inl none ∧ (mC m13 a0 = 10) ∧ Q (.inl none) (sI m13 584 a0 (wr ((mI m13 584 a0) + 1))))))) : zC xs xl (d + 1) 89 [zR a0, zI a1, zI a2] m Q := by
  refine zk_89 ?_
  refine (zq_aload_n dX9_settle_0 rfl).mpr ?_
  obtain ⟨g1, h⟩ := h
  refine (zq_getR2 (f := 580) (v := (mR m 580 a0)) dX9_settle_1 fl_9_31 (by decide) rfl rfl (by first | rfl | simp only [zm_Is, zm_Rs, zm_As, zm_Os, zm_In0, zm_Rn0])).mpr ⟨g1, ?_⟩
  refine (zq_iload_n dX9_settle_4 rfl).mpr ?_
  obtain ⟨g2, h⟩ := h
  obtain ⟨g3, h⟩ := h
  refine (zq_aald2 (v := (mO m (mR m 580 a0) (Int.toNat a1))) dX9_settle_5 (by first | rfl | simp only [zm_Is, zm_Rs, zm_As, zm_Os, zm_In0, zm_Rn0])).mpr ⟨⟨g2.1, g2.2, g3⟩, ?_⟩
  refine (zq_astore_n (l := [zR a0, zI a1, zI a2, zR (mO m (mR m 580 a0) (Int.toNat a1))]) dX9_settle_6 (Nat.le_of_ble_eq_true rfl) rfl).mpr ?_
  refine (zq_iload_n dX9_settle_7 rfl).mpr ?_
  refine (zq_iconst (v := 2) dX9_settle_8 (by decide)).mpr ?_
  refine (zq_icmp_ne (t := 29) dX9_settle_9 rfl).mpr ⟨fun c => ?_, fun c => ?_⟩
  · replace h := h.1 c
    refine (zq_iload_n dX9_settle_29 rfl).mpr ?_
    refine (zq_iconst (v := 1) dX9_settle_30 (by decide)).mpr ?_
    refine (zq_icmp_ne (t := 50) dX9_settle_31 rfl).mpr ⟨fun c => ?_, fun c => ?_⟩
    · replace h := h.1 c
      exact (zq_ret dX9_settle_50 rfl).mpr h
    · replace h := h.2 c
      refine (zq_aload_n dX9_settle_34 rfl).mpr ?_
      obtain ⟨g6, h⟩ := h
      refine zq_virtualV (n := 0) dX9_settle_35 mr_9_136 zn_60 rfl rfl rfl (zrcv_R zo_60 (by decide) g6) (Nat.le_of_ble_eq_true rfl) ?_
      refine h.mono (fun r m4 h => ?_)
      obtain ⟨rfl, h⟩ := h
      refine ⟨rfl, ?_⟩
      refine (zq_aload_n dX9_settle_38 rfl).mpr ?_
      obtain ⟨g9, h⟩ := h
      refine zq_virtualR (n := 0) dX9_settle_39 mr_9_90 zn_59 rfl rfl rfl (zrcv_R zo_59 (by decide) g9) (Nat.le_of_ble_eq_true rfl) ?_
      refine h.mono (fun r m7 h => ?_)
      obtain ⟨v8, rfl, h⟩ := h
      refine ⟨_, rfl, ?_⟩
      refine (zq_ifnonnull (t := 50) dX9_settle_42 rfl).mpr ⟨fun c => ?_, fun c => ?_⟩
      · replace h := h.1 c
        exact (zq_ret dX9_settle_50 rfl).mpr h
      · replace h := h.2 c
        refine (zq_aload_n dX9_settle_45 rfl).mpr ?_
        refine (zq_iload_n dX9_settle_46 rfl).mpr ?_
        obtain ⟨g12, h⟩ := h
        refine zq_virtualV (n := 1) dX9_settle_47 mr_9_139 zn_93 rfl rfl rfl (zrcv_R zo_93 (by decide) g12) (Nat.le_of_ble_eq_true rfl) ?_
        refine h.mono (fun r m10 h => ?_)
        obtain ⟨rfl, h⟩ := h
        refine ⟨rfl, ?_⟩
        exact (zq_ret dX9_settle_50 rfl).mpr h
  · replace h := h.2 c
    refine (zq_aload_n dX9_settle_12 rfl).mpr ?_
    obtain ⟨g15, h⟩ := h
    refine zq_virtualV (n := 0) dX9_settle_13 mr_9_133 zn_61 rfl rfl rfl (zrcv_R zo_61 (by decide) g15) (Nat.le_of_ble_eq_true rfl) ?_
    refine h.mono (fun r m13 h => ?_)
    obtain ⟨rfl, h⟩ := h
    refine ⟨rfl, ?_⟩
    refine (zq_aload_n dX9_settle_16 rfl).mpr ?_
    refine (zq_dupR dX9_settle_17).mpr ?_
    obtain ⟨g16, h⟩ := h
    refine (zq_getI2 (f := 584) (v := (mI m13 584 a0)) dX9_settle_18 fl_9_46 (by decide) rfl rfl (by first | rfl | simp only [zm_Is, zm_Rs, zm_As, zm_Os, zm_In0, zm_Rn0])).mpr ⟨g16, ?_⟩
    refine (zq_iconst (v := 1) dX9_settle_21 (by decide)).mpr ?_
    refine (zq_iadd dX9_settle_22).mpr ?_
    refine (zq_putI (f := 584) dX9_settle_23 fl_9_46 (by decide) rfl rfl rfl).mpr ⟨g16, ?_⟩
    refine (zq_goto (t := 50) dX9_settle_26 rfl).mpr ?_
    exact (zq_ret dX9_settle_50 rfl).mpr h
theorem bX9_takeFrame_0 {a0 : Nat} {a1 : Nat} {a2 : Int} (h : (mC m a1 = 7) ∧ zC xs xl d 65 [zR a1, zI a2] m (fun r m1 => ∃ v2 : Int, r = .inl (some (zI v2)) ∧ ((v2 = 0 → (mC m1 a1 = 7) ∧ zC xs xl d 69 [zR a1] m1 (fun r m4 => ∃ v5 : Int, r = .inl (some (zI v5)) ∧ ((v5 ≠ 0 → Q (.inl (some (zI 0))) m4) ∧ (¬ (v5 ≠ 0) → (mC m4 a0 = 10) ∧ (mC m4 a1 = 7) ∧ zC xs xl d 68 [zR a1, zI a2, zI (mI m4 576 a0), zI 0] m4 (fun r m8 => r = .inl none ∧ Q (.inl (some (zI 0))) m8))))) ∧ (¬ (v2 = 0) → Q (.inl (some (zI 1))) m1)))) : zC xs xl (d + 1) 90 [zR a0, zR a1, zI a2] m Q := by
  refine zk_90 ?_
  refine (zq_aload_n dX9_takeFrame_0 rfl).mpr ?_
  refine (zq_iload_n dX9_takeFrame_1 rfl).mpr ?_
  obtain ⟨g3, h⟩ := h
  refine zq_virtualI (n := 1) dX9_takeFrame_2 mr_9_142 zn_65 rfl rfl rfl (zrcv_R zo_65 (by decide) g3) (Nat.le_of_ble_eq_true rfl) ?_
  refine h.mono (fun r m1 h => ?_)
  obtain ⟨v2, rfl, h⟩ := h
  refine ⟨_, rfl, ?_⟩
  refine (zq_if_eq (t := 10) dX9_takeFrame_5 rfl).mpr ⟨fun c => ?_, fun c => ?_⟩
  · replace h := h.1 c
    refine (zq_aload_n dX9_takeFrame_10 rfl).mpr ?_
    obtain ⟨g6, h⟩ := h
    refine zq_virtualI (n := 0) dX9_takeFrame_11 mr_9_86 zn_69 rfl rfl rfl (zrcv_R zo_69 (by decide) g6) (Nat.le_of_ble_eq_true rfl) ?_
    refine h.mono (fun r m4 h => ?_)
    obtain ⟨v5, rfl, h⟩ := h
    refine ⟨_, rfl, ?_⟩
    refine (zq_if_ne (t := 27) dX9_takeFrame_14 rfl).mpr ⟨fun c => ?_, fun c => ?_⟩
    · replace h := h.1 c
      refine (zq_iconst (v := 0) dX9_takeFrame_27 (by decide)).mpr ?_
      exact (zq_iret dX9_takeFrame_28 rfl).mpr ⟨trivial, h⟩
    · replace h := h.2 c
      refine (zq_aload_n dX9_takeFrame_17 rfl).mpr ?_
      refine (zq_iload_n dX9_takeFrame_18 rfl).mpr ?_
      refine (zq_aload_n dX9_takeFrame_19 rfl).mpr ?_
      obtain ⟨g7, h⟩ := h
      refine (zq_getI2 (f := 576) (v := (mI m4 576 a0)) dX9_takeFrame_20 fl_9_9 (by decide) rfl rfl (by first | rfl | simp only [zm_Is, zm_Rs, zm_As, zm_Os, zm_In0, zm_Rn0])).mpr ⟨g7, ?_⟩
      refine (zq_iconst (v := 0) dX9_takeFrame_23 (by decide)).mpr ?_
      obtain ⟨g10, h⟩ := h
      refine zq_virtualV (n := 3) dX9_takeFrame_24 mr_9_146 zn_68 rfl rfl rfl (zrcv_R zo_68 (by decide) g10) (Nat.le_of_ble_eq_true rfl) ?_
      refine h.mono (fun r m8 h => ?_)
      obtain ⟨rfl, h⟩ := h
      refine ⟨rfl, ?_⟩
      refine (zq_iconst (v := 0) dX9_takeFrame_27 (by decide)).mpr ?_
      exact (zq_iret dX9_takeFrame_28 rfl).mpr ⟨trivial, h⟩
  · replace h := h.2 c
    refine (zq_iconst (v := 1) dX9_takeFrame_8 (by decide)).mpr ?_
    exact (zq_iret dX9_takeFrame_9 rfl).mpr ⟨trivial, h⟩
theorem bX9_giveFrame_0 {a0 : Nat} {a1 : Nat} {a2 : Int} (h : (mC m a1 = 7) ∧ zC xs xl d 65 [zR a1, zI a2] m (fun r m1 => ∃ v2 : Int, r = .inl (some (zI v2)) ∧ ((v2 = 0 → Q (.inl (some (zI 1))) m1) ∧ (¬ (v2 = 0) → zC xs xl d 127 [zI a2, zI 5] m1 (fun r m4 => ∃ v5 : Int, r = .inl (some (zI v5)) ∧ ((v5 = 0 → Q (.inl (some (zI 1))) m4) ∧ (¬ (v5 = 0) → (mC m4 a1 = 7) ∧ zC xs xl d 66 [zR a1, zI a2] m4 (fun r m6 => r = .inl none ∧ (mC m6 a0 = 10) ∧ (mC m6 (mR m6 579 a0) = 20) ∧ (0 ≤ a2 ∧ a2 < mN m6 (mR m6 579 a0)) ∧ Q (.inl (some (zI 1))) (sA m6 (mR m6 579 a0) (Int.toNat a2) (wr ((mA m6 (mR m6 579 a0) (Int.toNat a2)) + 1))))))))))) : zC xs xl (d + 1) 91 [zR a0, zR a1, zI a2] m Q := by
  refine zk_91 ?_
  refine (zq_aload_n dX9_giveFrame_0 rfl).mpr ?_
  refine (zq_iload_n dX9_giveFrame_1 rfl).mpr ?_
  obtain ⟨g3, h⟩ := h
  refine zq_virtualI (n := 1) dX9_giveFrame_2 mr_9_142 zn_65 rfl rfl rfl (zrcv_R zo_65 (by decide) g3) (Nat.le_of_ble_eq_true rfl) ?_
  refine h.mono (fun r m1 h => ?_)
  obtain ⟨v2, rfl, h⟩ := h
  refine ⟨_, rfl, ?_⟩
  refine (zq_if_eq (t := 31) dX9_giveFrame_5 rfl).mpr ⟨fun c => ?_, fun c => ?_⟩
  · replace h := h.1 c
    refine (zq_iconst (v := 1) dX9_giveFrame_31 (by decide)).mpr ?_
    exact (zq_iret dX9_giveFrame_32 rfl).mpr ⟨trivial, h⟩
  · replace h := h.2 c
    refine (zq_iload_n dX9_giveFrame_8 rfl).mpr ?_
    refine (zq_iconst (v := 5) dX9_giveFrame_9 (by decide)).mpr ?_
    refine zq_staticI (n := 2) dX9_giveFrame_10 mr_9_75 zn_127 rfl rfl (Nat.le_of_ble_eq_true rfl) (Nat.le_of_ble_eq_true rfl) ?_
    refine h.mono (fun r m4 h => ?_)
    obtain ⟨v5, rfl, h⟩ := h
    refine ⟨_, rfl, ?_⟩
    refine (zq_if_eq (t := 31) dX9_giveFrame_13 rfl).mpr ⟨fun c => ?_, fun c => ?_⟩
    · replace h := h.1 c
      refine (zq_iconst (v := 1) dX9_giveFrame_31 (by decide)).mpr ?_
      exact (zq_iret dX9_giveFrame_32 rfl).mpr ⟨trivial, h⟩
    · replace h := h.2 c
      refine (zq_aload_n dX9_giveFrame_16 rfl).mpr ?_
      refine (zq_iload_n dX9_giveFrame_17 rfl).mpr ?_
      obtain ⟨g8, h⟩ := h
      refine zq_virtualV (n := 1) dX9_giveFrame_18 mr_9_150 zn_66 rfl rfl rfl (zrcv_R zo_66 (by decide) g8) (Nat.le_of_ble_eq_true rfl) ?_
      refine h.mono (fun r m6 h => ?_)
      obtain ⟨rfl, h⟩ := h
      refine ⟨rfl, ?_⟩
      refine (zq_aload_n dX9_giveFrame_21 rfl).mpr ?_
      obtain ⟨g9, h⟩ := h
      refine (zq_getR2 (f := 579) (v := (mR m6 579 a0)) dX9_giveFrame_22 fl_9_26 (by decide) rfl rfl (by first | rfl | simp only [zm_Is, zm_Rs, zm_As, zm_Os, zm_In0, zm_Rn0])).mpr ⟨g9, ?_⟩
      refine (zq_iload_n dX9_giveFrame_25 rfl).mpr ?_
      refine (zq_dup2IR dX9_giveFrame_26).mpr ?_
      obtain ⟨g10, h⟩ := h
      obtain ⟨g11, h⟩ := h
      refine (zq_iald2 (v := (mA m6 (mR m6 579 a0) (Int.toNat a2))) dX9_giveFrame_27 (by first | rfl | simp only [zm_Is, zm_Rs, zm_As, zm_Os, zm_In0, zm_Rn0])).mpr ⟨⟨g10, g11⟩, ?_⟩
      refine (zq_iconst (v := 1) dX9_giveFrame_28 (by decide)).mpr ?_
      refine (zq_iadd dX9_giveFrame_29).mpr ?_
      refine (zq_iast dX9_giveFrame_30).mpr ⟨⟨g10, g11⟩, ?_⟩
      refine (zq_iconst (v := 1) dX9_giveFrame_31 (by decide)).mpr ?_
      exact (zq_iret dX9_giveFrame_32 rfl).mpr ⟨trivial, h⟩
theorem bX9_cutPiece_0 {a0 : Nat} {a1 : Nat} {a2 : Int} {a3 : Int} (h : (mC m a0 = 10) ∧ (mC m (mR m 577 a0) = 8) ∧ zC xs xl d 76 [zR (mR m 577 a0), zI a2, zI a3] m (fun r m2 => ∃ v3 : Int, r = .inl (some (zI v3)) ∧ ((0 ≤ v3 → (mC m2 a0 = 10) ∧ (mC m2 (mR m2 577 a0) = 8) ∧ (29 ≤ mC m2 (mR m2 448 (mR m2 577 a0)) ∧ mC m2 (mR m2 448 (mR m2 577 a0)) < 43) ∧ (0 ≤ v3 ∧ v3 < mN m2 (mR m2 448 (mR m2 577 a0))) ∧ (mC m2 (mO m2 (mR m2 448 (mR m2 577 a0)) (Int.toNat v3)) = 5) ∧ (mC m2 a1 = 7) ∧ zC xs xl d 62 [zR a1, zI a2, zI (mI m2 258 (mO m2 (mR m2 448 (mR m2 577 a0)) (Int.toNat v3)))] m2 (fun r m10 => r = .inl none ∧ (mC m10 a0 = 10) ∧ (mC m10 (mO m2 (mR m2 448 (mR m2 577 a0)) (Int.toNat v3)) = 5) ∧ zC xs xl d 39 [zR (mO m2 (mR m2 448 (mR m2 577 a0)) (Int.toNat v3)), zI a3] m10 (fun r m14 => ∃ v15 : Int, r = .inl (some (zI v15)) ∧ (mC m14 (mR m10 577 a0) = 8) ∧ zC xs xl d 77 [zR (mR m10 577 a0), zR (mO m2 (mR m2 448 (mR m2 577 a0)) (Int.toNat v3)), zI v15, zI a3] m14 (fun r m17 => r = .inl none ∧ Q (.inl (some (zI 1))) m17)))) ∧ (¬ (0 ≤ v3) → Q (.inl (some (zI 0))) m2)))) : zC xs xl (d + 1) 92 [zR a0, zR a1, zI a2, zI a3] m Q := by
  refine zk_92 ?_
  refine (zq_aload_n dX9_cutPiece_0 rfl).mpr ?_
  obtain ⟨g1, h⟩ := h
  refine (zq_getR2 (f := 577) (v := (mR m 577 a0)) dX9_cutPiece_1 fl_9_18 (by decide) rfl rfl (by first | rfl | simp only [zm_Is, zm_Rs, zm_As, zm_Os, zm_In0, zm_Rn0])).mpr ⟨g1, ?_⟩
  refine (zq_iload_n dX9_cutPiece_4 rfl).mpr ?_
  refine (zq_iload_n dX9_cutPiece_5 rfl).mpr ?_
  obtain ⟨g4, h⟩ := h
  refine zq_virtualI (n := 2) dX9_cutPiece_6 mr_9_153 zn_76 rfl rfl rfl (zrcv_R zo_76 (by decide) g4) (Nat.le_of_ble_eq_true rfl) ?_
  refine h.mono (fun r m2 h => ?_)
  obtain ⟨v3, rfl, h⟩ := h
  refine ⟨_, rfl, ?_⟩
  refine (zq_istore (l := [zR a0, zR a1, zI a2, zI a3, zI v3, zU]) dX9_cutPiece_9 (Nat.le_of_ble_eq_true rfl) rfl).mpr ?_
  refine (zq_iload dX9_cutPiece_11 rfl).mpr ?_
  refine (zq_if_ge (t := 18) dX9_cutPiece_13 rfl).mpr ⟨fun c => ?_, fun c => ?_⟩
  · replace h := h.1 c
    refine (zq_aload_n dX9_cutPiece_18 rfl).mpr ?_
    obtain ⟨g5, h⟩ := h
    refine (zq_getR2 (f := 577) (v := (mR m2 577 a0)) dX9_cutPiece_19 fl_9_18 (by decide) rfl rfl (by first | rfl | simp only [zm_Is, zm_Rs, zm_As, zm_Os, zm_In0, zm_Rn0])).mpr ⟨g5, ?_⟩
    obtain ⟨g6, h⟩ := h
    refine (zq_getR2 (f := 448) (v := (mR m2 448 (mR m2 577 a0))) dX9_cutPiece_22 fl_9_157 (by decide) rfl rfl (by first | rfl | simp only [zm_Is, zm_Rs, zm_As, zm_Os, zm_In0, zm_Rn0])).mpr ⟨g6, ?_⟩
    refine (zq_iload dX9_cutPiece_25 rfl).mpr ?_
    obtain ⟨g7, h⟩ := h
    obtain ⟨g8, h⟩ := h
    refine (zq_aald2 (v := (mO m2 (mR m2 448 (mR m2 577 a0)) (Int.toNat v3))) dX9_cutPiece_27 (by first | rfl | simp only [zm_Is, zm_Rs, zm_As, zm_Os, zm_In0, zm_Rn0])).mpr ⟨⟨g7.1, g7.2, g8⟩, ?_⟩
    refine (zq_astore (l := [zR a0, zR a1, zI a2, zI a3, zI v3, zR (mO m2 (mR m2 448 (mR m2 577 a0)) (Int.toNat v3))]) dX9_cutPiece_28 (Nat.le_of_ble_eq_true rfl) rfl).mpr ?_
    refine (zq_aload_n dX9_cutPiece_30 rfl).mpr ?_
    refine (zq_iload_n dX9_cutPiece_31 rfl).mpr ?_
    refine (zq_aload dX9_cutPiece_32 rfl).mpr ?_
    obtain ⟨g9, h⟩ := h
    refine (zq_getI2 (f := 258) (v := (mI m2 258 (mO m2 (mR m2 448 (mR m2 577 a0)) (Int.toNat v3)))) dX9_cutPiece_34 fl_9_161 (by decide) rfl rfl (by first | rfl | simp only [zm_Is, zm_Rs, zm_As, zm_Os, zm_In0, zm_Rn0])).mpr ⟨g9, ?_⟩
    obtain ⟨g12, h⟩ := h
    refine zq_virtualV (n := 2) dX9_cutPiece_37 mr_9_166 zn_62 rfl rfl rfl (zrcv_R zo_62 (by decide) g12) (Nat.le_of_ble_eq_true rfl) ?_
    refine h.mono (fun r m10 h => ?_)
    obtain ⟨rfl, h⟩ := h
    refine ⟨rfl, ?_⟩
    refine (zq_aload_n dX9_cutPiece_40 rfl).mpr ?_
    obtain ⟨g13, h⟩ := h
    refine (zq_getR2 (f := 577) (v := (mR m10 577 a0)) dX9_cutPiece_41 fl_9_18 (by decide) rfl rfl (by first | rfl | simp only [zm_Is, zm_Rs, zm_As, zm_Os, zm_In0, zm_Rn0])).mpr ⟨g13, ?_⟩
    refine (zq_aload dX9_cutPiece_44 rfl).mpr ?_
    refine (zq_aload dX9_cutPiece_46 rfl).mpr ?_
    refine (zq_iload_n dX9_cutPiece_48 rfl).mpr ?_
    obtain ⟨g16, h⟩ := h
    refine zq_virtualI (n := 1) dX9_cutPiece_49 mr_9_169 zn_39 rfl rfl rfl (zrcv_R zo_39 (by decide) g16) (Nat.le_of_ble_eq_true rfl) ?_
    refine h.mono (fun r m14 h => ?_)
    obtain ⟨v15, rfl, h⟩ := h
    refine ⟨_, rfl, ?_⟩
    refine (zq_iload_n dX9_cutPiece_52 rfl).mpr ?_
    obtain ⟨g19, h⟩ := h
    refine zq_virtualV (n := 3) dX9_cutPiece_53 mr_9_172 zn_77 rfl rfl rfl (zrcv_R zo_77 (by decide) g19) (Nat.le_of_ble_eq_true rfl) ?_
    refine h.mono (fun r m17 h => ?_)
    obtain ⟨rfl, h⟩ := h
    refine ⟨rfl, ?_⟩
    refine (zq_iconst (v := 1) dX9_cutPiece_56 (by decide)).mpr ?_
    exact (zq_iret dX9_cutPiece_57 rfl).mpr ⟨trivial, h⟩
  · replace h := h.2 c
    refine (zq_iconst (v := 0) dX9_cutPiece_16 (by decide)).mpr ?_
    exact (zq_iret dX9_cutPiece_17 rfl).mpr ⟨trivial, h⟩
theorem bX9_finishHull_0 {a0 : Nat} {a1 : Int} (h : (mC m a0 = 10) ∧ (29 ≤ mC m (mR m 580 a0) ∧ mC m (mR m 580 a0) < 43) ∧ (0 ≤ a1 ∧ a1 < mN m (mR m 580 a0)) ∧ (mC m (mO m (mR m 580 a0) (Int.toNat a1)) = 7) ∧ ((40 ≤ (mI m 583 a0) → Q (.inl none) (sI (sI m 384 (mO m (mR m 580 a0) (Int.toNat a1)) 0) 583 a0 (wr ((mI m 583 a0) + 1)))) ∧ (¬ (40 ≤ (mI m 583 a0)) → (29 ≤ mC m (mR m 582 a0) ∧ mC m (mR m 582 a0) < 43) ∧ (0 ≤ (mI m 583 a0) ∧ (mI m 583 a0) < mN m (mR m 582 a0)) ∧ ((0 : Int) < mN m (mO m (mR m 582 a0) (Int.toNat (mI m 583 a0)))) ∧ (mC m (mO m (mR m 582 a0) (Int.toNat (mI m 583 a0))) = 20) ∧ ((1 : Int) < mN m (mO m (mR m 582 a0) (Int.toNat (mI m 583 a0)))) ∧ ((2 : Int) < mN m (mO m (mR m 582 a0) (Int.toNat (mI m 583 a0)))) ∧ ((3 : Int) < mN m (mO m (mR m 582 a0) (Int.toNat (mI m 583 a0)))) ∧ ((4 : Int) < mN m (mO m (mR m 582 a0) (Int.toNat (mI m 583 a0)))) ∧ ((5 : Int) < mN m (mO m (mR m 582 a0) (Int.toNat (mI m 583 a0)))) ∧ Q (.inl none) (sI (sA (sA (sA (sA (sA (sA (sI m 384 (mO m (mR m 580 a0) (Int.toNat a1)) 0) (mO m (mR m 582 a0) (Int.toNat (mI m 583 a0))) 0 a1) (mO m (mR m 582 a0) (Int.toNat (mI m 583 a0))) 1 (mI m 386 (mO m (mR m 580 a0) (Int.toNat a1)))) (mO m (mR m 582 a0) (Int.toNat (mI m 583 a0))) 2 (mI m 392 (mO m (mR m 580 a0) (Int.toNat a1)))) (mO m (mR m 582 a0) (Int.toNat (mI m 583 a0))) 3 (mI m 393 (mO m (mR m 580 a0) (Int.toNat a1)))) (mO m (mR m 582 a0) (Int.toNat (mI m 583 a0))) 4 (mI m 388 (mO m (mR m 580 a0) (Int.toNat a1)))) (mO m (mR m 582 a0) (Int.toNat (mI m 583 a0))) 5 (mI m 576 a0)) 583 a0 (wr ((mI m 583 a0) + 1)))))) : zC xs xl (d + 1) 93 [zR a0, zI a1] m Q := by
  refine zk_93 ?_
  refine (zq_aload_n dX9_finishHull_0 rfl).mpr ?_
  obtain ⟨g1, h⟩ := h
  refine (zq_getR2 (f := 580) (v := (mR m 580 a0)) dX9_finishHull_1 fl_9_31 (by decide) rfl rfl (by first | rfl | simp only [zm_Is, zm_Rs, zm_As, zm_Os, zm_In0, zm_Rn0])).mpr ⟨g1, ?_⟩
  refine (zq_iload_n dX9_finishHull_4 rfl).mpr ?_
  obtain ⟨g2, h⟩ := h
  obtain ⟨g3, h⟩ := h
  refine (zq_aald2 (v := (mO m (mR m 580 a0) (Int.toNat a1))) dX9_finishHull_5 (by first | rfl | simp only [zm_Is, zm_Rs, zm_As, zm_Os, zm_In0, zm_Rn0])).mpr ⟨⟨g2.1, g2.2, g3⟩, ?_⟩
  refine (zq_astore_n (l := [zR a0, zI a1, zR (mO m (mR m 580 a0) (Int.toNat a1)), zU]) dX9_finishHull_6 (Nat.le_of_ble_eq_true rfl) rfl).mpr ?_
  refine (zq_aload_n dX9_finishHull_7 rfl).mpr ?_
  refine (zq_iconst (v := 0) dX9_finishHull_8 (by decide)).mpr ?_
  obtain ⟨g4, h⟩ := h
  refine (zq_putZ (f := 384) dX9_finishHull_9 fl_9_176 (by decide) rfl rfl rfl).mpr ⟨⟨g4, (by decide)⟩, ?_⟩
  refine (zq_aload_n dX9_finishHull_12 rfl).mpr ?_
  refine (zq_getI2 (f := 583) (v := (mI m 583 a0)) dX9_finishHull_13 fl_9_43 (by decide) rfl rfl (by first | rfl | simp only [zm_Is, zm_Rs, zm_As, zm_Os, zm_In0, zm_Rn0])).mpr ⟨g1, ?_⟩
  refine (zq_bipush (v := 40) dX9_finishHull_16 (by decide)).mpr ?_
  refine (zq_icmp_ge (t := 70) dX9_finishHull_18 rfl).mpr ⟨fun c => ?_, fun c => ?_⟩
  · replace h := h.1 c
    refine (zq_aload_n dX9_finishHull_70 rfl).mpr ?_
    refine (zq_dupR dX9_finishHull_71).mpr ?_
    refine (zq_getI2 (f := 583) (v := (mI m 583 a0)) dX9_finishHull_72 fl_9_43 (by decide) rfl rfl (by first | rfl | simp only [zm_Is, zm_Rs, zm_As, zm_Os, zm_In0, zm_Rn0])).mpr ⟨g1, ?_⟩
    refine (zq_iconst (v := 1) dX9_finishHull_75 (by decide)).mpr ?_
    refine (zq_iadd dX9_finishHull_76).mpr ?_
    refine (zq_putI (f := 583) dX9_finishHull_77 fl_9_43 (by decide) rfl rfl rfl).mpr ⟨g1, ?_⟩
    exact (zq_ret dX9_finishHull_80 rfl).mpr h
  · replace h := h.2 c
    refine (zq_aload_n dX9_finishHull_21 rfl).mpr ?_
    refine (zq_getR2 (f := 582) (v := (mR m 582 a0)) dX9_finishHull_22 fl_9_40 (by decide) rfl rfl (by first | rfl | simp only [zm_Is, zm_Rs, zm_As, zm_Os, zm_In0, zm_Rn0])).mpr ⟨g1, ?_⟩
    refine (zq_aload_n dX9_finishHull_25 rfl).mpr ?_
    refine (zq_getI2 (f := 583) (v := (mI m 583 a0)) dX9_finishHull_26 fl_9_43 (by decide) rfl rfl (by first | rfl | simp only [zm_Is, zm_Rs, zm_As, zm_Os, zm_In0, zm_Rn0])).mpr ⟨g1, ?_⟩
    obtain ⟨g5, h⟩ := h
    obtain ⟨g6, h⟩ := h
    refine (zq_aald2 (v := (mO m (mR m 582 a0) (Int.toNat (mI m 583 a0)))) dX9_finishHull_29 (by first | rfl | simp only [zm_Is, zm_Rs, zm_As, zm_Os, zm_In0, zm_Rn0])).mpr ⟨⟨g5.1, g5.2, g6⟩, ?_⟩
    refine (zq_astore_n (l := [zR a0, zI a1, zR (mO m (mR m 580 a0) (Int.toNat a1)), zR (mO m (mR m 582 a0) (Int.toNat (mI m 583 a0)))]) dX9_finishHull_30 (Nat.le_of_ble_eq_true rfl) rfl).mpr ?_
    refine (zq_aload_n dX9_finishHull_31 rfl).mpr ?_
    refine (zq_iconst (v := 0) dX9_finishHull_32 (by decide)).mpr ?_
    refine (zq_iload_n dX9_finishHull_33 rfl).mpr ?_
    obtain ⟨g7, h⟩ := h
    obtain ⟨g8, h⟩ := h
    refine (zq_iast dX9_finishHull_34).mpr ⟨⟨g8, ⟨by decide, g7⟩⟩, ?_⟩
    refine (zq_aload_n dX9_finishHull_35 rfl).mpr ?_
    refine (zq_iconst (v := 1) dX9_finishHull_36 (by decide)).mpr ?_
    refine (zq_aload_n dX9_finishHull_37 rfl).mpr ?_
    refine (zq_getI2 (f := 386) (v := (mI m 386 (mO m (mR m 580 a0) (Int.toNat a1)))) dX9_finishHull_38 fl_9_179 (by decide) rfl rfl (by first | rfl | simp only [zm_Is, zm_Rs, zm_As, zm_Os, zm_In0, zm_Rn0])).mpr ⟨g4, ?_⟩
    obtain ⟨g9, h⟩ := h
    refine (zq_iast dX9_finishHull_41).mpr ⟨⟨g8, ⟨by decide, g9⟩⟩, ?_⟩
    refine (zq_aload_n dX9_finishHull_42 rfl).mpr ?_
    refine (zq_iconst (v := 2) dX9_finishHull_43 (by decide)).mpr ?_
    refine (zq_aload_n dX9_finishHull_44 rfl).mpr ?_
    refine (zq_getI2 (f := 392) (v := (mI m 392 (mO m (mR m 580 a0) (Int.toNat a1)))) dX9_finishHull_45 fl_9_182 (by decide) rfl rfl (by first | rfl | simp only [zm_Is, zm_Rs, zm_As, zm_Os, zm_In0, zm_Rn0])).mpr ⟨g4, ?_⟩
    obtain ⟨g10, h⟩ := h
    refine (zq_iast dX9_finishHull_48).mpr ⟨⟨g8, ⟨by decide, g10⟩⟩, ?_⟩
    refine (zq_aload_n dX9_finishHull_49 rfl).mpr ?_
    refine (zq_iconst (v := 3) dX9_finishHull_50 (by decide)).mpr ?_
    refine (zq_aload_n dX9_finishHull_51 rfl).mpr ?_
    refine (zq_getI2 (f := 393) (v := (mI m 393 (mO m (mR m 580 a0) (Int.toNat a1)))) dX9_finishHull_52 fl_9_185 (by decide) rfl rfl (by first | rfl | simp only [zm_Is, zm_Rs, zm_As, zm_Os, zm_In0, zm_Rn0])).mpr ⟨g4, ?_⟩
    obtain ⟨g11, h⟩ := h
    refine (zq_iast dX9_finishHull_55).mpr ⟨⟨g8, ⟨by decide, g11⟩⟩, ?_⟩
    refine (zq_aload_n dX9_finishHull_56 rfl).mpr ?_
    refine (zq_iconst (v := 4) dX9_finishHull_57 (by decide)).mpr ?_
    refine (zq_aload_n dX9_finishHull_58 rfl).mpr ?_
    refine (zq_getI2 (f := 388) (v := (mI m 388 (mO m (mR m 580 a0) (Int.toNat a1)))) dX9_finishHull_59 fl_9_188 (by decide) rfl rfl (by first | rfl | simp only [zm_Is, zm_Rs, zm_As, zm_Os, zm_In0, zm_Rn0])).mpr ⟨g4, ?_⟩
    obtain ⟨g12, h⟩ := h
    refine (zq_iast dX9_finishHull_62).mpr ⟨⟨g8, ⟨by decide, g12⟩⟩, ?_⟩
    refine (zq_aload_n dX9_finishHull_63 rfl).mpr ?_
    refine (zq_iconst (v := 5) dX9_finishHull_64 (by decide)).mpr ?_
    refine (zq_aload_n dX9_finishHull_65 rfl).mpr ?_
    refine (zq_getI2 (f := 576) (v := (mI m 576 a0)) dX9_finishHull_66 fl_9_9 (by decide) rfl rfl (by first | rfl | simp only [zm_Is, zm_Rs, zm_As, zm_Os, zm_In0, zm_Rn0])).mpr ⟨g1, ?_⟩
    obtain ⟨g13, h⟩ := h
    refine (zq_iast dX9_finishHull_69).mpr ⟨⟨g8, ⟨by decide, g13⟩⟩, ?_⟩
    refine (zq_aload_n dX9_finishHull_70 rfl).mpr ?_
    refine (zq_dupR dX9_finishHull_71).mpr ?_
    refine (zq_getI2 (f := 583) (v := (mI m 583 a0)) dX9_finishHull_72 fl_9_43 (by decide) rfl rfl (by first | rfl | simp only [zm_Is, zm_Rs, zm_As, zm_Os, zm_In0, zm_Rn0])).mpr ⟨g1, ?_⟩
    refine (zq_iconst (v := 1) dX9_finishHull_75 (by decide)).mpr ?_
    refine (zq_iadd dX9_finishHull_76).mpr ?_
    refine (zq_putI (f := 583) dX9_finishHull_77 fl_9_43 (by decide) rfl rfl rfl).mpr ⟨g1, ?_⟩
    exact (zq_ret dX9_finishHull_80 rfl).mpr h
theorem bX9_keptHulls_0 {a0 : Nat} (h : (mC m a0 = 10) ∧ Q (.inl (some (zI (if 40 < (mI m 583 a0) then 40 else (mI m 583 a0))))) m) : zC xs xl (d + 1) 94 [zR a0] m Q := by
  refine zk_94 ?_
  refine (zq_aload_n dX9_keptHulls_0 rfl).mpr ?_
  obtain ⟨g1, h⟩ := h
  refine (zq_getI2 (f := 583) (v := (mI m 583 a0)) dX9_keptHulls_1 fl_9_43 (by decide) rfl rfl (by first | rfl | simp only [zm_Is, zm_Rs, zm_As, zm_Os, zm_In0, zm_Rn0])).mpr ⟨g1, ?_⟩
  refine (zq_bipush (v := 40) dX9_keptHulls_4 (by decide)).mpr ?_
  refine (zq_min dX9_keptHulls_6 mr_9_191).mpr ⟨(Nat.le_of_ble_eq_true rfl), ?_⟩
  exact (zq_iret dX9_keptHulls_9 rfl).mpr ⟨trivial, h⟩
end ZB2
