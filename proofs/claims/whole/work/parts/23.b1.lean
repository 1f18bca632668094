section ZB1
variable {xs : Nat → Int} {xl d : Nat} {m : zM} {Q : zRes → zM → Prop}
theorem bX2_stiffness_0 {a0 : Nat} (h : (mC m a0 = 3) ∧ (((mI m 129 a0) = 0 → Q (.inl (some (zI 8))) m) ∧ ((mI m 129 a0) ≠ 0 → (((mI m 129 a0) = 1 → Q (.inl (some (zI 6))) m) ∧ ((mI m 129 a0) ≠ 1 → (((mI m 129 a0) = 2 → Q (.inl (some (zI 5))) m) ∧ ((mI m 129 a0) ≠ 2 → Q (.inl (some (zI 4))) m))))))) : zC xs xl (d + 1) 27 [zR a0] m Q := by
  refine zk_27 ?_
  refine (zq_aload_n dX2_stiffness_0 rfl).mpr ?_
  obtain ⟨g1, h⟩ := h
  refine (zq_getI2 (f := 129) (v := (mI m 129 a0)) dX2_stiffness_1 fl_2_15 (by decide) rfl rfl (by first | rfl | simp only [zm_Is, zm_Rs, zm_As, zm_Os, zm_In0, zm_Rn0])).mpr ⟨g1, ?_⟩
  refine (zq_tab (td := 40) (r := [32, 35, 38]) dX2_stiffness_4 rfl rfl rfl).mpr ?_
  refine ⟨fun c => ?_, fun c => ?_⟩
  · replace h := h.1 c
    refine (zq_bipush (v := 8) dX2_stiffness_32 (by decide)).mpr ?_
    exact (zq_iret dX2_stiffness_34 rfl).mpr ⟨trivial, h⟩
  · replace h := h.2 c
    refine ⟨fun c => ?_, fun c => ?_⟩
    · replace h := h.1 c
      refine (zq_bipush (v := 6) dX2_stiffness_35 (by decide)).mpr ?_
      exact (zq_iret dX2_stiffness_37 rfl).mpr ⟨trivial, h⟩
    · replace h := h.2 c
      refine ⟨fun c => ?_, fun c => ?_⟩
      · replace h := h.1 c
        refine (zq_iconst (v := 5) dX2_stiffness_38 (by decide)).mpr ?_
        exact (zq_iret dX2_stiffness_39 rfl).mpr ⟨trivial, h⟩
      · replace h := h.2 c
        refine (zq_iconst (v := 4) dX2_stiffness_40 (by decide)).mpr ?_
        exact (zq_iret dX2_stiffness_41 rfl).mpr ⟨trivial, h⟩
theorem bX2_isAsMeant_0 {a0 : Nat} (h : zW xs xl d cX2_isAsMeant 2 (some .boolean) false [] 2 [zR a0, zI 0] [] m Q) : zC xs xl (d + 1) 28 [zR a0] m Q := by
  refine zk_28 ?_
  refine (zq_iconst (v := 0) dX2_isAsMeant_0 (by decide)).mpr ?_
  refine (zq_istore_n (l := [zR a0, zI 0]) dX2_isAsMeant_1 (Nat.le_of_ble_eq_true rfl) rfl).mpr ?_
  exact h
theorem bX2_isAsMeant_2 {a0 : Nat} {a1 : Int} (h : ((3 ≤ a1 → Q (.inl (some (zI 1))) m) ∧ (¬ (3 ≤ a1) → (mC m a0 = 3) ∧ (mC m (mR m 133 a0) = 20) ∧ (0 ≤ a1 ∧ a1 < mN m (mR m 133 a0)) ∧ (mC m (mR m 134 a0) = 20) ∧ (0 ≤ a1 ∧ a1 < mN m (mR m 134 a0)) ∧ (((mA m (mR m 133 a0) (Int.toNat a1)) = (mA m (mR m 134 a0) (Int.toNat a1)) → zW xs xl d cX2_isAsMeant 2 (some .boolean) false [] 2 [zR a0, zI (wr (a1 + 1))] [] m Q) ∧ (¬ ((mA m (mR m 133 a0) (Int.toNat a1)) = (mA m (mR m 134 a0) (Int.toNat a1))) → Q (.inl (some (zI 0))) m))))) : zW xs xl d cX2_isAsMeant 2 (some .boolean) false [] 2 [zR a0, zI a1] [] m Q := by
  refine (zq_iload_n dX2_isAsMeant_2 rfl).mpr ?_
  refine (zq_iconst (v := 3) dX2_isAsMeant_3 (by decide)).mpr ?_
  refine (zq_icmp_ge (t := 30) dX2_isAsMeant_4 rfl).mpr ⟨fun c => ?_, fun c => ?_⟩
  · replace h := h.1 c
    refine (zq_iconst (v := 1) dX2_isAsMeant_30 (by decide)).mpr ?_
    exact (zq_iret dX2_isAsMeant_31 rfl).mpr ⟨Or.inr rfl, h⟩
  · replace h := h.2 c
    refine (zq_aload_n dX2_isAsMeant_7 rfl).mpr ?_
    obtain ⟨g1, h⟩ := h
    refine (zq_getR2 (f := 133) (v := (mR m 133 a0)) dX2_isAsMeant_8 fl_2_28 (by decide) rfl rfl (by first | rfl | simp only [zm_Is, zm_Rs, zm_As, zm_Os, zm_In0, zm_Rn0])).mpr ⟨g1, ?_⟩
    refine (zq_iload_n dX2_isAsMeant_11 rfl).mpr ?_
    obtain ⟨g2, h⟩ := h
    obtain ⟨g3, h⟩ := h
    refine (zq_iald2 (v := (mA m (mR m 133 a0) (Int.toNat a1))) dX2_isAsMeant_12 (by first | rfl | simp only [zm_Is, zm_Rs, zm_As, zm_Os, zm_In0, zm_Rn0])).mpr ⟨⟨g2, g3⟩, ?_⟩
    refine (zq_aload_n dX2_isAsMeant_13 rfl).mpr ?_
    refine (zq_getR2 (f := 134) (v := (mR m 134 a0)) dX2_isAsMeant_14 fl_2_32 (by decide) rfl rfl (by first | rfl | simp only [zm_Is, zm_Rs, zm_As, zm_Os, zm_In0, zm_Rn0])).mpr ⟨g1, ?_⟩
    refine (zq_iload_n dX2_isAsMeant_17 rfl).mpr ?_
    obtain ⟨g4, h⟩ := h
    obtain ⟨g5, h⟩ := h
    refine (zq_iald2 (v := (mA m (mR m 134 a0) (Int.toNat a1))) dX2_isAsMeant_18 (by first | rfl | simp only [zm_Is, zm_Rs, zm_As, zm_Os, zm_In0, zm_Rn0])).mpr ⟨⟨g4, g5⟩, ?_⟩
    refine (zq_icmp_eq (t := 24) dX2_isAsMeant_19 rfl).mpr ⟨fun c => ?_, fun c => ?_⟩
    · replace h := h.1 c
      refine (zq_iinc (l := [zR a0, zI (wr (a1 + 1))]) dX2_isAsMeant_24 rfl rfl).mpr ?_
      refine (zq_goto (t := 2) dX2_isAsMeant_27 rfl).mpr ?_
      exact h
    · replace h := h.2 c
      refine (zq_iconst (v := 0) dX2_isAsMeant_22 (by decide)).mpr ?_
      exact (zq_iret dX2_isAsMeant_23 rfl).mpr ⟨Or.inl rfl, h⟩
theorem bX2_springBack_0 {a0 : Nat} (h : zW xs xl d cX2_springBack 2 (some .int) false [] 4 [zR a0, zI 0, zI 0] [] m Q) : zC xs xl (d + 1) 29 [zR a0] m Q := by
  refine zk_29 ?_
  refine (zq_iconst (v := 0) dX2_springBack_0 (by decide)).mpr ?_
  refine (zq_istore_n (l := [zR a0, zI 0, zU]) dX2_springBack_1 (Nat.le_of_ble_eq_true rfl) rfl).mpr ?_
  refine (zq_iconst (v := 0) dX2_springBack_2 (by decide)).mpr ?_
  refine (zq_istore_n (l := [zR a0, zI 0, zI 0]) dX2_springBack_3 (Nat.le_of_ble_eq_true rfl) rfl).mpr ?_
  exact h
theorem bX2_springBack_4 {a0 : Nat} {a1 : Int} {a2 : Int} (h : ((3 ≤ a2 → Q (.inl (some (zI a1))) m) ∧ (¬ (3 ≤ a2) → (mC m a0 = 3) ∧ (mC m (mR m 133 a0) = 20) ∧ (0 ≤ a2 ∧ a2 < mN m (mR m 133 a0)) ∧ (mC m (mR m 134 a0) = 20) ∧ (0 ≤ a2 ∧ a2 < mN m (mR m 134 a0)) ∧ zW xs xl d cX2_springBack 2 (some .int) false [] 4 [zR a0, zI (wr (a1 + (if 0 ≤ (wr ((mA (sA m (mR m 133 a0) (Int.toNat a2) (wr ((mA m (mR m 133 a0) (Int.toNat a2)) - (wr (Int.tdiv (wr ((mA m (mR m 133 a0) (Int.toNat a2)) * (mI m 130 a0))) 200))))) (mR m 134 a0) (Int.toNat a2)) - (wr ((mA m (mR m 133 a0) (Int.toNat a2)) - (wr (Int.tdiv (wr ((mA m (mR m 133 a0) (Int.toNat a2)) * (mI m 130 a0))) 200)))))) then (wr ((mA (sA m (mR m 133 a0) (Int.toNat a2) (wr ((mA m (mR m 133 a0) (Int.toNat a2)) - (wr (Int.tdiv (wr ((mA m (mR m 133 a0) (Int.toNat a2)) * (mI m 130 a0))) 200))))) (mR m 134 a0) (Int.toNat a2)) - (wr ((mA m (mR m 133 a0) (Int.toNat a2)) - (wr (Int.tdiv (wr ((mA m (mR m 133 a0) (Int.toNat a2)) * (mI m 130 a0))) 200)))))) else wr (0 - (wr ((mA (sA m (mR m 133 a0) (Int.toNat a2) (wr ((mA m (mR m 133 a0) (Int.toNat a2)) - (wr (Int.tdiv (wr ((mA m (mR m 133 a0) (Int.toNat a2)) * (mI m 130 a0))) 200))))) (mR m 134 a0) (Int.toNat a2)) - (wr ((mA m (mR m 133 a0) (Int.toNat a2)) - (wr (Int.tdiv (wr ((mA m (mR m 133 a0) (Int.toNat a2)) * (mI m 130 a0))) 200)))))))))), zI (wr (a2 + 1))] [] (sA m (mR m 133 a0) (Int.toNat a2) (wr ((mA m (mR m 133 a0) (Int.toNat a2)) - (wr (Int.tdiv (wr ((mA m (mR m 133 a0) (Int.toNat a2)) * (mI m 130 a0))) 200))))) Q))) : zW xs xl d cX2_springBack 2 (some .int) false [] 4 [zR a0, zI a1, zI a2] [] m Q := by
  refine (zq_iload_n dX2_springBack_4 rfl).mpr ?_
  refine (zq_iconst (v := 3) dX2_springBack_5 (by decide)).mpr ?_
  refine (zq_icmp_ge (t := 58) dX2_springBack_6 rfl).mpr ⟨fun c => ?_, fun c => ?_⟩
  · replace h := h.1 c
    refine (zq_iload_n dX2_springBack_58 rfl).mpr ?_
    exact (zq_iret dX2_springBack_59 rfl).mpr ⟨trivial, h⟩
  · replace h := h.2 c
    refine (zq_aload_n dX2_springBack_9 rfl).mpr ?_
    obtain ⟨g1, h⟩ := h
    refine (zq_getR2 (f := 133) (v := (mR m 133 a0)) dX2_springBack_10 fl_2_28 (by decide) rfl rfl (by first | rfl | simp only [zm_Is, zm_Rs, zm_As, zm_Os, zm_In0, zm_Rn0])).mpr ⟨g1, ?_⟩
    refine (zq_iload_n dX2_springBack_13 rfl).mpr ?_
    refine (zq_dup2IR dX2_springBack_14).mpr ?_
    obtain ⟨g2, h⟩ := h
    obtain ⟨g3, h⟩ := h
    refine (zq_iald2 (v := (mA m (mR m 133 a0) (Int.toNat a2))) dX2_springBack_15 (by first | rfl | simp only [zm_Is, zm_Rs, zm_As, zm_Os, zm_In0, zm_Rn0])).mpr ⟨⟨g2, g3⟩, ?_⟩
    refine (zq_aload_n dX2_springBack_16 rfl).mpr ?_
    refine (zq_getR2 (f := 133) (v := (mR m 133 a0)) dX2_springBack_17 fl_2_28 (by decide) rfl rfl (by first | rfl | simp only [zm_Is, zm_Rs, zm_As, zm_Os, zm_In0, zm_Rn0])).mpr ⟨g1, ?_⟩
    refine (zq_iload_n dX2_springBack_20 rfl).mpr ?_
    refine (zq_iald2 (v := (mA m (mR m 133 a0) (Int.toNat a2))) dX2_springBack_21 (by first | rfl | simp only [zm_Is, zm_Rs, zm_As, zm_Os, zm_In0, zm_Rn0])).mpr ⟨⟨g2, g3⟩, ?_⟩
    refine (zq_aload_n dX2_springBack_22 rfl).mpr ?_
    refine (zq_getI2 (f := 130) (v := (mI m 130 a0)) dX2_springBack_23 fl_2_19 (by decide) rfl rfl (by first | rfl | simp only [zm_Is, zm_Rs, zm_As, zm_Os, zm_In0, zm_Rn0])).mpr ⟨g1, ?_⟩
    refine (zq_imul dX2_springBack_26).mpr ?_
    refine (zq_sipush (v := 200) dX2_springBack_27 (by decide)).mpr ?_
    refine (zq_idiv dX2_springBack_30).mpr ⟨by decide, ?_⟩
    refine (zq_isub dX2_springBack_31).mpr ?_
    refine (zq_iast dX2_springBack_32).mpr ⟨⟨g2, g3⟩, ?_⟩
    refine (zq_iload_n dX2_springBack_33 rfl).mpr ?_
    refine (zq_aload_n dX2_springBack_34 rfl).mpr ?_
    refine (zq_getR2 (f := 134) (v := (mR m 134 a0)) dX2_springBack_35 fl_2_32 (by decide) rfl rfl (by first | rfl | simp only [zm_Is, zm_Rs, zm_As, zm_Os, zm_In0, zm_Rn0])).mpr ⟨g1, ?_⟩
    refine (zq_iload_n dX2_springBack_38 rfl).mpr ?_
    obtain ⟨g4, h⟩ := h
    obtain ⟨g5, h⟩ := h
    refine (zq_iald2 (v := (mA (sA m (mR m 133 a0) (Int.toNat a2) (wr ((mA m (mR m 133 a0) (Int.toNat a2)) - (wr (Int.tdiv (wr ((mA m (mR m 133 a0) (Int.toNat a2)) * (mI m 130 a0))) 200))))) (mR m 134 a0) (Int.toNat a2))) dX2_springBack_39 (by first | rfl | simp only [zm_Is, zm_Rs, zm_As, zm_Os, zm_In0, zm_Rn0])).mpr ⟨⟨g4, g5⟩, ?_⟩
    refine (zq_aload_n dX2_springBack_40 rfl).mpr ?_
    refine (zq_getR2 (f := 133) (v := (mR m 133 a0)) dX2_springBack_41 fl_2_28 (by decide) rfl rfl (by first | rfl | simp only [zm_Is, zm_Rs, zm_As, zm_Os, zm_In0, zm_Rn0])).mpr ⟨g1, ?_⟩
    refine (zq_iload_n dX2_springBack_44 rfl).mpr ?_
    refine (zq_iald2 (v := (wr ((mA m (mR m 133 a0) (Int.toNat a2)) - (wr (Int.tdiv (wr ((mA m (mR m 133 a0) (Int.toNat a2)) * (mI m 130 a0))) 200))))) dX2_springBack_45 (by first | rfl | simp only [zm_Is, zm_Rs, zm_As, zm_Os, zm_In0, zm_Rn0])).mpr ⟨⟨g2, g3⟩, ?_⟩
    refine (zq_isub dX2_springBack_46).mpr ?_
    refine (zq_abs dX2_springBack_47 mr_2_80).mpr ⟨(Nat.le_of_ble_eq_true rfl), ?_⟩
    refine (zq_iadd dX2_springBack_50).mpr ?_
    refine (zq_istore_n (l := [zR a0, zI (wr (a1 + (if 0 ≤ (wr ((mA (sA m (mR m 133 a0) (Int.toNat a2) (wr ((mA m (mR m 133 a0) (Int.toNat a2)) - (wr (Int.tdiv (wr ((mA m (mR m 133 a0) (Int.toNat a2)) * (mI m 130 a0))) 200))))) (mR m 134 a0) (Int.toNat a2)) - (wr ((mA m (mR m 133 a0) (Int.toNat a2)) - (wr (Int.tdiv (wr ((mA m (mR m 133 a0) (Int.toNat a2)) * (mI m 130 a0))) 200)))))) then (wr ((mA (sA m (mR m 133 a0) (Int.toNat a2) (wr ((mA m (mR m 133 a0) (Int.toNat a2)) - (wr (Int.tdiv (wr ((mA m (mR m 133 a0) (Int.toNat a2)) * (mI m 130 a0))) 200))))) (mR m 134 a0) (Int.toNat a2)) - (wr ((mA m (mR m 133 a0) (Int.toNat a2)) - (wr (Int.tdiv (wr ((mA m (mR m 133 a0) (Int.toNat a2)) * (mI m 130 a0))) 200)))))) else wr (0 - (wr ((mA (sA m (mR m 133 a0) (Int.toNat a2) (wr ((mA m (mR m 133 a0) (Int.toNat a2)) - (wr (Int.tdiv (wr ((mA m (mR m 133 a0) (Int.toNat a2)) * (mI m 130 a0))) 200))))) (mR m 134 a0) (Int.toNat a2)) - (wr ((mA m (mR m 133 a0) (Int.toNat a2)) - (wr (Int.tdiv (wr ((mA m (mR m 133 a0) (Int.toNat a2)) * (mI m 130 a0))) 200)))))))))), zI a2]) dX2_springBack_51 (Nat.le_of_ble_eq_true rfl) rfl).mpr ?_
    refine (zq_iinc (l := [zR a0, zI (wr (a1 + (if 0 ≤ (wr ((mA (sA m (mR m 133 a0) (Int.toNat a2) (wr ((mA m (mR m 133 a0) (Int.toNat a2)) - (wr (Int.tdiv (wr ((mA m (mR m 133 a0) (Int.toNat a2)) * (mI m 130 a0))) 200))))) (mR m 134 a0) (Int.toNat a2)) - (wr ((mA m (mR m 133 a0) (Int.toNat a2)) - (wr (Int.tdiv (wr ((mA m (mR m 133 a0) (Int.toNat a2)) * (mI m 130 a0))) 200)))))) then (wr ((mA (sA m (mR m 133 a0) (Int.toNat a2) (wr ((mA m (mR m 133 a0) (Int.toNat a2)) - (wr (Int.tdiv (wr ((mA m (mR m 133 a0) (Int.toNat a2)) * (mI m 130 a0))) 200))))) (mR m 134 a0) (Int.toNat a2)) - (wr ((mA m (mR m 133 a0) (Int.toNat a2)) - (wr (Int.tdiv (wr ((mA m (mR m 133 a0) (Int.toNat a2)) * (mI m 130 a0))) 200)))))) else wr (0 - (wr ((mA (sA m (mR m 133 a0) (Int.toNat a2) (wr ((mA m (mR m 133 a0) (Int.toNat a2)) - (wr (Int.tdiv (wr ((mA m (mR m 133 a0) (Int.toNat a2)) * (mI m 130 a0))) 200))))) (mR m 134 a0) (Int.toNat a2)) - (wr ((mA m (mR m 133 a0) (Int.toNat a2)) - (wr (Int.tdiv (wr ((mA m (mR m 133 a0) (Int.toNat a2)) * (mI m 130 a0))) 200)))))))))), zI (wr (a2 + 1))]) dX2_springBack_52 rfl rfl).mpr ?_
    refine (zq_goto (t := 4) dX2_springBack_55 rfl).mpr ?_
    exact h
theorem bX2_copyFrom_0 {a0 : Nat} {a1 : Nat} (h : (mC m a1 = 3) ∧ (mC m a0 = 3) ∧ ((mI m 128 a1) = 0 ∨ (mI m 128 a1) = 1) ∧ (0 ≤ (3 : Int) ∧ 0 ≤ (0 : Int) ∧ 0 ≤ (0 : Int) ∧ (0 : Int) + (3 : Int) ≤ mN m (mR m 133 a1) ∧ (0 : Int) + (3 : Int) ≤ mN m (mR m 133 a0) ∧ mC m (mR m 133 a1) = mC m (mR m 133 a0) ∧ (mC m (mR m 133 a1) = 20 ∨ (mC m (mR m 133 a1) = 21 ∧ ∀ j : Nat, (0 : Int) ≤ j → j < (0 : Int) + (3 : Int) → mA (sI (sI (sI (sI (sI m 128 a0 (mI m 128 a1)) 129 a0 (mI m 129 a1)) 130 a0 (mI m 130 a1)) 131 a0 (mI m 131 a1)) 132 a0 (mI m 132 a1)) (mR m 133 a1) j = 0 ∨ mA (sI (sI (sI (sI (sI m 128 a0 (mI m 128 a1)) 129 a0 (mI m 129 a1)) 130 a0 (mI m 130 a1)) 131 a0 (mI m 131 a1)) 132 a0 (mI m 132 a1)) (mR m 133 a1) j = 1)) ∧ (mR m 133 a1) ≠ (mR m 133 a0)) ∧ (0 ≤ (3 : Int) ∧ 0 ≤ (0 : Int) ∧ 0 ≤ (0 : Int) ∧ (0 : Int) + (3 : Int) ≤ mN m (mR m 134 a1) ∧ (0 : Int) + (3 : Int) ≤ mN m (mR m 134 a0) ∧ mC m (mR m 134 a1) = mC m (mR m 134 a0) ∧ (mC m (mR m 134 a1) = 20 ∨ (mC m (mR m 134 a1) = 21 ∧ ∀ j : Nat, (0 : Int) ≤ j → j < (0 : Int) + (3 : Int) → mA (cpA (sI (sI (sI (sI (sI m 128 a0 (mI m 128 a1)) 129 a0 (mI m 129 a1)) 130 a0 (mI m 130 a1)) 131 a0 (mI m 131 a1)) 132 a0 (mI m 132 a1)) (mR m 133 a1) 0 (mR m 133 a0) 0 3) (mR m 134 a1) j = 0 ∨ mA (cpA (sI (sI (sI (sI (sI m 128 a0 (mI m 128 a1)) 129 a0 (mI m 129 a1)) 130 a0 (mI m 130 a1)) 131 a0 (mI m 131 a1)) 132 a0 (mI m 132 a1)) (mR m 133 a1) 0 (mR m 133 a0) 0 3) (mR m 134 a1) j = 1)) ∧ (mR m 134 a1) ≠ (mR m 134 a0)) ∧ Q (.inl none) (cpA (cpA (sI (sI (sI (sI (sI m 128 a0 (mI m 128 a1)) 129 a0 (mI m 129 a1)) 130 a0 (mI m 130 a1)) 131 a0 (mI m 131 a1)) 132 a0 (mI m 132 a1)) (mR m 133 a1) 0 (mR m 133 a0) 0 3) (mR m 134 a1) 0 (mR m 134 a0) 0 3)) : zC xs xl (d + 1) 30 [zR a0, zR a1] m Q := by
  refine zk_30 ?_
  refine (zq_aload_n dX2_copyFrom_0 rfl).mpr ?_
  refine (zq_aload_n dX2_copyFrom_1 rfl).mpr ?_
  obtain ⟨g1, h⟩ := h
  refine (zq_getI2 (f := 128) (v := (mI m 128 a1)) dX2_copyFrom_2 fl_2_9 (by decide) rfl rfl (by first | rfl | simp only [zm_Is, zm_Rs, zm_As, zm_Os, zm_In0, zm_Rn0])).mpr ⟨g1, ?_⟩
  obtain ⟨g2, h⟩ := h
  obtain ⟨g3, h⟩ := h
  refine (zq_putZ (f := 128) dX2_copyFrom_5 fl_2_9 (by decide) rfl rfl rfl).mpr ⟨⟨g2, g3⟩, ?_⟩
  refine (zq_aload_n dX2_copyFrom_8 rfl).mpr ?_
  refine (zq_aload_n dX2_copyFrom_9 rfl).mpr ?_
  refine (zq_getI2 (f := 129) (v := (mI m 129 a1)) dX2_copyFrom_10 fl_2_15 (by decide) rfl rfl (by first | rfl | simp only [zm_Is, zm_Rs, zm_As, zm_Os, zm_In0, zm_Rn0])).mpr ⟨g1, ?_⟩
  refine (zq_putI (f := 129) dX2_copyFrom_13 fl_2_15 (by decide) rfl rfl rfl).mpr ⟨g2, ?_⟩
  refine (zq_aload_n dX2_copyFrom_16 rfl).mpr ?_
  refine (zq_aload_n dX2_copyFrom_17 rfl).mpr ?_
  refine (zq_getI2 (f := 130) (v := (mI m 130 a1)) dX2_copyFrom_18 fl_2_19 (by decide) rfl rfl (by first | rfl | simp only [zm_Is, zm_Rs, zm_As, zm_Os, zm_In0, zm_Rn0])).mpr ⟨g1, ?_⟩
  refine (zq_putI (f := 130) dX2_copyFrom_21 fl_2_19 (by decide) rfl rfl rfl).mpr ⟨g2, ?_⟩
  refine (zq_aload_n dX2_copyFrom_24 rfl).mpr ?_
  refine (zq_aload_n dX2_copyFrom_25 rfl).mpr ?_
  refine (zq_getI2 (f := 131) (v := (mI m 131 a1)) dX2_copyFrom_26 fl_2_22 (by decide) rfl rfl (by first | rfl | simp only [zm_Is, zm_Rs, zm_As, zm_Os, zm_In0, zm_Rn0])).mpr ⟨g1, ?_⟩
  refine (zq_putI (f := 131) dX2_copyFrom_29 fl_2_22 (by decide) rfl rfl rfl).mpr ⟨g2, ?_⟩
  refine (zq_aload_n dX2_copyFrom_32 rfl).mpr ?_
  refine (zq_aload_n dX2_copyFrom_33 rfl).mpr ?_
  refine (zq_getI2 (f := 132) (v := (mI m 132 a1)) dX2_copyFrom_34 fl_2_25 (by decide) rfl rfl (by first | rfl | simp only [zm_Is, zm_Rs, zm_As, zm_Os, zm_In0, zm_Rn0])).mpr ⟨g1, ?_⟩
  refine (zq_putI (f := 132) dX2_copyFrom_37 fl_2_25 (by decide) rfl rfl rfl).mpr ⟨g2, ?_⟩
  refine (zq_aload_n dX2_copyFrom_40 rfl).mpr ?_
  refine (zq_getR2 (f := 133) (v := (mR m 133 a1)) dX2_copyFrom_41 fl_2_28 (by decide) rfl rfl (by first | rfl | simp only [zm_Is, zm_Rs, zm_As, zm_Os, zm_In0, zm_Rn0])).mpr ⟨g1, ?_⟩
  refine (zq_iconst (v := 0) dX2_copyFrom_44 (by decide)).mpr ?_
  refine (zq_aload_n dX2_copyFrom_45 rfl).mpr ?_
  refine (zq_getR2 (f := 133) (v := (mR m 133 a0)) dX2_copyFrom_46 fl_2_28 (by decide) rfl rfl (by first | rfl | simp only [zm_Is, zm_Rs, zm_As, zm_Os, zm_In0, zm_Rn0])).mpr ⟨g2, ?_⟩
  refine (zq_iconst (v := 0) dX2_copyFrom_49 (by decide)).mpr ?_
  refine (zq_iconst (v := 3) dX2_copyFrom_50 (by decide)).mpr ?_
  obtain ⟨g4, h⟩ := h
  refine (zq_copy dX2_copyFrom_51 mr_2_84).mpr ⟨⟨g4.1, g4.2.1, g4.2.2.1, g4.2.2.2.1, g4.2.2.2.2.1, g4.2.2.2.2.2.1, g4.2.2.2.2.2.2.1, g4.2.2.2.2.2.2.2, (Nat.le_of_ble_eq_true rfl)⟩, ?_⟩
  refine (zq_aload_n dX2_copyFrom_54 rfl).mpr ?_
  refine (zq_getR2 (f := 134) (v := (mR m 134 a1)) dX2_copyFrom_55 fl_2_32 (by decide) rfl rfl (by first | rfl | simp only [zm_Is, zm_Rs, zm_As, zm_Os, zm_In0, zm_Rn0])).mpr ⟨g1, ?_⟩
  refine (zq_iconst (v := 0) dX2_copyFrom_58 (by decide)).mpr ?_
  refine (zq_aload_n dX2_copyFrom_59 rfl).mpr ?_
  refine (zq_getR2 (f := 134) (v := (mR m 134 a0)) dX2_copyFrom_60 fl_2_32 (by decide) rfl rfl (by first | rfl | simp only [zm_Is, zm_Rs, zm_As, zm_Os, zm_In0, zm_Rn0])).mpr ⟨g2, ?_⟩
  refine (zq_iconst (v := 0) dX2_copyFrom_63 (by decide)).mpr ?_
  refine (zq_iconst (v := 3) dX2_copyFrom_64 (by decide)).mpr ?_
  obtain ⟨g5, h⟩ := h
  refine (zq_copy dX2_copyFrom_65 mr_2_84).mpr ⟨⟨g5.1, g5.2.1, g5.2.2.1, g5.2.2.2.1, g5.2.2.2.2.1, g5.2.2.2.2.2.1, g5.2.2.2.2.2.2.1, g5.2.2.2.2.2.2.2, (Nat.le_of_ble_eq_true rfl)⟩, ?_⟩
  exact (zq_ret dX2_copyFrom_68 rfl).mpr h
theorem bX3_init_0 {a0 : Nat} (h : (a0 ≠ 0) ∧ (∀ m2 : zM, m2 = nwA m 30 60 → (mC m2 a0 = 4) ∧ Q (.inl none) (sI (sI (sI (sI (sR m2 192 a0 (mz m)) 193 a0 0) 194 a0 0) 195 a0 0) 196 a0 0))) : zC xs xl (d + 1) 31 [zR a0] m Q := by
  refine zk_31 ?_
  refine (zq_aload_n dX3_init_0 rfl).mpr ?_
  obtain ⟨g1, h⟩ := h
  refine (zq_oinit dX3_init_1 mr_3_3).mpr ⟨⟨g1, (Nat.le_of_ble_eq_true rfl)⟩, ?_⟩
  refine (zq_aload_n dX3_init_4 rfl).mpr ?_
  refine (zq_bipush (v := 60) dX3_init_5 (by decide)).mpr ?_
  refine zq_anew2 (kd := 30) (i := 60) dX3_init_7 nw_3_9 rfl rfl rfl ⟨by decide, by decide⟩ (fun m2 em2 => ?_)
  replace h := h m2 em2
  obtain ⟨g3, h⟩ := h
  refine (zq_putR (f := 192) dX3_init_10 fl_3_11 (by decide) rfl rfl rfl).mpr ⟨g3, ?_⟩
  refine (zq_aload_n dX3_init_13 rfl).mpr ?_
  refine (zq_iconst (v := 0) dX3_init_14 (by decide)).mpr ?_
  refine (zq_putI (f := 193) dX3_init_15 fl_3_17 (by decide) rfl rfl rfl).mpr ⟨g3, ?_⟩
  refine (zq_aload_n dX3_init_18 rfl).mpr ?_
  refine (zq_iconst (v := 0) dX3_init_19 (by decide)).mpr ?_
  refine (zq_putI (f := 194) dX3_init_20 fl_3_21 (by decide) rfl rfl rfl).mpr ⟨g3, ?_⟩
  refine (zq_aload_n dX3_init_23 rfl).mpr ?_
  refine (zq_iconst (v := 0) dX3_init_24 (by decide)).mpr ?_
  refine (zq_putI (f := 195) dX3_init_25 fl_3_24 (by decide) rfl rfl rfl).mpr ⟨g3, ?_⟩
  refine (zq_aload_n dX3_init_28 rfl).mpr ?_
  refine (zq_iconst (v := 0) dX3_init_29 (by decide)).mpr ?_
  refine (zq_putI (f := 196) dX3_init_30 fl_3_27 (by decide) rfl rfl rfl).mpr ⟨g3, ?_⟩
  exact (zq_ret dX3_init_33 rfl).mpr h
theorem bX3_append_0 {a0 : Nat} {a1 : Nat} (h : (mC m a0 = 4) ∧ (((mI m 193 a0) < 60 → (0 ≤ (mI m 193 a0) ∧ (mI m 193 a0) < mN m (mR m 192 a0)) ∧ (30 ≤ mC m (mR m 192 a0) ∧ mC m (mR m 192 a0) < 43) ∧ (mC m a1 + 29 = mC m (mR m 192 a0)) ∧ (mC m a1 = 1) ∧ (((mI m 0 a1) ≠ 2 → zW xs xl d cX3_append 3 (none) false [] 61 [zR a0, zR a1, zU] [] (sI (sO m (mR m 192 a0) (Int.toNat (mI m 193 a0)) a1) 193 a0 (wr ((mI m 193 a0) + 1))) Q) ∧ (¬ ((mI m 0 a1) ≠ 2) → zW xs xl d cX3_append 3 (none) false [] 61 [zR a0, zR a1, zU] [] (sI (sI (sI (sO m (mR m 192 a0) (Int.toNat (mI m 193 a0)) a1) 193 a0 (wr ((mI m 193 a0) + 1))) 194 a0 (wr ((mI m 194 a0) + 1))) 195 a0 (wr ((mI m 195 a0) + (mI m 2 a1)))) Q))) ∧ (¬ ((mI m 193 a0) < 60) → Q (.inl none) m))) : zC xs xl (d + 1) 32 [zR a0, zR a1] m Q := by
  refine zk_32 ?_
  refine (zq_aload_n dX3_append_0 rfl).mpr ?_
  obtain ⟨g1, h⟩ := h
  refine (zq_getI2 (f := 193) (v := (mI m 193 a0)) dX3_append_1 fl_3_17 (by decide) rfl rfl (by first | rfl | simp only [zm_Is, zm_Rs, zm_As, zm_Os, zm_In0, zm_Rn0])).mpr ⟨g1, ?_⟩
  refine (zq_bipush (v := 60) dX3_append_4 (by decide)).mpr ?_
  refine (zq_icmp_lt (t := 10) dX3_append_6 rfl).mpr ⟨fun c => ?_, fun c => ?_⟩
  · replace h := h.1 c
    refine (zq_aload_n dX3_append_10 rfl).mpr ?_
    refine (zq_getR2 (f := 192) (v := (mR m 192 a0)) dX3_append_11 fl_3_11 (by decide) rfl rfl (by first | rfl | simp only [zm_Is, zm_Rs, zm_As, zm_Os, zm_In0, zm_Rn0])).mpr ⟨g1, ?_⟩
    refine (zq_aload_n dX3_append_14 rfl).mpr ?_
    refine (zq_getI2 (f := 193) (v := (mI m 193 a0)) dX3_append_15 fl_3_17 (by decide) rfl rfl (by first | rfl | simp only [zm_Is, zm_Rs, zm_As, zm_Os, zm_In0, zm_Rn0])).mpr ⟨g1, ?_⟩
    refine (zq_aload_n dX3_append_18 rfl).mpr ?_
    obtain ⟨g2, h⟩ := h
    obtain ⟨g3, h⟩ := h
    obtain ⟨g4, h⟩ := h
    refine (zq_aast dX3_append_19).mpr ⟨⟨g3.1, g3.2, g4, g2⟩, ?_⟩
    refine (zq_aload_n dX3_append_20 rfl).mpr ?_
    refine (zq_dupR dX3_append_21).mpr ?_
    refine (zq_getI2 (f := 193) (v := (mI m 193 a0)) dX3_append_22 fl_3_17 (by decide) rfl rfl (by first | rfl | simp only [zm_Is, zm_Rs, zm_As, zm_Os, zm_In0, zm_Rn0])).mpr ⟨g1, ?_⟩
    refine (zq_iconst (v := 1) dX3_append_25 (by decide)).mpr ?_
    refine (zq_iadd dX3_append_26).mpr ?_
    refine (zq_putI (f := 193) dX3_append_27 fl_3_17 (by decide) rfl rfl rfl).mpr ⟨g1, ?_⟩
    refine (zq_aload_n dX3_append_30 rfl).mpr ?_
    obtain ⟨g5, h⟩ := h
    refine (zq_getI2 (f := 0) (v := (mI m 0 a1)) dX3_append_31 fl_3_30 (by decide) rfl rfl (by first | rfl | simp only [zm_Is, zm_Rs, zm_As, zm_Os, zm_In0, zm_Rn0])).mpr ⟨g5, ?_⟩
    refine (zq_iconst (v := 2) dX3_append_34 (by decide)).mpr ?_
    refine (zq_icmp_ne (t := 61) dX3_append_35 rfl).mpr ⟨fun c => ?_, fun c => ?_⟩
    · replace h := h.1 c
      exact h
    · replace h := h.2 c
      refine (zq_aload_n dX3_append_38 rfl).mpr ?_
      refine (zq_dupR dX3_append_39).mpr ?_
      refine (zq_getI2 (f := 194) (v := (mI m 194 a0)) dX3_append_40 fl_3_21 (by decide) rfl rfl (by first | rfl | simp only [zm_Is, zm_Rs, zm_As, zm_Os, zm_In0, zm_Rn0])).mpr ⟨g1, ?_⟩
      refine (zq_iconst (v := 1) dX3_append_43 (by decide)).mpr ?_
      refine (zq_iadd dX3_append_44).mpr ?_
      refine (zq_putI (f := 194) dX3_append_45 fl_3_21 (by decide) rfl rfl rfl).mpr ⟨g1, ?_⟩
      refine (zq_aload_n dX3_append_48 rfl).mpr ?_
      refine (zq_dupR dX3_append_49).mpr ?_
      refine (zq_getI2 (f := 195) (v := (mI m 195 a0)) dX3_append_50 fl_3_24 (by decide) rfl rfl (by first | rfl | simp only [zm_Is, zm_Rs, zm_As, zm_Os, zm_In0, zm_Rn0])).mpr ⟨g1, ?_⟩
      refine (zq_aload_n dX3_append_53 rfl).mpr ?_
      refine (zq_getI2 (f := 2) (v := (mI m 2 a1)) dX3_append_54 fl_3_33 (by decide) rfl rfl (by first | rfl | simp only [zm_Is, zm_Rs, zm_As, zm_Os, zm_In0, zm_Rn0])).mpr ⟨g5, ?_⟩
      refine (zq_iadd dX3_append_57).mpr ?_
      refine (zq_putI (f := 195) dX3_append_58 fl_3_24 (by decide) rfl rfl rfl).mpr ⟨g1, ?_⟩
      exact h
  · replace h := h.2 c
    exact (zq_ret dX3_append_9 rfl).mpr h
theorem bX3_append_61 {a0 : Nat} {a1 : Nat} {a2 : zV} (h : (mC m a1 = 1) ∧ (((mI m 0 a1) = 3 → zW xs xl d cX3_append 3 (none) false [] 91 [zR a0, zR a1, a2] [zI 1] m Q) ∧ (¬ ((mI m 0 a1) = 3) → (((mI m 0 a1) = 4 → zW xs xl d cX3_append 3 (none) false [] 91 [zR a0, zR a1, a2] [zI 1] m Q) ∧ (¬ ((mI m 0 a1) = 4) → (((mI m 0 a1) ≠ 6 → zW xs xl d cX3_append 3 (none) false [] 91 [zR a0, zR a1, a2] [zI 0] m Q) ∧ (¬ ((mI m 0 a1) ≠ 6) → zW xs xl d cX3_append 3 (none) false [] 91 [zR a0, zR a1, a2] [zI 1] m Q))))))) : zW xs xl d cX3_append 3 (none) false [] 61 [zR a0, zR a1, a2] [] m Q := by
  refine (zq_aload_n dX3_append_61 rfl).mpr ?_
  obtain ⟨g1, h⟩ := h
  refine (zq_getI2 (f := 0) (v := (mI m 0 a1)) dX3_append_62 fl_3_30 (by decide) rfl rfl (by first | rfl | simp only [zm_Is, zm_Rs, zm_As, zm_Os, zm_In0, zm_Rn0])).mpr ⟨g1, ?_⟩
  refine (zq_iconst (v := 3) dX3_append_65 (by decide)).mpr ?_
  refine (zq_icmp_eq (t := 86) dX3_append_66 rfl).mpr ⟨fun c => ?_, fun c => ?_⟩
  · replace h := h.1 c
    refine (zq_iconst (v := 1) dX3_append_86 (by decide)).mpr ?_
    refine (zq_goto (t := 91) dX3_append_87 rfl).mpr ?_
    exact h
  · replace h := h.2 c
    refine (zq_aload_n dX3_append_69 rfl).mpr ?_
    refine (zq_getI2 (f := 0) (v := (mI m 0 a1)) dX3_append_70 fl_3_30 (by decide) rfl rfl (by first | rfl | simp only [zm_Is, zm_Rs, zm_As, zm_Os, zm_In0, zm_Rn0])).mpr ⟨g1, ?_⟩
    refine (zq_iconst (v := 4) dX3_append_73 (by decide)).mpr ?_
    refine (zq_icmp_eq (t := 86) dX3_append_74 rfl).mpr ⟨fun c => ?_, fun c => ?_⟩
    · replace h := h.1 c
      refine (zq_iconst (v := 1) dX3_append_86 (by decide)).mpr ?_
      refine (zq_goto (t := 91) dX3_append_87 rfl).mpr ?_
      exact h
    · replace h := h.2 c
      refine (zq_aload_n dX3_append_77 rfl).mpr ?_
      refine (zq_getI2 (f := 0) (v := (mI m 0 a1)) dX3_append_78 fl_3_30 (by decide) rfl rfl (by first | rfl | simp only [zm_Is, zm_Rs, zm_As, zm_Os, zm_In0, zm_Rn0])).mpr ⟨g1, ?_⟩
      refine (zq_bipush (v := 6) dX3_append_81 (by decide)).mpr ?_
      refine (zq_icmp_ne (t := 90) dX3_append_83 rfl).mpr ⟨fun c => ?_, fun c => ?_⟩
      · replace h := h.1 c
        refine (zq_iconst (v := 0) dX3_append_90 (by decide)).mpr ?_
        exact h
      · replace h := h.2 c
        refine (zq_iconst (v := 1) dX3_append_86 (by decide)).mpr ?_
        refine (zq_goto (t := 91) dX3_append_87 rfl).mpr ?_
        exact h
theorem bX3_append_91 {a0 : Nat} {a1 : Nat} {a2 : zV} {s0 : Int} (h : (mC m a0 = 4) ∧ ((s0 = 0 → Q (.inl none) (sI m 196 a0 (wr ((mI m 196 a0) + 1)))) ∧ (¬ (s0 = 0) → (mC m a1 = 1) ∧ Q (.inl none) (sI m 196 a0 (wr ((mI m 196 a0) + (mI m 1 a1))))))) : zW xs xl d cX3_append 3 (none) false [] 91 [zR a0, zR a1, a2] [zI s0] m Q := by
  refine (zq_istore_n (l := [zR a0, zR a1, zI s0]) dX3_append_91 (Nat.le_of_ble_eq_true rfl) rfl).mpr ?_
  refine (zq_aload_n dX3_append_92 rfl).mpr ?_
  refine (zq_dupR dX3_append_93).mpr ?_
  obtain ⟨g1, h⟩ := h
  refine (zq_getI2 (f := 196) (v := (mI m 196 a0)) dX3_append_94 fl_3_27 (by decide) rfl rfl (by first | rfl | simp only [zm_Is, zm_Rs, zm_As, zm_Os, zm_In0, zm_Rn0])).mpr ⟨g1, ?_⟩
  refine (zq_iload_n dX3_append_97 rfl).mpr ?_
  refine (zq_if_eq (t := 108) dX3_append_98 rfl).mpr ⟨fun c => ?_, fun c => ?_⟩
  · replace h := h.1 c
    refine (zq_iconst (v := 1) dX3_append_108 (by decide)).mpr ?_
    refine (zq_iadd dX3_append_109).mpr ?_
    refine (zq_putI (f := 196) dX3_append_110 fl_3_27 (by decide) rfl rfl rfl).mpr ⟨g1, ?_⟩
    exact (zq_ret dX3_append_113 rfl).mpr h
  · replace h := h.2 c
    refine (zq_aload_n dX3_append_101 rfl).mpr ?_
    obtain ⟨g2, h⟩ := h
    refine (zq_getI2 (f := 1) (v := (mI m 1 a1)) dX3_append_102 fl_3_36 (by decide) rfl rfl (by first | rfl | simp only [zm_Is, zm_Rs, zm_As, zm_Os, zm_In0, zm_Rn0])).mpr ⟨g2, ?_⟩
    refine (zq_goto (t := 109) dX3_append_105 rfl).mpr ?_
    refine (zq_iadd dX3_append_109).mpr ?_
    refine (zq_putI (f := 196) dX3_append_110 fl_3_27 (by decide) rfl rfl rfl).mpr ⟨g1, ?_⟩
    exact (zq_ret dX3_append_113 rfl).mpr h
theorem bX3_at_0 {a0 : Nat} {a1 : Int} (h : (mC m a0 = 4) ∧ zC xs xl d 127 [zI a1, zI (mI m 193 a0)] m (fun r m2 => ∃ v3 : Int, r = .inl (some (zI v3)) ∧ ((v3 = 0 → Q (.inl (some (zR 0))) m2) ∧ (¬ (v3 = 0) → (mC m2 a0 = 4) ∧ (29 ≤ mC m2 (mR m2 192 a0) ∧ mC m2 (mR m2 192 a0) < 43) ∧ (0 ≤ a1 ∧ a1 < mN m2 (mR m2 192 a0)) ∧ Q (.inl (some (zR (mO m2 (mR m2 192 a0) (Int.toNat a1))))) m2)))) : zC xs xl (d + 1) 33 [zR a0, zI a1] m Q := by
  refine zk_33 ?_
  refine (zq_iload_n dX3_at_0 rfl).mpr ?_
  refine (zq_aload_n dX3_at_1 rfl).mpr ?_
  obtain ⟨g1, h⟩ := h
  refine (zq_getI2 (f := 193) (v := (mI m 193 a0)) dX3_at_2 fl_3_17 (by decide) rfl rfl (by first | rfl | simp only [zm_Is, zm_Rs, zm_As, zm_Os, zm_In0, zm_Rn0])).mpr ⟨g1, ?_⟩
  refine zq_staticI (n := 2) dX3_at_5 mr_3_39 zn_127 rfl rfl (Nat.le_of_ble_eq_true rfl) (Nat.le_of_ble_eq_true rfl) ?_
  refine h.mono (fun r m2 h => ?_)
  obtain ⟨v3, rfl, h⟩ := h
  refine ⟨_, rfl, ?_⟩
  refine (zq_if_eq (t := 20) dX3_at_8 rfl).mpr ⟨fun c => ?_, fun c => ?_⟩
  · replace h := h.1 c
    refine (zq_null dX3_at_20).mpr ?_
    exact (zq_aret dX3_at_21 rfl rfl).mpr h
  · replace h := h.2 c
    refine (zq_aload_n dX3_at_11 rfl).mpr ?_
    obtain ⟨g4, h⟩ := h
    refine (zq_getR2 (f := 192) (v := (mR m2 192 a0)) dX3_at_12 fl_3_11 (by decide) rfl rfl (by first | rfl | simp only [zm_Is, zm_Rs, zm_As, zm_Os, zm_In0, zm_Rn0])).mpr ⟨g4, ?_⟩
    refine (zq_iload_n dX3_at_15 rfl).mpr ?_
    obtain ⟨g5, h⟩ := h
    obtain ⟨g6, h⟩ := h
    refine (zq_aald2 (v := (mO m2 (mR m2 192 a0) (Int.toNat a1))) dX3_at_16 (by first | rfl | simp only [zm_Is, zm_Rs, zm_As, zm_Os, zm_In0, zm_Rn0])).mpr ⟨⟨g5.1, g5.2, g6⟩, ?_⟩
    refine (zq_goto (t := 21) dX3_at_17 rfl).mpr ?_
    exact (zq_aret dX3_at_21 rfl rfl).mpr h
theorem bX3_tell_0 {a0 : Nat} {a1 : Int} (h : ((a1 = 0 → (mC m a0 = 4) ∧ Q (.inl (some (zI (mI m 193 a0)))) m) ∧ (a1 ≠ 0 → ((a1 = 1 → (mC m a0 = 4) ∧ Q (.inl (some (zI (mI m 194 a0)))) m) ∧ (a1 ≠ 1 → ((a1 = 2 → (mC m a0 = 4) ∧ Q (.inl (some (zI (mI m 195 a0)))) m) ∧ (a1 ≠ 2 → (mC m a0 = 4) ∧ Q (.inl (some (zI (mI m 196 a0)))) m))))))) : zC xs xl (d + 1) 34 [zR a0, zI a1] m Q := by
  refine zk_34 ?_
  refine (zq_iload_n dX3_tell_0 rfl).mpr ?_
  refine (zq_tab (td := 43) (r := [28, 33, 38]) dX3_tell_1 rfl rfl rfl).mpr ?_
  refine ⟨fun c => ?_, fun c => ?_⟩
  · replace h := h.1 c
    refine (zq_aload_n dX3_tell_28 rfl).mpr ?_
    obtain ⟨g1, h⟩ := h
    refine (zq_getI2 (f := 193) (v := (mI m 193 a0)) dX3_tell_29 fl_3_17 (by decide) rfl rfl (by first | rfl | simp only [zm_Is, zm_Rs, zm_As, zm_Os, zm_In0, zm_Rn0])).mpr ⟨g1, ?_⟩
    exact (zq_iret dX3_tell_32 rfl).mpr ⟨trivial, h⟩
  · replace h := h.2 c
    refine ⟨fun c => ?_, fun c => ?_⟩
    · replace h := h.1 c
      refine (zq_aload_n dX3_tell_33 rfl).mpr ?_
      obtain ⟨g2, h⟩ := h
      refine (zq_getI2 (f := 194) (v := (mI m 194 a0)) dX3_tell_34 fl_3_21 (by decide) rfl rfl (by first | rfl | simp only [zm_Is, zm_Rs, zm_As, zm_Os, zm_In0, zm_Rn0])).mpr ⟨g2, ?_⟩
      exact (zq_iret dX3_tell_37 rfl).mpr ⟨trivial, h⟩
    · replace h := h.2 c
      refine ⟨fun c => ?_, fun c => ?_⟩
      · replace h := h.1 c
        refine (zq_aload_n dX3_tell_38 rfl).mpr ?_
        obtain ⟨g3, h⟩ := h
        refine (zq_getI2 (f := 195) (v := (mI m 195 a0)) dX3_tell_39 fl_3_24 (by decide) rfl rfl (by first | rfl | simp only [zm_Is, zm_Rs, zm_As, zm_Os, zm_In0, zm_Rn0])).mpr ⟨g3, ?_⟩
        exact (zq_iret dX3_tell_42 rfl).mpr ⟨trivial, h⟩
      · replace h := h.2 c
        refine (zq_aload_n dX3_tell_43 rfl).mpr ?_
        obtain ⟨g4, h⟩ := h
        refine (zq_getI2 (f := 196) (v := (mI m 196 a0)) dX3_tell_44 fl_3_27 (by decide) rfl rfl (by first | rfl | simp only [zm_Is, zm_Rs, zm_As, zm_Os, zm_In0, zm_Rn0])).mpr ⟨g4, ?_⟩
        exact (zq_iret dX3_tell_47 rfl).mpr ⟨trivial, h⟩
theorem bX4_init_0 {a0 : Nat} (h : (a0 ≠ 0) ∧ (mC m a0 = 5) ∧ (∀ m3 : zM, m3 = nwA (sI (sI (sI (sI m 256 a0 0) 257 a0 0) 258 a0 0) 259 a0 0) 20 8 → (mC m3 a0 = 5) ∧ Q (.inl none) (sR m3 260 a0 (mz m)))) : zC xs xl (d + 1) 35 [zR a0] m Q := by
  refine zk_35 ?_
  refine (zq_aload_n dX4_init_0 rfl).mpr ?_
  obtain ⟨g1, h⟩ := h
  refine (zq_oinit dX4_init_1 mr_4_3).mpr ⟨⟨g1, (Nat.le_of_ble_eq_true rfl)⟩, ?_⟩
  refine (zq_aload_n dX4_init_4 rfl).mpr ?_
  refine (zq_iconst (v := 0) dX4_init_5 (by decide)).mpr ?_
  obtain ⟨g2, h⟩ := h
  refine (zq_putI (f := 256) dX4_init_6 fl_4_9 (by decide) rfl rfl rfl).mpr ⟨g2, ?_⟩
  refine (zq_aload_n dX4_init_9 rfl).mpr ?_
  refine (zq_iconst (v := 0) dX4_init_10 (by decide)).mpr ?_
  refine (zq_putI (f := 257) dX4_init_11 fl_4_15 (by decide) rfl rfl rfl).mpr ⟨g2, ?_⟩
  refine (zq_aload_n dX4_init_14 rfl).mpr ?_
  refine (zq_iconst (v := 0) dX4_init_15 (by decide)).mpr ?_
  refine (zq_putI (f := 258) dX4_init_16 fl_4_18 (by decide) rfl rfl rfl).mpr ⟨g2, ?_⟩
  refine (zq_aload_n dX4_init_19 rfl).mpr ?_
  refine (zq_iconst (v := 0) dX4_init_20 (by decide)).mpr ?_
  refine (zq_putI (f := 259) dX4_init_21 fl_4_21 (by decide) rfl rfl rfl).mpr ⟨g2, ?_⟩
  refine (zq_aload_n dX4_init_24 rfl).mpr ?_
  refine (zq_bipush (v := 8) dX4_init_25 (by decide)).mpr ?_
  refine zq_newarray2 (kd := 20) (i := 8) dX4_init_27 rfl (by decide) rfl ⟨by decide, by decide⟩ (fun m3 em3 => ?_)
  replace h := h m3 em3
  obtain ⟨g4, h⟩ := h
  refine (zq_putR (f := 260) dX4_init_29 fl_4_24 (by decide) rfl rfl rfl).mpr ⟨g4, ?_⟩
  exact (zq_ret dX4_init_32 rfl).mpr h
theorem bX4_become_0 {a0 : Nat} {a1 : Int} {a2 : Int} {a3 : Int} (h : (mC m a0 = 5) ∧ Q (.inl none) (sI (sI (sI (sI m 256 a0 a1) 257 a0 a2) 258 a0 a3) 259 a0 0)) : zC xs xl (d + 1) 36 [zR a0, zI a1, zI a2, zI a3] m Q := by
  refine zk_36 ?_
  refine (zq_aload_n dX4_become_0 rfl).mpr ?_
  refine (zq_iload_n dX4_become_1 rfl).mpr ?_
  obtain ⟨g1, h⟩ := h
  refine (zq_putI (f := 256) dX4_become_2 fl_4_9 (by decide) rfl rfl rfl).mpr ⟨g1, ?_⟩
  refine (zq_aload_n dX4_become_5 rfl).mpr ?_
  refine (zq_iload_n dX4_become_6 rfl).mpr ?_
  refine (zq_putI (f := 257) dX4_become_7 fl_4_15 (by decide) rfl rfl rfl).mpr ⟨g1, ?_⟩
  refine (zq_aload_n dX4_become_10 rfl).mpr ?_
  refine (zq_iload_n dX4_become_11 rfl).mpr ?_
  refine (zq_putI (f := 258) dX4_become_12 fl_4_18 (by decide) rfl rfl rfl).mpr ⟨g1, ?_⟩
  refine (zq_aload_n dX4_become_15 rfl).mpr ?_
  refine (zq_iconst (v := 0) dX4_become_16 (by decide)).mpr ?_
  refine (zq_putI (f := 259) dX4_become_17 fl_4_21 (by decide) rfl rfl rfl).mpr ⟨g1, ?_⟩
  exact (zq_ret dX4_become_20 rfl).mpr h
theorem bX4_hasKnotAt_0 {a0 : Nat} {a1 : Int} (h : zW xs xl d cX4_hasKnotAt 4 (some .boolean) false [] 2 [zR a0, zI a1, zI 0] [] m Q) : zC xs xl (d + 1) 37 [zR a0, zI a1] m Q := by
  refine zk_37 ?_
  refine (zq_iconst (v := 0) dX4_hasKnotAt_0 (by decide)).mpr ?_
  refine (zq_istore_n (l := [zR a0, zI a1, zI 0]) dX4_hasKnotAt_1 (Nat.le_of_ble_eq_true rfl) rfl).mpr ?_
  exact h
theorem bX4_hasKnotAt_2 {a0 : Nat} {a1 : Int} {a2 : Int} (h : (mC m a0 = 5) ∧ (((mI m 259 a0) ≤ a2 → Q (.inl (some (zI 0))) m) ∧ (¬ ((mI m 259 a0) ≤ a2) → (mC m (mR m 260 a0) = 20) ∧ (0 ≤ a2 ∧ a2 < mN m (mR m 260 a0)) ∧ (((mA m (mR m 260 a0) (Int.toNat a2)) ≠ a1 → zW xs xl d cX4_hasKnotAt 4 (some .boolean) false [] 2 [zR a0, zI a1, zI (wr (a2 + 1))] [] m Q) ∧ (¬ ((mA m (mR m 260 a0) (Int.toNat a2)) ≠ a1) → Q (.inl (some (zI 1))) m))))) : zW xs xl d cX4_hasKnotAt 4 (some .boolean) false [] 2 [zR a0, zI a1, zI a2] [] m Q := by
  refine (zq_iload_n dX4_hasKnotAt_2 rfl).mpr ?_
  refine (zq_aload_n dX4_hasKnotAt_3 rfl).mpr ?_
  obtain ⟨g1, h⟩ := h
  refine (zq_getI2 (f := 259) (v := (mI m 259 a0)) dX4_hasKnotAt_4 fl_4_21 (by decide) rfl rfl (by first | rfl | simp only [zm_Is, zm_Rs, zm_As, zm_Os, zm_In0, zm_Rn0])).mpr ⟨g1, ?_⟩
  refine (zq_icmp_ge (t := 28) dX4_hasKnotAt_7 rfl).mpr ⟨fun c => ?_, fun c => ?_⟩
  · replace h := h.1 c
    refine (zq_iconst (v := 0) dX4_hasKnotAt_28 (by decide)).mpr ?_
    exact (zq_iret dX4_hasKnotAt_29 rfl).mpr ⟨Or.inl rfl, h⟩
  · replace h := h.2 c
    refine (zq_aload_n dX4_hasKnotAt_10 rfl).mpr ?_
    refine (zq_getR2 (f := 260) (v := (mR m 260 a0)) dX4_hasKnotAt_11 fl_4_24 (by decide) rfl rfl (by first | rfl | simp only [zm_Is, zm_Rs, zm_As, zm_Os, zm_In0, zm_Rn0])).mpr ⟨g1, ?_⟩
    refine (zq_iload_n dX4_hasKnotAt_14 rfl).mpr ?_
    obtain ⟨g2, h⟩ := h
    obtain ⟨g3, h⟩ := h
    refine (zq_iald2 (v := (mA m (mR m 260 a0) (Int.toNat a2))) dX4_hasKnotAt_15 (by first | rfl | simp only [zm_Is, zm_Rs, zm_As, zm_Os, zm_In0, zm_Rn0])).mpr ⟨⟨g2, g3⟩, ?_⟩
    refine (zq_iload_n dX4_hasKnotAt_16 rfl).mpr ?_
    refine (zq_icmp_ne (t := 22) dX4_hasKnotAt_17 rfl).mpr ⟨fun c => ?_, fun c => ?_⟩
    · replace h := h.1 c
      refine (zq_iinc (l := [zR a0, zI a1, zI (wr (a2 + 1))]) dX4_hasKnotAt_22 rfl rfl).mpr ?_
      refine (zq_goto (t := 2) dX4_hasKnotAt_25 rfl).mpr ?_
      exact h
    · replace h := h.2 c
      refine (zq_iconst (v := 1) dX4_hasKnotAt_20 (by decide)).mpr ?_
      exact (zq_iret dX4_hasKnotAt_21 rfl).mpr ⟨Or.inr rfl, h⟩
theorem bX4_insertKnot_0 {a0 : Nat} {a1 : Int} (h : (mC m a0 = 5) ∧ (((mI m 259 a0) < 8 → zW xs xl d cX4_insertKnot 4 (none) false [] 15 [zR a0, zI a1, zI (mI m 259 a0)] [] m Q) ∧ (¬ ((mI m 259 a0) < 8) → Q (.inl none) m))) : zC xs xl (d + 1) 38 [zR a0, zI a1] m Q := by
  refine zk_38 ?_
  refine (zq_aload_n dX4_insertKnot_0 rfl).mpr ?_
  obtain ⟨g1, h⟩ := h
  refine (zq_getI2 (f := 259) (v := (mI m 259 a0)) dX4_insertKnot_1 fl_4_21 (by decide) rfl rfl (by first | rfl | simp only [zm_Is, zm_Rs, zm_As, zm_Os, zm_In0, zm_Rn0])).mpr ⟨g1, ?_⟩
  refine (zq_bipush (v := 8) dX4_insertKnot_4 (by decide)).mpr ?_
  refine (zq_icmp_lt (t := 10) dX4_insertKnot_6 rfl).mpr ⟨fun c => ?_, fun c => ?_⟩
  · replace h := h.1 c
    refine (zq_aload_n dX4_insertKnot_10 rfl).mpr ?_
    refine (zq_getI2 (f := 259) (v := (mI m 259 a0)) dX4_insertKnot_11 fl_4_21 (by decide) rfl rfl (by first | rfl | simp only [zm_Is, zm_Rs, zm_As, zm_Os, zm_In0, zm_Rn0])).mpr ⟨g1, ?_⟩
    refine (zq_istore_n (l := [zR a0, zI a1, zI (mI m 259 a0)]) dX4_insertKnot_14 (Nat.le_of_ble_eq_true rfl) rfl).mpr ?_
    exact h
  · replace h := h.2 c
    exact (zq_ret dX4_insertKnot_9 rfl).mpr h
theorem bX4_insertKnot_15 {a0 : Nat} {a1 : Int} {a2 : Int} (h : ((a2 ≤ 0 → zW xs xl d cX4_insertKnot 4 (none) false [] 51 [zR a0, zI a1, zI a2] [] m Q) ∧ (¬ (a2 ≤ 0) → (mC m a0 = 5) ∧ (mC m (mR m 260 a0) = 20) ∧ (0 ≤ (wr (a2 - 1)) ∧ (wr (a2 - 1)) < mN m (mR m 260 a0)) ∧ (((mA m (mR m 260 a0) (Int.toNat (wr (a2 - 1)))) ≤ a1 → zW xs xl d cX4_insertKnot 4 (none) false [] 51 [zR a0, zI a1, zI a2] [] m Q) ∧ (¬ ((mA m (mR m 260 a0) (Int.toNat (wr (a2 - 1)))) ≤ a1) → (0 ≤ a2 ∧ a2 < mN m (mR m 260 a0)) ∧ zW xs xl d cX4_insertKnot 4 (none) false [] 15 [zR a0, zI a1, zI (wr (a2 + (-1)))] [] (sA m (mR m 260 a0) (Int.toNat a2) (mA m (mR m 260 a0) (Int.toNat (wr (a2 - 1))))) Q))))) : zW xs xl d cX4_insertKnot 4 (none) false [] 15 [zR a0, zI a1, zI a2] [] m Q := by
  refine (zq_iload_n dX4_insertKnot_15 rfl).mpr ?_
  refine (zq_if_le (t := 51) dX4_insertKnot_16 rfl).mpr ⟨fun c => ?_, fun c => ?_⟩
  · replace h := h.1 c
    exact h
  · replace h := h.2 c
    refine (zq_aload_n dX4_insertKnot_19 rfl).mpr ?_
    obtain ⟨g1, h⟩ := h
    refine (zq_getR2 (f := 260) (v := (mR m 260 a0)) dX4_insertKnot_20 fl_4_24 (by decide) rfl rfl (by first | rfl | simp only [zm_Is, zm_Rs, zm_As, zm_Os, zm_In0, zm_Rn0])).mpr ⟨g1, ?_⟩
    refine (zq_iload_n dX4_insertKnot_23 rfl).mpr ?_
    refine (zq_iconst (v := 1) dX4_insertKnot_24 (by decide)).mpr ?_
    refine (zq_isub dX4_insertKnot_25).mpr ?_
    obtain ⟨g2, h⟩ := h
    obtain ⟨g3, h⟩ := h
    refine (zq_iald2 (v := (mA m (mR m 260 a0) (Int.toNat (wr (a2 - 1))))) dX4_insertKnot_26 (by first | rfl | simp only [zm_Is, zm_Rs, zm_As, zm_Os, zm_In0, zm_Rn0])).mpr ⟨⟨g2, g3⟩, ?_⟩
    refine (zq_iload_n dX4_insertKnot_27 rfl).mpr ?_
    refine (zq_icmp_le (t := 51) dX4_insertKnot_28 rfl).mpr ⟨fun c => ?_, fun c => ?_⟩
    · replace h := h.1 c
      exact h
    · replace h := h.2 c
      refine (zq_aload_n dX4_insertKnot_31 rfl).mpr ?_
      refine (zq_getR2 (f := 260) (v := (mR m 260 a0)) dX4_insertKnot_32 fl_4_24 (by decide) rfl rfl (by first | rfl | simp only [zm_Is, zm_Rs, zm_As, zm_Os, zm_In0, zm_Rn0])).mpr ⟨g1, ?_⟩
      refine (zq_iload_n dX4_insertKnot_35 rfl).mpr ?_
      refine (zq_aload_n dX4_insertKnot_36 rfl).mpr ?_
      refine (zq_getR2 (f := 260) (v := (mR m 260 a0)) dX4_insertKnot_37 fl_4_24 (by decide) rfl rfl (by first | rfl | simp only [zm_Is, zm_Rs, zm_As, zm_Os, zm_In0, zm_Rn0])).mpr ⟨g1, ?_⟩
      refine (zq_iload_n dX4_insertKnot_40 rfl).mpr ?_
      refine (zq_iconst (v := 1) dX4_insertKnot_41 (by decide)).mpr ?_
      refine (zq_isub dX4_insertKnot_42).mpr ?_
      refine (zq_iald2 (v := (mA m (mR m 260 a0) (Int.toNat (wr (a2 - 1))))) dX4_insertKnot_43 (by first | rfl | simp only [zm_Is, zm_Rs, zm_As, zm_Os, zm_In0, zm_Rn0])).mpr ⟨⟨g2, g3⟩, ?_⟩
      obtain ⟨g4, h⟩ := h
      refine (zq_iast dX4_insertKnot_44).mpr ⟨⟨g2, g4⟩, ?_⟩
      refine (zq_iinc (l := [zR a0, zI a1, zI (wr (a2 + (-1)))]) dX4_insertKnot_45 rfl rfl).mpr ?_
      refine (zq_goto (t := 15) dX4_insertKnot_48 rfl).mpr ?_
      exact h
theorem bX4_insertKnot_51 {a0 : Nat} {a1 : Int} {a2 : Int} (h : (mC m a0 = 5) ∧ (0 ≤ a2 ∧ a2 < mN m (mR m 260 a0)) ∧ (mC m (mR m 260 a0) = 20) ∧ Q (.inl none) (sI (sA m (mR m 260 a0) (Int.toNat a2) a1) 259 a0 (wr ((mI m 259 a0) + 1)))) : zW xs xl d cX4_insertKnot 4 (none) false [] 51 [zR a0, zI a1, zI a2] [] m Q := by
  refine (zq_aload_n dX4_insertKnot_51 rfl).mpr ?_
  obtain ⟨g1, h⟩ := h
  refine (zq_getR2 (f := 260) (v := (mR m 260 a0)) dX4_insertKnot_52 fl_4_24 (by decide) rfl rfl (by first | rfl | simp only [zm_Is, zm_Rs, zm_As, zm_Os, zm_In0, zm_Rn0])).mpr ⟨g1, ?_⟩
  refine (zq_iload_n dX4_insertKnot_55 rfl).mpr ?_
  refine (zq_iload_n dX4_insertKnot_56 rfl).mpr ?_
  obtain ⟨g2, h⟩ := h
  obtain ⟨g3, h⟩ := h
  refine (zq_iast dX4_insertKnot_57).mpr ⟨⟨g3, g2⟩, ?_⟩
  refine (zq_aload_n dX4_insertKnot_58 rfl).mpr ?_
  refine (zq_dupR dX4_insertKnot_59).mpr ?_
  refine (zq_getI2 (f := 259) (v := (mI m 259 a0)) dX4_insertKnot_60 fl_4_21 (by decide) rfl rfl (by first | rfl | simp only [zm_Is, zm_Rs, zm_As, zm_Os, zm_In0, zm_Rn0])).mpr ⟨g1, ?_⟩
  refine (zq_iconst (v := 1) dX4_insertKnot_63 (by decide)).mpr ?_
  refine (zq_iadd dX4_insertKnot_64).mpr ?_
  refine (zq_putI (f := 259) dX4_insertKnot_65 fl_4_21 (by decide) rfl rfl rfl).mpr ⟨g1, ?_⟩
  exact (zq_ret dX4_insertKnot_68 rfl).mpr h
theorem bX4_clearPlaceFor_0 {a0 : Nat} {a1 : Int} (h : zW xs xl d cX4_clearPlaceFor 4 (some .int) false [] 4 [zR a0, zI a1, zI 0, zI 0] [] m Q) : zC xs xl (d + 1) 39 [zR a0, zI a1] m Q := by
  refine zk_39 ?_
  refine (zq_iconst (v := 0) dX4_clearPlaceFor_0 (by decide)).mpr ?_
  refine (zq_istore_n (l := [zR a0, zI a1, zI 0, zU]) dX4_clearPlaceFor_1 (Nat.le_of_ble_eq_true rfl) rfl).mpr ?_
  refine (zq_iconst (v := 0) dX4_clearPlaceFor_2 (by decide)).mpr ?_
  refine (zq_istore_n (l := [zR a0, zI a1, zI 0, zI 0]) dX4_clearPlaceFor_3 (Nat.le_of_ble_eq_true rfl) rfl).mpr ?_
  exact h
theorem bX4_clearPlaceFor_4 {a0 : Nat} {a1 : Int} {a2 : Int} {a3 : Int} (h : (mC m a0 = 5) ∧ (((mI m 259 a0) ≤ a3 → (((wr ((mI m 257 a0) - a2)) < a1 → Q (.inl (some (zI (-1)))) m) ∧ (¬ ((wr ((mI m 257 a0) - a2)) < a1) → Q (.inl (some (zI a2))) m))) ∧ (¬ ((mI m 259 a0) ≤ a3) → (mC m (mR m 260 a0) = 20) ∧ (0 ≤ a3 ∧ a3 < mN m (mR m 260 a0)) ∧ (((wr ((mA m (mR m 260 a0) (Int.toNat a3)) - a2)) < a1 → zW xs xl d cX4_clearPlaceFor 4 (some .int) false [] 4 [zR a0, zI a1, zI (wr ((mA m (mR m 260 a0) (Int.toNat a3)) + 1)), zI (wr (a3 + 1))] [] m Q) ∧ (¬ ((wr ((mA m (mR m 260 a0) (Int.toNat a3)) - a2)) < a1) → Q (.inl (some (zI a2))) m))))) : zW xs xl d cX4_clearPlaceFor 4 (some .int) false [] 4 [zR a0, zI a1, zI a2, zI a3] [] m Q := by
  refine (zq_iload_n dX4_clearPlaceFor_4 rfl).mpr ?_
  refine (zq_aload_n dX4_clearPlaceFor_5 rfl).mpr ?_
  obtain ⟨g1, h⟩ := h
  refine (zq_getI2 (f := 259) (v := (mI m 259 a0)) dX4_clearPlaceFor_6 fl_4_21 (by decide) rfl rfl (by first | rfl | simp only [zm_Is, zm_Rs, zm_As, zm_Os, zm_In0, zm_Rn0])).mpr ⟨g1, ?_⟩
  refine (zq_icmp_ge (t := 41) dX4_clearPlaceFor_9 rfl).mpr ⟨fun c => ?_, fun c => ?_⟩
  · replace h := h.1 c
    refine (zq_aload_n dX4_clearPlaceFor_41 rfl).mpr ?_
    refine (zq_getI2 (f := 257) (v := (mI m 257 a0)) dX4_clearPlaceFor_42 fl_4_15 (by decide) rfl rfl (by first | rfl | simp only [zm_Is, zm_Rs, zm_As, zm_Os, zm_In0, zm_Rn0])).mpr ⟨g1, ?_⟩
    refine (zq_iload_n dX4_clearPlaceFor_45 rfl).mpr ?_
    refine (zq_isub dX4_clearPlaceFor_46).mpr ?_
    refine (zq_iload_n dX4_clearPlaceFor_47 rfl).mpr ?_
    refine (zq_icmp_lt (t := 55) dX4_clearPlaceFor_48 rfl).mpr ⟨fun c => ?_, fun c => ?_⟩
    · replace h := h.1 c
      refine (zq_iconst (v := (-1)) dX4_clearPlaceFor_55 (by decide)).mpr ?_
      exact (zq_iret dX4_clearPlaceFor_56 rfl).mpr ⟨trivial, h⟩
    · replace h := h.2 c
      refine (zq_iload_n dX4_clearPlaceFor_51 rfl).mpr ?_
      refine (zq_goto (t := 56) dX4_clearPlaceFor_52 rfl).mpr ?_
      exact (zq_iret dX4_clearPlaceFor_56 rfl).mpr ⟨trivial, h⟩
  · replace h := h.2 c
    refine (zq_aload_n dX4_clearPlaceFor_12 rfl).mpr ?_
    refine (zq_getR2 (f := 260) (v := (mR m 260 a0)) dX4_clearPlaceFor_13 fl_4_24 (by decide) rfl rfl (by first | rfl | simp only [zm_Is, zm_Rs, zm_As, zm_Os, zm_In0, zm_Rn0])).mpr ⟨g1, ?_⟩
    refine (zq_iload_n dX4_clearPlaceFor_16 rfl).mpr ?_
    obtain ⟨g2, h⟩ := h
    obtain ⟨g3, h⟩ := h
    refine (zq_iald2 (v := (mA m (mR m 260 a0) (Int.toNat a3))) dX4_clearPlaceFor_17 (by first | rfl | simp only [zm_Is, zm_Rs, zm_As, zm_Os, zm_In0, zm_Rn0])).mpr ⟨⟨g2, g3⟩, ?_⟩
    refine (zq_iload_n dX4_clearPlaceFor_18 rfl).mpr ?_
    refine (zq_isub dX4_clearPlaceFor_19).mpr ?_
    refine (zq_iload_n dX4_clearPlaceFor_20 rfl).mpr ?_
    refine (zq_icmp_lt (t := 26) dX4_clearPlaceFor_21 rfl).mpr ⟨fun c => ?_, fun c => ?_⟩
    · replace h := h.1 c
      refine (zq_aload_n dX4_clearPlaceFor_26 rfl).mpr ?_
      refine (zq_getR2 (f := 260) (v := (mR m 260 a0)) dX4_clearPlaceFor_27 fl_4_24 (by decide) rfl rfl (by first | rfl | simp only [zm_Is, zm_Rs, zm_As, zm_Os, zm_In0, zm_Rn0])).mpr ⟨g1, ?_⟩
      refine (zq_iload_n dX4_clearPlaceFor_30 rfl).mpr ?_
      refine (zq_iald2 (v := (mA m (mR m 260 a0) (Int.toNat a3))) dX4_clearPlaceFor_31 (by first | rfl | simp only [zm_Is, zm_Rs, zm_As, zm_Os, zm_In0, zm_Rn0])).mpr ⟨⟨g2, g3⟩, ?_⟩
      refine (zq_iconst (v := 1) dX4_clearPlaceFor_32 (by decide)).mpr ?_
      refine (zq_iadd dX4_clearPlaceFor_33).mpr ?_
      refine (zq_istore_n (l := [zR a0, zI a1, zI (wr ((mA m (mR m 260 a0) (Int.toNat a3)) + 1)), zI a3]) dX4_clearPlaceFor_34 (Nat.le_of_ble_eq_true rfl) rfl).mpr ?_
      refine (zq_iinc (l := [zR a0, zI a1, zI (wr ((mA m (mR m 260 a0) (Int.toNat a3)) + 1)), zI (wr (a3 + 1))]) dX4_clearPlaceFor_35 rfl rfl).mpr ?_
      refine (zq_goto (t := 4) dX4_clearPlaceFor_38 rfl).mpr ?_
      exact h
    · replace h := h.2 c
      refine (zq_iload_n dX4_clearPlaceFor_24 rfl).mpr ?_
      exact (zq_iret dX4_clearPlaceFor_25 rfl).mpr ⟨trivial, h⟩
theorem bX4_mostClear_0 {a0 : Nat} (h : zW xs xl d cX4_mostClear 4 (some .int) false [] 6 [zR a0, zI 0, zI 0, zI 0] [] m Q) : zC xs xl (d + 1) 40 [zR a0] m Q := by
  refine zk_40 ?_
  refine (zq_iconst (v := 0) dX4_mostClear_0 (by decide)).mpr ?_
  refine (zq_istore_n (l := [zR a0, zI 0, zU, zU]) dX4_mostClear_1 (Nat.le_of_ble_eq_true rfl) rfl).mpr ?_
  refine (zq_iconst (v := 0) dX4_mostClear_2 (by decide)).mpr ?_
  refine (zq_istore_n (l := [zR a0, zI 0, zI 0, zU]) dX4_mostClear_3 (Nat.le_of_ble_eq_true rfl) rfl).mpr ?_
  refine (zq_iconst (v := 0) dX4_mostClear_4 (by decide)).mpr ?_
  refine (zq_istore_n (l := [zR a0, zI 0, zI 0, zI 0]) dX4_mostClear_5 (Nat.le_of_ble_eq_true rfl) rfl).mpr ?_
  exact h
theorem bX4_mostClear_6 {a0 : Nat} {a1 : Int} {a2 : Int} {a3 : Int} (h : (mC m a0 = 5) ∧ (((mI m 259 a0) ≤ a3 → Q (.inl (some (zI (if a2 < (wr ((mI m 257 a0) - a1)) then (wr ((mI m 257 a0) - a1)) else a2)))) m) ∧ (¬ ((mI m 259 a0) ≤ a3) → (mC m (mR m 260 a0) = 20) ∧ (0 ≤ a3 ∧ a3 < mN m (mR m 260 a0)) ∧ zW xs xl d cX4_mostClear 4 (some .int) false [] 6 [zR a0, zI (wr ((mA m (mR m 260 a0) (Int.toNat a3)) + 1)), zI (if a2 < (wr ((mA m (mR m 260 a0) (Int.toNat a3)) - a1)) then (wr ((mA m (mR m 260 a0) (Int.toNat a3)) - a1)) else a2), zI (wr (a3 + 1))] [] m Q))) : zW xs xl d cX4_mostClear 4 (some .int) false [] 6 [zR a0, zI a1, zI a2, zI a3] [] m Q := by
  refine (zq_iload_n dX4_mostClear_6 rfl).mpr ?_
  refine (zq_aload_n dX4_mostClear_7 rfl).mpr ?_
  obtain ⟨g1, h⟩ := h
  refine (zq_getI2 (f := 259) (v := (mI m 259 a0)) dX4_mostClear_8 fl_4_21 (by decide) rfl rfl (by first | rfl | simp only [zm_Is, zm_Rs, zm_As, zm_Os, zm_In0, zm_Rn0])).mpr ⟨g1, ?_⟩
  refine (zq_icmp_ge (t := 42) dX4_mostClear_11 rfl).mpr ⟨fun c => ?_, fun c => ?_⟩
  · replace h := h.1 c
    refine (zq_iload_n dX4_mostClear_42 rfl).mpr ?_
    refine (zq_aload_n dX4_mostClear_43 rfl).mpr ?_
    refine (zq_getI2 (f := 257) (v := (mI m 257 a0)) dX4_mostClear_44 fl_4_15 (by decide) rfl rfl (by first | rfl | simp only [zm_Is, zm_Rs, zm_As, zm_Os, zm_In0, zm_Rn0])).mpr ⟨g1, ?_⟩
    refine (zq_iload_n dX4_mostClear_47 rfl).mpr ?_
    refine (zq_isub dX4_mostClear_48).mpr ?_
    refine (zq_max dX4_mostClear_49 mr_4_28).mpr ⟨(Nat.le_of_ble_eq_true rfl), ?_⟩
    exact (zq_iret dX4_mostClear_52 rfl).mpr ⟨trivial, h⟩
  · replace h := h.2 c
    refine (zq_iload_n dX4_mostClear_14 rfl).mpr ?_
    refine (zq_aload_n dX4_mostClear_15 rfl).mpr ?_
    refine (zq_getR2 (f := 260) (v := (mR m 260 a0)) dX4_mostClear_16 fl_4_24 (by decide) rfl rfl (by first | rfl | simp only [zm_Is, zm_Rs, zm_As, zm_Os, zm_In0, zm_Rn0])).mpr ⟨g1, ?_⟩
    refine (zq_iload_n dX4_mostClear_19 rfl).mpr ?_
    obtain ⟨g2, h⟩ := h
    obtain ⟨g3, h⟩ := h
    refine (zq_iald2 (v := (mA m (mR m 260 a0) (Int.toNat a3))) dX4_mostClear_20 (by first | rfl | simp only [zm_Is, zm_Rs, zm_As, zm_Os, zm_In0, zm_Rn0])).mpr ⟨⟨g2, g3⟩, ?_⟩
    refine (zq_iload_n dX4_mostClear_21 rfl).mpr ?_
    refine (zq_isub dX4_mostClear_22).mpr ?_
    refine (zq_max dX4_mostClear_23 mr_4_28).mpr ⟨(Nat.le_of_ble_eq_true rfl), ?_⟩
    refine (zq_istore_n (l := [zR a0, zI a1, zI (if a2 < (wr ((mA m (mR m 260 a0) (Int.toNat a3)) - a1)) then (wr ((mA m (mR m 260 a0) (Int.toNat a3)) - a1)) else a2), zI a3]) dX4_mostClear_26 (Nat.le_of_ble_eq_true rfl) rfl).mpr ?_
    refine (zq_aload_n dX4_mostClear_27 rfl).mpr ?_
    refine (zq_getR2 (f := 260) (v := (mR m 260 a0)) dX4_mostClear_28 fl_4_24 (by decide) rfl rfl (by first | rfl | simp only [zm_Is, zm_Rs, zm_As, zm_Os, zm_In0, zm_Rn0])).mpr ⟨g1, ?_⟩
    refine (zq_iload_n dX4_mostClear_31 rfl).mpr ?_
    refine (zq_iald2 (v := (mA m (mR m 260 a0) (Int.toNat a3))) dX4_mostClear_32 (by first | rfl | simp only [zm_Is, zm_Rs, zm_As, zm_Os, zm_In0, zm_Rn0])).mpr ⟨⟨g2, g3⟩, ?_⟩
    refine (zq_iconst (v := 1) dX4_mostClear_33 (by decide)).mpr ?_
    refine (zq_iadd dX4_mostClear_34).mpr ?_
    refine (zq_istore_n (l := [zR a0, zI (wr ((mA m (mR m 260 a0) (Int.toNat a3)) + 1)), zI (if a2 < (wr ((mA m (mR m 260 a0) (Int.toNat a3)) - a1)) then (wr ((mA m (mR m 260 a0) (Int.toNat a3)) - a1)) else a2), zI a3]) dX4_mostClear_35 (Nat.le_of_ble_eq_true rfl) rfl).mpr ?_
    refine (zq_iinc (l := [zR a0, zI (wr ((mA m (mR m 260 a0) (Int.toNat a3)) + 1)), zI (if a2 < (wr ((mA m (mR m 260 a0) (Int.toNat a3)) - a1)) then (wr ((mA m (mR m 260 a0) (Int.toNat a3)) - a1)) else a2), zI (wr (a3 + 1))]) dX4_mostClear_36 rfl rfl).mpr ?_
    refine (zq_goto (t := 6) dX4_mostClear_39 rfl).mpr ?_
    exact h
theorem bX4_becomeEndOf_0 {a0 : Nat} {a1 : Nat} {a2 : Int} (h : (mC m a1 = 5) ∧ (mC m a0 = 5) ∧ zC xs xl d 36 [zR a0, zI (mI m 256 a1), zI (wr ((mI m 257 a1) - a2)), zI (mI m 258 a1)] m (fun r m2 => r = .inl none ∧ zW xs xl d cX4_becomeEndOf 4 (none) false [] 20 [zR a0, zR a1, zI a2, zI 0] [] m2 Q)) : zC xs xl (d + 1) 41 [zR a0, zR a1, zI a2] m Q := by
  refine zk_41 ?_
  refine (zq_aload_n dX4_becomeEndOf_0 rfl).mpr ?_
  refine (zq_aload_n dX4_becomeEndOf_1 rfl).mpr ?_
  obtain ⟨g1, h⟩ := h
  refine (zq_getI2 (f := 256) (v := (mI m 256 a1)) dX4_becomeEndOf_2 fl_4_9 (by decide) rfl rfl (by first | rfl | simp only [zm_Is, zm_Rs, zm_As, zm_Os, zm_In0, zm_Rn0])).mpr ⟨g1, ?_⟩
  refine (zq_aload_n dX4_becomeEndOf_5 rfl).mpr ?_
  refine (zq_getI2 (f := 257) (v := (mI m 257 a1)) dX4_becomeEndOf_6 fl_4_15 (by decide) rfl rfl (by first | rfl | simp only [zm_Is, zm_Rs, zm_As, zm_Os, zm_In0, zm_Rn0])).mpr ⟨g1, ?_⟩
  refine (zq_iload_n dX4_becomeEndOf_9 rfl).mpr ?_
  refine (zq_isub dX4_becomeEndOf_10).mpr ?_
  refine (zq_aload_n dX4_becomeEndOf_11 rfl).mpr ?_
  refine (zq_getI2 (f := 258) (v := (mI m 258 a1)) dX4_becomeEndOf_12 fl_4_18 (by decide) rfl rfl (by first | rfl | simp only [zm_Is, zm_Rs, zm_As, zm_Os, zm_In0, zm_Rn0])).mpr ⟨g1, ?_⟩
  obtain ⟨g4, h⟩ := h
  refine zq_virtualV (n := 3) dX4_becomeEndOf_15 mr_4_34 zn_36 rfl rfl rfl (zrcv_R zo_36 (by decide) g4) (Nat.le_of_ble_eq_true rfl) ?_
  refine h.mono (fun r m2 h => ?_)
  obtain ⟨rfl, h⟩ := h
  refine ⟨rfl, ?_⟩
  refine (zq_iconst (v := 0) dX4_becomeEndOf_18 (by decide)).mpr ?_
  refine (zq_istore_n (l := [zR a0, zR a1, zI a2, zI 0]) dX4_becomeEndOf_19 (Nat.le_of_ble_eq_true rfl) rfl).mpr ?_
  exact h
theorem bX4_becomeEndOf_20 {a0 : Nat} {a1 : Nat} {a2 : Int} {a3 : Int} (h : (mC m a1 = 5) ∧ (((mI m 259 a1) ≤ a3 → Q (.inl none) m) ∧ (¬ ((mI m 259 a1) ≤ a3) → (mC m (mR m 260 a1) = 20) ∧ (0 ≤ a3 ∧ a3 < mN m (mR m 260 a1)) ∧ (((mA m (mR m 260 a1) (Int.toNat a3)) < a2 → zW xs xl d cX4_becomeEndOf 4 (none) false [] 20 [zR a0, zR a1, zI a2, zI (wr (a3 + 1))] [] m Q) ∧ (¬ ((mA m (mR m 260 a1) (Int.toNat a3)) < a2) → (mC m a0 = 5) ∧ (0 ≤ (mI m 259 a0) ∧ (mI m 259 a0) < mN m (mR m 260 a0)) ∧ (mC m (mR m 260 a0) = 20) ∧ zW xs xl d cX4_becomeEndOf 4 (none) false [] 20 [zR a0, zR a1, zI a2, zI (wr (a3 + 1))] [] (sI (sA m (mR m 260 a0) (Int.toNat (mI m 259 a0)) (wr ((mA m (mR m 260 a1) (Int.toNat a3)) - a2))) 259 a0 (wr ((mI m 259 a0) + 1))) Q))))) : zW xs xl d cX4_becomeEndOf 4 (none) false [] 20 [zR a0, zR a1, zI a2, zI a3] [] m Q := by
  refine (zq_iload_n dX4_becomeEndOf_20 rfl).mpr ?_
  refine (zq_aload_n dX4_becomeEndOf_21 rfl).mpr ?_
  obtain ⟨g1, h⟩ := h
  refine (zq_getI2 (f := 259) (v := (mI m 259 a1)) dX4_becomeEndOf_22 fl_4_21 (by decide) rfl rfl (by first | rfl | simp only [zm_Is, zm_Rs, zm_As, zm_Os, zm_In0, zm_Rn0])).mpr ⟨g1, ?_⟩
  refine (zq_icmp_ge (t := 71) dX4_becomeEndOf_25 rfl).mpr ⟨fun c => ?_, fun c => ?_⟩
  · replace h := h.1 c
    exact (zq_ret dX4_becomeEndOf_71 rfl).mpr h
  · replace h := h.2 c
    refine (zq_aload_n dX4_becomeEndOf_28 rfl).mpr ?_
    refine (zq_getR2 (f := 260) (v := (mR m 260 a1)) dX4_becomeEndOf_29 fl_4_24 (by decide) rfl rfl (by first | rfl | simp only [zm_Is, zm_Rs, zm_As, zm_Os, zm_In0, zm_Rn0])).mpr ⟨g1, ?_⟩
    refine (zq_iload_n dX4_becomeEndOf_32 rfl).mpr ?_
    obtain ⟨g2, h⟩ := h
    obtain ⟨g3, h⟩ := h
    refine (zq_iald2 (v := (mA m (mR m 260 a1) (Int.toNat a3))) dX4_becomeEndOf_33 (by first | rfl | simp only [zm_Is, zm_Rs, zm_As, zm_Os, zm_In0, zm_Rn0])).mpr ⟨⟨g2, g3⟩, ?_⟩
    refine (zq_iload_n dX4_becomeEndOf_34 rfl).mpr ?_
    refine (zq_icmp_lt (t := 65) dX4_becomeEndOf_35 rfl).mpr ⟨fun c => ?_, fun c => ?_⟩
    · replace h := h.1 c
      refine (zq_iinc (l := [zR a0, zR a1, zI a2, zI (wr (a3 + 1))]) dX4_becomeEndOf_65 rfl rfl).mpr ?_
      refine (zq_goto (t := 20) dX4_becomeEndOf_68 rfl).mpr ?_
      exact h
    · replace h := h.2 c
      refine (zq_aload_n dX4_becomeEndOf_38 rfl).mpr ?_
      obtain ⟨g4, h⟩ := h
      refine (zq_getR2 (f := 260) (v := (mR m 260 a0)) dX4_becomeEndOf_39 fl_4_24 (by decide) rfl rfl (by first | rfl | simp only [zm_Is, zm_Rs, zm_As, zm_Os, zm_In0, zm_Rn0])).mpr ⟨g4, ?_⟩
      refine (zq_aload_n dX4_becomeEndOf_42 rfl).mpr ?_
      refine (zq_getI2 (f := 259) (v := (mI m 259 a0)) dX4_becomeEndOf_43 fl_4_21 (by decide) rfl rfl (by first | rfl | simp only [zm_Is, zm_Rs, zm_As, zm_Os, zm_In0, zm_Rn0])).mpr ⟨g4, ?_⟩
      refine (zq_aload_n dX4_becomeEndOf_46 rfl).mpr ?_
      refine (zq_getR2 (f := 260) (v := (mR m 260 a1)) dX4_becomeEndOf_47 fl_4_24 (by decide) rfl rfl (by first | rfl | simp only [zm_Is, zm_Rs, zm_As, zm_Os, zm_In0, zm_Rn0])).mpr ⟨g1, ?_⟩
      refine (zq_iload_n dX4_becomeEndOf_50 rfl).mpr ?_
      refine (zq_iald2 (v := (mA m (mR m 260 a1) (Int.toNat a3))) dX4_becomeEndOf_51 (by first | rfl | simp only [zm_Is, zm_Rs, zm_As, zm_Os, zm_In0, zm_Rn0])).mpr ⟨⟨g2, g3⟩, ?_⟩
      refine (zq_iload_n dX4_becomeEndOf_52 rfl).mpr ?_
      refine (zq_isub dX4_becomeEndOf_53).mpr ?_
      obtain ⟨g5, h⟩ := h
      obtain ⟨g6, h⟩ := h
      refine (zq_iast dX4_becomeEndOf_54).mpr ⟨⟨g6, g5⟩, ?_⟩
      refine (zq_aload_n dX4_becomeEndOf_55 rfl).mpr ?_
      refine (zq_dupR dX4_becomeEndOf_56).mpr ?_
      refine (zq_getI2 (f := 259) (v := (mI m 259 a0)) dX4_becomeEndOf_57 fl_4_21 (by decide) rfl rfl (by first | rfl | simp only [zm_Is, zm_Rs, zm_As, zm_Os, zm_In0, zm_Rn0])).mpr ⟨g4, ?_⟩
      refine (zq_iconst (v := 1) dX4_becomeEndOf_60 (by decide)).mpr ?_
      refine (zq_iadd dX4_becomeEndOf_61).mpr ?_
      refine (zq_putI (f := 259) dX4_becomeEndOf_62 fl_4_21 (by decide) rfl rfl rfl).mpr ⟨g4, ?_⟩
      refine (zq_iinc (l := [zR a0, zR a1, zI a2, zI (wr (a3 + 1))]) dX4_becomeEndOf_65 rfl rfl).mpr ?_
      refine (zq_goto (t := 20) dX4_becomeEndOf_68 rfl).mpr ?_
      exact h
theorem bX4_shorten_0 {a0 : Nat} {a1 : Int} (h : (mC m a0 = 5) ∧ zW xs xl d cX4_shorten 4 (none) false [] 9 [zR a0, zI a1, zI 0, zI 0] [] (sI m 257 a0 a1) Q) : zC xs xl (d + 1) 42 [zR a0, zI a1] m Q := by
  refine zk_42 ?_
  refine (zq_aload_n dX4_shorten_0 rfl).mpr ?_
  refine (zq_iload_n dX4_shorten_1 rfl).mpr ?_
  obtain ⟨g1, h⟩ := h
  refine (zq_putI (f := 257) dX4_shorten_2 fl_4_15 (by decide) rfl rfl rfl).mpr ⟨g1, ?_⟩
  refine (zq_iconst (v := 0) dX4_shorten_5 (by decide)).mpr ?_
  refine (zq_istore_n (l := [zR a0, zI a1, zI 0, zU]) dX4_shorten_6 (Nat.le_of_ble_eq_true rfl) rfl).mpr ?_
  refine (zq_iconst (v := 0) dX4_shorten_7 (by decide)).mpr ?_
  refine (zq_istore_n (l := [zR a0, zI a1, zI 0, zI 0]) dX4_shorten_8 (Nat.le_of_ble_eq_true rfl) rfl).mpr ?_
  exact h
theorem bX4_shorten_9 {a0 : Nat} {a1 : Int} {a2 : Int} {a3 : Int} (h : (mC m a0 = 5) ∧ (((mI m 259 a0) ≤ a3 → Q (.inl none) (sI m 259 a0 a2)) ∧ (¬ ((mI m 259 a0) ≤ a3) → (mC m (mR m 260 a0) = 20) ∧ (0 ≤ a3 ∧ a3 < mN m (mR m 260 a0)) ∧ ((a1 ≤ (mA m (mR m 260 a0) (Int.toNat a3)) → zW xs xl d cX4_shorten 4 (none) false [] 9 [zR a0, zI a1, zI a2, zI (wr (a3 + 1))] [] m Q) ∧ (¬ (a1 ≤ (mA m (mR m 260 a0) (Int.toNat a3))) → zW xs xl d cX4_shorten 4 (none) false [] 9 [zR a0, zI a1, zI (wr (a2 + 1)), zI (wr (a3 + 1))] [] m Q))))) : zW xs xl d cX4_shorten 4 (none) false [] 9 [zR a0, zI a1, zI a2, zI a3] [] m Q := by
  refine (zq_iload_n dX4_shorten_9 rfl).mpr ?_
  refine (zq_aload_n dX4_shorten_10 rfl).mpr ?_
  obtain ⟨g1, h⟩ := h
  refine (zq_getI2 (f := 259) (v := (mI m 259 a0)) dX4_shorten_11 fl_4_21 (by decide) rfl rfl (by first | rfl | simp only [zm_Is, zm_Rs, zm_As, zm_Os, zm_In0, zm_Rn0])).mpr ⟨g1, ?_⟩
  refine (zq_icmp_ge (t := 36) dX4_shorten_14 rfl).mpr ⟨fun c => ?_, fun c => ?_⟩
  · replace h := h.1 c
    refine (zq_aload_n dX4_shorten_36 rfl).mpr ?_
    refine (zq_iload_n dX4_shorten_37 rfl).mpr ?_
    refine (zq_putI (f := 259) dX4_shorten_38 fl_4_21 (by decide) rfl rfl rfl).mpr ⟨g1, ?_⟩
    exact (zq_ret dX4_shorten_41 rfl).mpr h
  · replace h := h.2 c
    refine (zq_aload_n dX4_shorten_17 rfl).mpr ?_
    refine (zq_getR2 (f := 260) (v := (mR m 260 a0)) dX4_shorten_18 fl_4_24 (by decide) rfl rfl (by first | rfl | simp only [zm_Is, zm_Rs, zm_As, zm_Os, zm_In0, zm_Rn0])).mpr ⟨g1, ?_⟩
    refine (zq_iload_n dX4_shorten_21 rfl).mpr ?_
    obtain ⟨g2, h⟩ := h
    obtain ⟨g3, h⟩ := h
    refine (zq_iald2 (v := (mA m (mR m 260 a0) (Int.toNat a3))) dX4_shorten_22 (by first | rfl | simp only [zm_Is, zm_Rs, zm_As, zm_Os, zm_In0, zm_Rn0])).mpr ⟨⟨g2, g3⟩, ?_⟩
    refine (zq_iload_n dX4_shorten_23 rfl).mpr ?_
    refine (zq_icmp_ge (t := 30) dX4_shorten_24 rfl).mpr ⟨fun c => ?_, fun c => ?_⟩
    · replace h := h.1 c
      refine (zq_iinc (l := [zR a0, zI a1, zI a2, zI (wr (a3 + 1))]) dX4_shorten_30 rfl rfl).mpr ?_
      refine (zq_goto (t := 9) dX4_shorten_33 rfl).mpr ?_
      exact h
    · replace h := h.2 c
      refine (zq_iinc (l := [zR a0, zI a1, zI (wr (a2 + 1)), zI a3]) dX4_shorten_27 rfl rfl).mpr ?_
      refine (zq_iinc (l := [zR a0, zI a1, zI (wr (a2 + 1)), zI (wr (a3 + 1))]) dX4_shorten_30 rfl rfl).mpr ?_
      refine (zq_goto (t := 9) dX4_shorten_33 rfl).mpr ?_
      exact h
theorem bX4_tell_0 {a0 : Nat} {a1 : Int} (h : ((a1 = 0 → (mC m a0 = 5) ∧ Q (.inl (some (zI (mI m 256 a0)))) m) ∧ (a1 ≠ 0 → ((a1 = 1 → (mC m a0 = 5) ∧ Q (.inl (some (zI (mI m 257 a0)))) m) ∧ (a1 ≠ 1 → ((a1 = 2 → (mC m a0 = 5) ∧ Q (.inl (some (zI (mI m 258 a0)))) m) ∧ (a1 ≠ 2 → ((a1 = 3 → (mC m a0 = 5) ∧ Q (.inl (some (zI (mI m 259 a0)))) m) ∧ (a1 ≠ 3 → (mC m a0 = 5) ∧ zC xs xl d 40 [zR a0] m (fun r m5 => ∃ v6 : Int, r = .inl (some (zI v6)) ∧ Q (.inl (some (zI v6))) m5)))))))))) : zC xs xl (d + 1) 43 [zR a0, zI a1] m Q := by
  refine zk_43 ?_
  refine (zq_iload_n dX4_tell_0 rfl).mpr ?_
  refine (zq_tab (td := 52) (r := [32, 37, 42, 47]) dX4_tell_1 rfl rfl rfl).mpr ?_
  refine ⟨fun c => ?_, fun c => ?_⟩
  · replace h := h.1 c
    refine (zq_aload_n dX4_tell_32 rfl).mpr ?_
    obtain ⟨g1, h⟩ := h
    refine (zq_getI2 (f := 256) (v := (mI m 256 a0)) dX4_tell_33 fl_4_9 (by decide) rfl rfl (by first | rfl | simp only [zm_Is, zm_Rs, zm_As, zm_Os, zm_In0, zm_Rn0])).mpr ⟨g1, ?_⟩
    exact (zq_iret dX4_tell_36 rfl).mpr ⟨trivial, h⟩
  · replace h := h.2 c
    refine ⟨fun c => ?_, fun c => ?_⟩
    · replace h := h.1 c
      refine (zq_aload_n dX4_tell_37 rfl).mpr ?_
      obtain ⟨g2, h⟩ := h
      refine (zq_getI2 (f := 257) (v := (mI m 257 a0)) dX4_tell_38 fl_4_15 (by decide) rfl rfl (by first | rfl | simp only [zm_Is, zm_Rs, zm_As, zm_Os, zm_In0, zm_Rn0])).mpr ⟨g2, ?_⟩
      exact (zq_iret dX4_tell_41 rfl).mpr ⟨trivial, h⟩
    · replace h := h.2 c
      refine ⟨fun c => ?_, fun c => ?_⟩
      · replace h := h.1 c
        refine (zq_aload_n dX4_tell_42 rfl).mpr ?_
        obtain ⟨g3, h⟩ := h
        refine (zq_getI2 (f := 258) (v := (mI m 258 a0)) dX4_tell_43 fl_4_18 (by decide) rfl rfl (by first | rfl | simp only [zm_Is, zm_Rs, zm_As, zm_Os, zm_In0, zm_Rn0])).mpr ⟨g3, ?_⟩
        exact (zq_iret dX4_tell_46 rfl).mpr ⟨trivial, h⟩
      · replace h := h.2 c
        refine ⟨fun c => ?_, fun c => ?_⟩
        · replace h := h.1 c
          refine (zq_aload_n dX4_tell_47 rfl).mpr ?_
          obtain ⟨g4, h⟩ := h
          refine (zq_getI2 (f := 259) (v := (mI m 259 a0)) dX4_tell_48 fl_4_21 (by decide) rfl rfl (by first | rfl | simp only [zm_Is, zm_Rs, zm_As, zm_Os, zm_In0, zm_Rn0])).mpr ⟨g4, ?_⟩
          exact (zq_iret dX4_tell_51 rfl).mpr ⟨trivial, h⟩
        · replace h := h.2 c
          refine (zq_aload_n dX4_tell_52 rfl).mpr ?_
          obtain ⟨g7, h⟩ := h
          refine zq_virtualI (n := 0) dX4_tell_53 mr_4_38 zn_40 rfl rfl rfl (zrcv_R zo_40 (by decide) g7) (Nat.le_of_ble_eq_true rfl) ?_
          refine h.mono (fun r m5 h => ?_)
          obtain ⟨v6, rfl, h⟩ := h
          refine ⟨_, rfl, ?_⟩
          exact (zq_iret dX4_tell_56 rfl).mpr ⟨trivial, h⟩
theorem bX4_copyFrom_0 {a0 : Nat} {a1 : Nat} (h : (mC m a1 = 5) ∧ (mC m a0 = 5) ∧ zC xs xl d 36 [zR a0, zI (mI m 256 a1), zI (mI m 257 a1), zI (mI m 258 a1)] m (fun r m2 => r = .inl none ∧ (mC m2 a1 = 5) ∧ (mC m2 a0 = 5) ∧ (0 ≤ (8 : Int) ∧ 0 ≤ (0 : Int) ∧ 0 ≤ (0 : Int) ∧ (0 : Int) + (8 : Int) ≤ mN m2 (mR m2 260 a1) ∧ (0 : Int) + (8 : Int) ≤ mN m2 (mR m2 260 a0) ∧ mC m2 (mR m2 260 a1) = mC m2 (mR m2 260 a0) ∧ (mC m2 (mR m2 260 a1) = 20 ∨ (mC m2 (mR m2 260 a1) = 21 ∧ ∀ j : Nat, (0 : Int) ≤ j → j < (0 : Int) + (8 : Int) → mA (sI m2 259 a0 (mI m2 259 a1)) (mR m2 260 a1) j = 0 ∨ mA (sI m2 259 a0 (mI m2 259 a1)) (mR m2 260 a1) j = 1)) ∧ (mR m2 260 a1) ≠ (mR m2 260 a0)) ∧ Q (.inl none) (cpA (sI m2 259 a0 (mI m2 259 a1)) (mR m2 260 a1) 0 (mR m2 260 a0) 0 8))) : zC xs xl (d + 1) 44 [zR a0, zR a1] m Q := by
  refine zk_44 ?_
  refine (zq_aload_n dX4_copyFrom_0 rfl).mpr ?_
  refine (zq_aload_n dX4_copyFrom_1 rfl).mpr ?_
  obtain ⟨g1, h⟩ := h
  refine (zq_getI2 (f := 256) (v := (mI m 256 a1)) dX4_copyFrom_2 fl_4_9 (by decide) rfl rfl (by first | rfl | simp only [zm_Is, zm_Rs, zm_As, zm_Os, zm_In0, zm_Rn0])).mpr ⟨g1, ?_⟩
  refine (zq_aload_n dX4_copyFrom_5 rfl).mpr ?_
  refine (zq_getI2 (f := 257) (v := (mI m 257 a1)) dX4_copyFrom_6 fl_4_15 (by decide) rfl rfl (by first | rfl | simp only [zm_Is, zm_Rs, zm_As, zm_Os, zm_In0, zm_Rn0])).mpr ⟨g1, ?_⟩
  refine (zq_aload_n dX4_copyFrom_9 rfl).mpr ?_
  refine (zq_getI2 (f := 258) (v := (mI m 258 a1)) dX4_copyFrom_10 fl_4_18 (by decide) rfl rfl (by first | rfl | simp only [zm_Is, zm_Rs, zm_As, zm_Os, zm_In0, zm_Rn0])).mpr ⟨g1, ?_⟩
  obtain ⟨g4, h⟩ := h
  refine zq_virtualV (n := 3) dX4_copyFrom_13 mr_4_34 zn_36 rfl rfl rfl (zrcv_R zo_36 (by decide) g4) (Nat.le_of_ble_eq_true rfl) ?_
  refine h.mono (fun r m2 h => ?_)
  obtain ⟨rfl, h⟩ := h
  refine ⟨rfl, ?_⟩
  refine (zq_aload_n dX4_copyFrom_16 rfl).mpr ?_
  refine (zq_aload_n dX4_copyFrom_17 rfl).mpr ?_
  obtain ⟨g5, h⟩ := h
  refine (zq_getI2 (f := 259) (v := (mI m2 259 a1)) dX4_copyFrom_18 fl_4_21 (by decide) rfl rfl (by first | rfl | simp only [zm_Is, zm_Rs, zm_As, zm_Os, zm_In0, zm_Rn0])).mpr ⟨g5, ?_⟩
  obtain ⟨g6, h⟩ := h
  refine (zq_putI (f := 259) dX4_copyFrom_21 fl_4_21 (by decide) rfl rfl rfl).mpr ⟨g6, ?_⟩
  refine (zq_aload_n dX4_copyFrom_24 rfl).mpr ?_
  refine (zq_getR2 (f := 260) (v := (mR m2 260 a1)) dX4_copyFrom_25 fl_4_24 (by decide) rfl rfl (by first | rfl | simp only [zm_Is, zm_Rs, zm_As, zm_Os, zm_In0, zm_Rn0])).mpr ⟨g5, ?_⟩
  refine (zq_iconst (v := 0) dX4_copyFrom_28 (by decide)).mpr ?_
  refine (zq_aload_n dX4_copyFrom_29 rfl).mpr ?_
  refine (zq_getR2 (f := 260) (v := (mR m2 260 a0)) dX4_copyFrom_30 fl_4_24 (by decide) rfl rfl (by first | rfl | simp only [zm_Is, zm_Rs, zm_As, zm_Os, zm_In0, zm_Rn0])).mpr ⟨g6, ?_⟩
  refine (zq_iconst (v := 0) dX4_copyFrom_33 (by decide)).mpr ?_
  refine (zq_bipush (v := 8) dX4_copyFrom_34 (by decide)).mpr ?_
  obtain ⟨g7, h⟩ := h
  refine (zq_copy dX4_copyFrom_36 mr_4_42).mpr ⟨⟨g7.1, g7.2.1, g7.2.2.1, g7.2.2.2.1, g7.2.2.2.2.1, g7.2.2.2.2.2.1, g7.2.2.2.2.2.2.1, g7.2.2.2.2.2.2.2, (Nat.le_of_ble_eq_true rfl)⟩, ?_⟩
  exact (zq_ret dX4_copyFrom_39 rfl).mpr h
theorem bX5_init_0 {a0 : Nat} {a1 : Nat} (h : (a0 ≠ 0) ∧ (mC m a0 = 6) ∧ Q (.inl none) (sR (sI (sI (sI (sI m 321 a0 0) 322 a0 46) 323 a0 0) 324 a0 0) 320 a0 a1)) : zC xs xl (d + 1) 45 [zR a0, zR a1] m Q := by
  refine zk_45 ?_
  refine (zq_aload_n dX5_init_0 rfl).mpr ?_
  obtain ⟨g1, h⟩ := h
  refine (zq_oinit dX5_init_1 mr_5_3).mpr ⟨⟨g1, (Nat.le_of_ble_eq_true rfl)⟩, ?_⟩
  refine (zq_aload_n dX5_init_4 rfl).mpr ?_
  refine (zq_iconst (v := 0) dX5_init_5 (by decide)).mpr ?_
  obtain ⟨g2, h⟩ := h
  refine (zq_putI (f := 321) dX5_init_6 fl_5_9 (by decide) rfl rfl rfl).mpr ⟨g2, ?_⟩
  refine (zq_aload_n dX5_init_9 rfl).mpr ?_
  refine (zq_bipush (v := 46) dX5_init_10 (by decide)).mpr ?_
  refine (zq_putI (f := 322) dX5_init_12 fl_5_15 (by decide) rfl rfl rfl).mpr ⟨g2, ?_⟩
  refine (zq_aload_n dX5_init_15 rfl).mpr ?_
  refine (zq_iconst (v := 0) dX5_init_16 (by decide)).mpr ?_
  refine (zq_putI (f := 323) dX5_init_17 fl_5_18 (by decide) rfl rfl rfl).mpr ⟨g2, ?_⟩
  refine (zq_aload_n dX5_init_20 rfl).mpr ?_
  refine (zq_iconst (v := 0) dX5_init_21 (by decide)).mpr ?_
  refine (zq_putI (f := 324) dX5_init_22 fl_5_21 (by decide) rfl rfl rfl).mpr ⟨g2, ?_⟩
  refine (zq_aload_n dX5_init_25 rfl).mpr ?_
  refine (zq_aload_n dX5_init_26 rfl).mpr ?_
  refine (zq_putR (f := 320) dX5_init_27 fl_5_24 (by decide) rfl rfl rfl).mpr ⟨g2, ?_⟩
  exact (zq_ret dX5_init_30 rfl).mpr h
theorem bX5_placeBehind_0 {a0 : Nat} (h : (mC m a0 = 6) ∧ Q (.inl (some (zI (mI m 321 a0)))) m) : zC xs xl (d + 1) 46 [zR a0] m Q := by
  refine zk_46 ?_
  refine (zq_aload_n dX5_placeBehind_0 rfl).mpr ?_
  obtain ⟨g1, h⟩ := h
  refine (zq_getI2 (f := 321) (v := (mI m 321 a0)) dX5_placeBehind_1 fl_5_9 (by decide) rfl rfl (by first | rfl | simp only [zm_Is, zm_Rs, zm_As, zm_Os, zm_In0, zm_Rn0])).mpr ⟨g1, ?_⟩
  exact (zq_iret dX5_placeBehind_4 rfl).mpr ⟨trivial, h⟩
theorem bX5_goTo_0 {a0 : Nat} {a1 : Int} (h : (mC m a0 = 6) ∧ Q (.inl none) (sI m 321 a0 a1)) : zC xs xl (d + 1) 47 [zR a0, zI a1] m Q := by
  refine zk_47 ?_
  refine (zq_aload_n dX5_goTo_0 rfl).mpr ?_
  refine (zq_iload_n dX5_goTo_1 rfl).mpr ?_
  obtain ⟨g1, h⟩ := h
  refine (zq_putI (f := 321) dX5_goTo_2 fl_5_9 (by decide) rfl rfl rfl).mpr ⟨g1, ?_⟩
  exact (zq_ret dX5_goTo_5 rfl).mpr h
theorem bX5_next_0 {a0 : Nat} {a1 : zV} (h : (mC m a0 = 6) ∧ (mC m (mR m 320 a0) = 9) ∧ (((mI m 513 (mR m 320 a0)) ≤ (mI m 321 a0) → zW xs xl d cX5_next 5 (none) false [] 44 [zR a0, a1] [] m Q) ∧ (¬ ((mI m 513 (mR m 320 a0)) ≤ (mI m 321 a0)) → zC xs xl d 83 [zR (mR m 320 a0), zI (mI m 321 a0)] m (fun r m3 => ∃ v4 : Int, r = .inl (some (zI v4)) ∧ zC xs xl d 53 [zI v4] m3 (fun r m5 => ∃ v6 : Int, r = .inl (some (zI v6)) ∧ ((v6 = 0 → zW xs xl d cX5_next 5 (none) false [] 44 [zR a0, a1] [] m5 Q) ∧ (¬ (v6 = 0) → (mC m5 a0 = 6) ∧ zW xs xl d cX5_next 5 (none) false [] 0 [zR a0, a1] [] (sI m5 321 a0 (wr ((mI m5 321 a0) + 1))) Q))))))) : zW xs xl d cX5_next 5 (none) false [] 0 [zR a0, a1] [] m Q := by
  refine (zq_aload_n dX5_next_0 rfl).mpr ?_
  obtain ⟨g1, h⟩ := h
  refine (zq_getI2 (f := 321) (v := (mI m 321 a0)) dX5_next_1 fl_5_9 (by decide) rfl rfl (by first | rfl | simp only [zm_Is, zm_Rs, zm_As, zm_Os, zm_In0, zm_Rn0])).mpr ⟨g1, ?_⟩
  refine (zq_aload_n dX5_next_4 rfl).mpr ?_
  refine (zq_getR2 (f := 320) (v := (mR m 320 a0)) dX5_next_5 fl_5_24 (by decide) rfl rfl (by first | rfl | simp only [zm_Is, zm_Rs, zm_As, zm_Os, zm_In0, zm_Rn0])).mpr ⟨g1, ?_⟩
  obtain ⟨g2, h⟩ := h
  refine (zq_getI2 (f := 513) (v := (mI m 513 (mR m 320 a0))) dX5_next_8 fl_5_28 (by decide) rfl rfl (by first | rfl | simp only [zm_Is, zm_Rs, zm_As, zm_Os, zm_In0, zm_Rn0])).mpr ⟨g2, ?_⟩
  refine (zq_icmp_ge (t := 44) dX5_next_11 rfl).mpr ⟨fun c => ?_, fun c => ?_⟩
  · replace h := h.1 c
    exact h
  · replace h := h.2 c
    refine (zq_aload_n dX5_next_14 rfl).mpr ?_
    refine (zq_getR2 (f := 320) (v := (mR m 320 a0)) dX5_next_15 fl_5_24 (by decide) rfl rfl (by first | rfl | simp only [zm_Is, zm_Rs, zm_As, zm_Os, zm_In0, zm_Rn0])).mpr ⟨g1, ?_⟩
    refine (zq_aload_n dX5_next_18 rfl).mpr ?_
    refine (zq_getI2 (f := 321) (v := (mI m 321 a0)) dX5_next_19 fl_5_9 (by decide) rfl rfl (by first | rfl | simp only [zm_Is, zm_Rs, zm_As, zm_Os, zm_In0, zm_Rn0])).mpr ⟨g1, ?_⟩
    refine zq_virtualI (n := 1) dX5_next_22 mr_5_33 zn_83 rfl rfl rfl (zrcv_R zo_83 (by decide) g2) (Nat.le_of_ble_eq_true rfl) ?_
    refine h.mono (fun r m3 h => ?_)
    obtain ⟨v4, rfl, h⟩ := h
    refine ⟨_, rfl, ?_⟩
    refine zq_staticI (n := 1) dX5_next_25 mr_5_37 zn_53 rfl rfl (Nat.le_of_ble_eq_true rfl) (Nat.le_of_ble_eq_true rfl) ?_
    refine h.mono (fun r m5 h => ?_)
    obtain ⟨v6, rfl, h⟩ := h
    refine ⟨_, rfl, ?_⟩
    refine (zq_if_eq (t := 44) dX5_next_28 rfl).mpr ⟨fun c => ?_, fun c => ?_⟩
    · replace h := h.1 c
      exact h
    · replace h := h.2 c
      refine (zq_aload_n dX5_next_31 rfl).mpr ?_
      refine (zq_dupR dX5_next_32).mpr ?_
      obtain ⟨g7, h⟩ := h
      refine (zq_getI2 (f := 321) (v := (mI m5 321 a0)) dX5_next_33 fl_5_9 (by decide) rfl rfl (by first | rfl | simp only [zm_Is, zm_Rs, zm_As, zm_Os, zm_In0, zm_Rn0])).mpr ⟨g7, ?_⟩
      refine (zq_iconst (v := 1) dX5_next_36 (by decide)).mpr ?_
      refine (zq_iadd dX5_next_37).mpr ?_
      refine (zq_putI (f := 321) dX5_next_38 fl_5_9 (by decide) rfl rfl rfl).mpr ⟨g7, ?_⟩
      refine (zq_goto (t := 0) dX5_next_41 rfl).mpr ?_
      exact h
theorem bX5_next_44 {a0 : Nat} {a1 : zV} (h : (mC m a0 = 6) ∧ (mC m (mR m 320 a0) = 9) ∧ zC xs xl d 83 [zR (mR m 320 a0), zI (mI m 321 a0)] (sI (sI m 323 a0 (mI m 321 a0)) 324 a0 0) (fun r m2 => ∃ v3 : Int, r = .inl (some (zI v3)) ∧ ((0 ≤ v3 → zC xs xl d 54 [zI v3] m2 (fun r m5 => ∃ v6 : Int, r = .inl (some (zI v6)) ∧ ((v6 = 0 → zC xs xl d 55 [zI v3] m5 (fun r m7 => ∃ v8 : Int, r = .inl (some (zI v8)) ∧ ((v8 = 0 → zC xs xl d 56 [zI v3] m7 (fun r m9 => ∃ v10 : Int, r = .inl (some (zI v10)) ∧ ((v10 = 0 → (mC m9 a0 = 6) ∧ Q (.inl none) (sI (sI m9 322 a0 63) 321 a0 (wr ((mI m9 321 a0) + 1)))) ∧ (¬ (v10 = 0) → (mC m9 a0 = 6) ∧ Q (.inl none) (sI (sI m9 322 a0 v3) 321 a0 (wr ((mI m9 321 a0) + 1))))))) ∧ (¬ (v8 = 0) → (mC m7 a0 = 6) ∧ zC xs xl d 50 [zR a0] m7 (fun r m13 => r = .inl none ∧ Q (.inl none) m13))))) ∧ (¬ (v6 = 0) → (mC m5 a0 = 6) ∧ zC xs xl d 49 [zR a0] m5 (fun r m16 => r = .inl none ∧ Q (.inl none) m16))))) ∧ (¬ (0 ≤ v3) → (mC m2 a0 = 6) ∧ Q (.inl none) (sI m2 322 a0 46))))) : zW xs xl d cX5_next 5 (none) false [] 44 [zR a0, a1] [] m Q := by
  refine (zq_aload_n dX5_next_44 rfl).mpr ?_
  refine (zq_aload_n dX5_next_45 rfl).mpr ?_
  obtain ⟨g1, h⟩ := h
  refine (zq_getI2 (f := 321) (v := (mI m 321 a0)) dX5_next_46 fl_5_9 (by decide) rfl rfl (by first | rfl | simp only [zm_Is, zm_Rs, zm_As, zm_Os, zm_In0, zm_Rn0])).mpr ⟨g1, ?_⟩
  refine (zq_putI (f := 323) dX5_next_49 fl_5_18 (by decide) rfl rfl rfl).mpr ⟨g1, ?_⟩
  refine (zq_aload_n dX5_next_52 rfl).mpr ?_
  refine (zq_iconst (v := 0) dX5_next_53 (by decide)).mpr ?_
  refine (zq_putI (f := 324) dX5_next_54 fl_5_21 (by decide) rfl rfl rfl).mpr ⟨g1, ?_⟩
  refine (zq_aload_n dX5_next_57 rfl).mpr ?_
  refine (zq_getR2 (f := 320) (v := (mR m 320 a0)) dX5_next_58 fl_5_24 (by decide) rfl rfl (by first | rfl | simp only [zm_Is, zm_Rs, zm_As, zm_Os, zm_In0, zm_Rn0])).mpr ⟨g1, ?_⟩
  refine (zq_aload_n dX5_next_61 rfl).mpr ?_
  refine (zq_getI2 (f := 321) (v := (mI m 321 a0)) dX5_next_62 fl_5_9 (by decide) rfl rfl (by first | rfl | simp only [zm_Is, zm_Rs, zm_As, zm_Os, zm_In0, zm_Rn0])).mpr ⟨g1, ?_⟩
  obtain ⟨g4, h⟩ := h
  refine zq_virtualI (n := 1) dX5_next_65 mr_5_33 zn_83 rfl rfl rfl (zrcv_R zo_83 (by decide) g4) (Nat.le_of_ble_eq_true rfl) ?_
  refine h.mono (fun r m2 h => ?_)
  obtain ⟨v3, rfl, h⟩ := h
  refine ⟨_, rfl, ?_⟩
  refine (zq_istore_n (l := [zR a0, zI v3]) dX5_next_68 (Nat.le_of_ble_eq_true rfl) rfl).mpr ?_
  refine (zq_iload_n dX5_next_69 rfl).mpr ?_
  refine (zq_if_ge (t := 82) dX5_next_70 rfl).mpr ⟨fun c => ?_, fun c => ?_⟩
  · replace h := h.1 c
    refine (zq_iload_n dX5_next_82 rfl).mpr ?_
    refine zq_staticI (n := 1) dX5_next_83 mr_5_41 zn_54 rfl rfl (Nat.le_of_ble_eq_true rfl) (Nat.le_of_ble_eq_true rfl) ?_
    refine h.mono (fun r m5 h => ?_)
    obtain ⟨v6, rfl, h⟩ := h
    refine ⟨_, rfl, ?_⟩
    refine (zq_if_eq (t := 96) dX5_next_86 rfl).mpr ⟨fun c => ?_, fun c => ?_⟩
    · replace h := h.1 c
      refine (zq_iload_n dX5_next_96 rfl).mpr ?_
      refine zq_staticI (n := 1) dX5_next_97 mr_5_47 zn_55 rfl rfl (Nat.le_of_ble_eq_true rfl) (Nat.le_of_ble_eq_true rfl) ?_
      refine h.mono (fun r m7 h => ?_)
      obtain ⟨v8, rfl, h⟩ := h
      refine ⟨_, rfl, ?_⟩
      refine (zq_if_eq (t := 110) dX5_next_100 rfl).mpr ⟨fun c => ?_, fun c => ?_⟩
      · replace h := h.1 c
        refine (zq_aload_n dX5_next_110 rfl).mpr ?_
        refine (zq_iload_n dX5_next_111 rfl).mpr ?_
        refine zq_staticI (n := 1) dX5_next_112 mr_5_53 zn_56 rfl rfl (Nat.le_of_ble_eq_true rfl) (Nat.le_of_ble_eq_true rfl) ?_
        refine h.mono (fun r m9 h => ?_)
        obtain ⟨v10, rfl, h⟩ := h
        refine ⟨_, rfl, ?_⟩
        refine (zq_if_eq (t := 122) dX5_next_115 rfl).mpr ⟨fun c => ?_, fun c => ?_⟩
        · replace h := h.1 c
          refine (zq_bipush (v := 63) dX5_next_122 (by decide)).mpr ?_
          obtain ⟨g11, h⟩ := h
          refine (zq_putI (f := 322) dX5_next_124 fl_5_15 (by decide) rfl rfl rfl).mpr ⟨g11, ?_⟩
          refine (zq_aload_n dX5_next_127 rfl).mpr ?_
          refine (zq_dupR dX5_next_128).mpr ?_
          refine (zq_getI2 (f := 321) (v := (mI m9 321 a0)) dX5_next_129 fl_5_9 (by decide) rfl rfl (by first | rfl | simp only [zm_Is, zm_Rs, zm_As, zm_Os, zm_In0, zm_Rn0])).mpr ⟨g11, ?_⟩
          refine (zq_iconst (v := 1) dX5_next_132 (by decide)).mpr ?_
          refine (zq_iadd dX5_next_133).mpr ?_
          refine (zq_putI (f := 321) dX5_next_134 fl_5_9 (by decide) rfl rfl rfl).mpr ⟨g11, ?_⟩
          exact (zq_ret dX5_next_137 rfl).mpr h
        · replace h := h.2 c
          refine (zq_iload_n dX5_next_118 rfl).mpr ?_
          refine (zq_goto (t := 124) dX5_next_119 rfl).mpr ?_
          obtain ⟨g12, h⟩ := h
          refine (zq_putI (f := 322) dX5_next_124 fl_5_15 (by decide) rfl rfl rfl).mpr ⟨g12, ?_⟩
          refine (zq_aload_n dX5_next_127 rfl).mpr ?_
          refine (zq_dupR dX5_next_128).mpr ?_
          refine (zq_getI2 (f := 321) (v := (mI m9 321 a0)) dX5_next_129 fl_5_9 (by decide) rfl rfl (by first | rfl | simp only [zm_Is, zm_Rs, zm_As, zm_Os, zm_In0, zm_Rn0])).mpr ⟨g12, ?_⟩
          refine (zq_iconst (v := 1) dX5_next_132 (by decide)).mpr ?_
          refine (zq_iadd dX5_next_133).mpr ?_
          refine (zq_putI (f := 321) dX5_next_134 fl_5_9 (by decide) rfl rfl rfl).mpr ⟨g12, ?_⟩
          exact (zq_ret dX5_next_137 rfl).mpr h
      · replace h := h.2 c
        refine (zq_aload_n dX5_next_103 rfl).mpr ?_
        obtain ⟨g15, h⟩ := h
        refine zq_virtualV (n := 0) dX5_next_104 mr_5_50 zn_50 rfl rfl rfl (zrcv_R zo_50 (by decide) g15) (Nat.le_of_ble_eq_true rfl) ?_
        refine h.mono (fun r m13 h => ?_)
        obtain ⟨rfl, h⟩ := h
        refine ⟨rfl, ?_⟩
        refine (zq_goto (t := 137) dX5_next_107 rfl).mpr ?_
        exact (zq_ret dX5_next_137 rfl).mpr h
    · replace h := h.2 c
      refine (zq_aload_n dX5_next_89 rfl).mpr ?_
      obtain ⟨g18, h⟩ := h
      refine zq_virtualV (n := 0) dX5_next_90 mr_5_44 zn_49 rfl rfl rfl (zrcv_R zo_49 (by decide) g18) (Nat.le_of_ble_eq_true rfl) ?_
      refine h.mono (fun r m16 h => ?_)
      obtain ⟨rfl, h⟩ := h
      refine ⟨rfl, ?_⟩
      refine (zq_goto (t := 137) dX5_next_93 rfl).mpr ?_
      exact (zq_ret dX5_next_137 rfl).mpr h
  · replace h := h.2 c
    refine (zq_aload_n dX5_next_73 rfl).mpr ?_
    refine (zq_bipush (v := 46) dX5_next_74 (by decide)).mpr ?_
    obtain ⟨g19, h⟩ := h
    refine (zq_putI (f := 322) dX5_next_76 fl_5_15 (by decide) rfl rfl rfl).mpr ⟨g19, ?_⟩
    refine (zq_goto (t := 137) dX5_next_79 rfl).mpr ?_
    exact (zq_ret dX5_next_137 rfl).mpr h
theorem bX5_readWord_0 {a0 : Nat} (h : zW xs xl d cX5_readWord 5 (none) false [] 2 [zR a0, zL 0, zU] [] m Q) : zC xs xl (d + 1) 49 [zR a0] m Q := by
  refine zk_49 ?_
  refine (zq_lconst dX5_readWord_0 rfl).mpr ?_
  refine (zq_lstore_n (l := [zR a0, zL 0, zU]) dX5_readWord_1 (Nat.le_of_ble_eq_true rfl) rfl).mpr ?_
  exact h
theorem bX5_readWord_2 {a0 : Nat} {a1 : Int} {a2 : zV} (h : (mC m a0 = 6) ∧ (mC m (mR m 320 a0) = 9) ∧ (((mI m 513 (mR m 320 a0)) ≤ (mI m 321 a0) → zW xs xl d cX5_readWord 5 (none) false [] 62 [zR a0, zL a1, a2] [] m Q) ∧ (¬ ((mI m 513 (mR m 320 a0)) ≤ (mI m 321 a0)) → zC xs xl d 83 [zR (mR m 320 a0), zI (mI m 321 a0)] m (fun r m3 => ∃ v4 : Int, r = .inl (some (zI v4)) ∧ zC xs xl d 54 [zI v4] m3 (fun r m5 => ∃ v6 : Int, r = .inl (some (zI v6)) ∧ ((v6 = 0 → zW xs xl d cX5_readWord 5 (none) false [] 62 [zR a0, zL a1, a2] [] m5 Q) ∧ (¬ (v6 = 0) → (mC m5 a0 = 6) ∧ (mC m5 (mR m5 320 a0) = 9) ∧ zC xs xl d 83 [zR (mR m5 320 a0), zI (mI m5 321 a0)] m5 (fun r m8 => ∃ v9 : Int, r = .inl (some (zI v9)) ∧ zC xs xl d 52 [zL a1, zI v9] m8 (fun r m11 => ∃ v12 : Int, r = .inl (some (zL v12)) ∧ (mC m11 a0 = 6) ∧ zW xs xl d cX5_readWord 5 (none) false [] 2 [zR a0, zL v12, zU] [] (sI m11 321 a0 (wr ((mI m11 321 a0) + 1))) Q))))))))) : zW xs xl d cX5_readWord 5 (none) false [] 2 [zR a0, zL a1, a2] [] m Q := by
  refine (zq_aload_n dX5_readWord_2 rfl).mpr ?_
  obtain ⟨g1, h⟩ := h
  refine (zq_getI2 (f := 321) (v := (mI m 321 a0)) dX5_readWord_3 fl_5_9 (by decide) rfl rfl (by first | rfl | simp only [zm_Is, zm_Rs, zm_As, zm_Os, zm_In0, zm_Rn0])).mpr ⟨g1, ?_⟩
  refine (zq_aload_n dX5_readWord_6 rfl).mpr ?_
  refine (zq_getR2 (f := 320) (v := (mR m 320 a0)) dX5_readWord_7 fl_5_24 (by decide) rfl rfl (by first | rfl | simp only [zm_Is, zm_Rs, zm_As, zm_Os, zm_In0, zm_Rn0])).mpr ⟨g1, ?_⟩
  obtain ⟨g2, h⟩ := h
  refine (zq_getI2 (f := 513) (v := (mI m 513 (mR m 320 a0))) dX5_readWord_10 fl_5_28 (by decide) rfl rfl (by first | rfl | simp only [zm_Is, zm_Rs, zm_As, zm_Os, zm_In0, zm_Rn0])).mpr ⟨g2, ?_⟩
  refine (zq_icmp_ge (t := 62) dX5_readWord_13 rfl).mpr ⟨fun c => ?_, fun c => ?_⟩
  · replace h := h.1 c
    exact h
  · replace h := h.2 c
    refine (zq_aload_n dX5_readWord_16 rfl).mpr ?_
    refine (zq_getR2 (f := 320) (v := (mR m 320 a0)) dX5_readWord_17 fl_5_24 (by decide) rfl rfl (by first | rfl | simp only [zm_Is, zm_Rs, zm_As, zm_Os, zm_In0, zm_Rn0])).mpr ⟨g1, ?_⟩
    refine (zq_aload_n dX5_readWord_20 rfl).mpr ?_
    refine (zq_getI2 (f := 321) (v := (mI m 321 a0)) dX5_readWord_21 fl_5_9 (by decide) rfl rfl (by first | rfl | simp only [zm_Is, zm_Rs, zm_As, zm_Os, zm_In0, zm_Rn0])).mpr ⟨g1, ?_⟩
    refine zq_virtualI (n := 1) dX5_readWord_24 mr_5_33 zn_83 rfl rfl rfl (zrcv_R zo_83 (by decide) g2) (Nat.le_of_ble_eq_true rfl) ?_
    refine h.mono (fun r m3 h => ?_)
    obtain ⟨v4, rfl, h⟩ := h
    refine ⟨_, rfl, ?_⟩
    refine zq_staticI (n := 1) dX5_readWord_27 mr_5_41 zn_54 rfl rfl (Nat.le_of_ble_eq_true rfl) (Nat.le_of_ble_eq_true rfl) ?_
    refine h.mono (fun r m5 h => ?_)
    obtain ⟨v6, rfl, h⟩ := h
    refine ⟨_, rfl, ?_⟩
    refine (zq_if_eq (t := 62) dX5_readWord_30 rfl).mpr ⟨fun c => ?_, fun c => ?_⟩
    · replace h := h.1 c
      exact h
    · replace h := h.2 c
      refine (zq_lload_n dX5_readWord_33 rfl).mpr ?_
      refine (zq_aload_n dX5_readWord_34 rfl).mpr ?_
      obtain ⟨g7, h⟩ := h
      refine (zq_getR2 (f := 320) (v := (mR m5 320 a0)) dX5_readWord_35 fl_5_24 (by decide) rfl rfl (by first | rfl | simp only [zm_Is, zm_Rs, zm_As, zm_Os, zm_In0, zm_Rn0])).mpr ⟨g7, ?_⟩
      refine (zq_aload_n dX5_readWord_38 rfl).mpr ?_
      refine (zq_getI2 (f := 321) (v := (mI m5 321 a0)) dX5_readWord_39 fl_5_9 (by decide) rfl rfl (by first | rfl | simp only [zm_Is, zm_Rs, zm_As, zm_Os, zm_In0, zm_Rn0])).mpr ⟨g7, ?_⟩
      obtain ⟨g10, h⟩ := h
      refine zq_virtualI (n := 1) dX5_readWord_42 mr_5_33 zn_83 rfl rfl rfl (zrcv_R zo_83 (by decide) g10) (Nat.le_of_ble_eq_true rfl) ?_
      refine h.mono (fun r m8 h => ?_)
      obtain ⟨v9, rfl, h⟩ := h
      refine ⟨_, rfl, ?_⟩
      refine zq_staticL (n := 2) dX5_readWord_45 mr_5_56 zn_52 rfl rfl (Nat.le_of_ble_eq_true rfl) (Nat.le_of_ble_eq_true rfl) ?_
      refine h.mono (fun r m11 h => ?_)
      obtain ⟨v12, rfl, h⟩ := h
      refine ⟨_, rfl, ?_⟩
      refine (zq_lstore_n (l := [zR a0, zL v12, zU]) dX5_readWord_48 (Nat.le_of_ble_eq_true rfl) rfl).mpr ?_
      refine (zq_aload_n dX5_readWord_49 rfl).mpr ?_
      refine (zq_dupR dX5_readWord_50).mpr ?_
      obtain ⟨g13, h⟩ := h
      refine (zq_getI2 (f := 321) (v := (mI m11 321 a0)) dX5_readWord_51 fl_5_9 (by decide) rfl rfl (by first | rfl | simp only [zm_Is, zm_Rs, zm_As, zm_Os, zm_In0, zm_Rn0])).mpr ⟨g13, ?_⟩
      refine (zq_iconst (v := 1) dX5_readWord_54 (by decide)).mpr ?_
      refine (zq_iadd dX5_readWord_55).mpr ?_
      refine (zq_putI (f := 321) dX5_readWord_56 fl_5_9 (by decide) rfl rfl rfl).mpr ⟨g13, ?_⟩
      refine (zq_goto (t := 2) dX5_readWord_59 rfl).mpr ?_
      exact h
theorem bX5_readWord_62 {a0 : Nat} {a1 : Int} {a2 : zV} (h : (mC m a0 = 6) ∧ (((wr ((mI m 321 a0) - (mI m 323 a0))) ≤ 8 → zC xs xl d 51 [zR a0, zE 20, zL a1] m (fun r m2 => ∃ v3 : Int, r = .inl (some (zI v3)) ∧ ((v3 = 0 → (mC m2 a0 = 6) ∧ zC xs xl d 51 [zR a0, zE 21, zL a1] m2 (fun r m4 => ∃ v5 : Int, r = .inl (some (zI v5)) ∧ ((v5 = 0 → (mC m4 a0 = 6) ∧ zC xs xl d 51 [zR a0, zE 22, zL a1] m4 (fun r m7 => ∃ v8 : Int, r = .inl (some (zI v8)) ∧ ((v8 = 0 → (mC m7 a0 = 6) ∧ Q (.inl none) (sI m7 322 a0 63)) ∧ (¬ (v8 = 0) → (mC m7 a0 = 6) ∧ Q (.inl none) (sI m7 322 a0 119))))) ∧ (¬ (v5 = 0) → (mC m4 a0 = 6) ∧ Q (.inl none) (sI m4 322 a0 102))))) ∧ (¬ (v3 = 0) → (mC m2 a0 = 6) ∧ Q (.inl none) (sI m2 322 a0 115))))) ∧ (¬ ((wr ((mI m 321 a0) - (mI m 323 a0))) ≤ 8) → Q (.inl none) (sI m 322 a0 63)))) : zW xs xl d cX5_readWord 5 (none) false [] 62 [zR a0, zL a1, a2] [] m Q := by
  refine (zq_aload_n dX5_readWord_62 rfl).mpr ?_
  obtain ⟨g1, h⟩ := h
  refine (zq_getI2 (f := 321) (v := (mI m 321 a0)) dX5_readWord_63 fl_5_9 (by decide) rfl rfl (by first | rfl | simp only [zm_Is, zm_Rs, zm_As, zm_Os, zm_In0, zm_Rn0])).mpr ⟨g1, ?_⟩
  refine (zq_aload_n dX5_readWord_66 rfl).mpr ?_
  refine (zq_getI2 (f := 323) (v := (mI m 323 a0)) dX5_readWord_67 fl_5_18 (by decide) rfl rfl (by first | rfl | simp only [zm_Is, zm_Rs, zm_As, zm_Os, zm_In0, zm_Rn0])).mpr ⟨g1, ?_⟩
  refine (zq_isub dX5_readWord_70).mpr ?_
  refine (zq_bipush (v := 8) dX5_readWord_71 (by decide)).mpr ?_
  refine (zq_icmp_le (t := 85) dX5_readWord_73 rfl).mpr ⟨fun c => ?_, fun c => ?_⟩
  · replace h := h.1 c
    refine (zq_aload_n dX5_readWord_85 rfl).mpr ?_
    refine (zq_ldc dX5_readWord_86 ck_5_60).mpr ?_
    refine (zq_lload_n dX5_readWord_88 rfl).mpr ?_
    refine zq_virtualI (n := 2) dX5_readWord_89 mr_5_62 zn_51 rfl rfl rfl (zrcv_R zo_51 (by decide) g1) (Nat.le_of_ble_eq_true rfl) ?_
    refine h.mono (fun r m2 h => ?_)
    obtain ⟨v3, rfl, h⟩ := h
    refine ⟨_, rfl, ?_⟩
    refine (zq_if_eq (t := 104) dX5_readWord_92 rfl).mpr ⟨fun c => ?_, fun c => ?_⟩
    · replace h := h.1 c
      refine (zq_aload_n dX5_readWord_104 rfl).mpr ?_
      refine (zq_ldc dX5_readWord_105 ck_5_66).mpr ?_
      refine (zq_lload_n dX5_readWord_107 rfl).mpr ?_
      obtain ⟨g6, h⟩ := h
      refine zq_virtualI (n := 2) dX5_readWord_108 mr_5_62 zn_51 rfl rfl rfl (zrcv_R zo_51 (by decide) g6) (Nat.le_of_ble_eq_true rfl) ?_
      refine h.mono (fun r m4 h => ?_)
      obtain ⟨v5, rfl, h⟩ := h
      refine ⟨_, rfl, ?_⟩
      refine (zq_if_eq (t := 123) dX5_readWord_111 rfl).mpr ⟨fun c => ?_, fun c => ?_⟩
      · replace h := h.1 c
        refine (zq_aload_n dX5_readWord_123 rfl).mpr ?_
        refine (zq_ldc dX5_readWord_124 ck_5_68).mpr ?_
        refine (zq_lload_n dX5_readWord_126 rfl).mpr ?_
        obtain ⟨g9, h⟩ := h
        refine zq_virtualI (n := 2) dX5_readWord_127 mr_5_62 zn_51 rfl rfl rfl (zrcv_R zo_51 (by decide) g9) (Nat.le_of_ble_eq_true rfl) ?_
        refine h.mono (fun r m7 h => ?_)
        obtain ⟨v8, rfl, h⟩ := h
        refine ⟨_, rfl, ?_⟩
        refine (zq_if_eq (t := 142) dX5_readWord_130 rfl).mpr ⟨fun c => ?_, fun c => ?_⟩
        · replace h := h.1 c
          refine (zq_aload_n dX5_readWord_142 rfl).mpr ?_
          refine (zq_bipush (v := 63) dX5_readWord_143 (by decide)).mpr ?_
          obtain ⟨g10, h⟩ := h
          refine (zq_putI (f := 322) dX5_readWord_145 fl_5_15 (by decide) rfl rfl rfl).mpr ⟨g10, ?_⟩
          exact (zq_ret dX5_readWord_148 rfl).mpr h
        · replace h := h.2 c
          refine (zq_aload_n dX5_readWord_133 rfl).mpr ?_
          refine (zq_bipush (v := 119) dX5_readWord_134 (by decide)).mpr ?_
          obtain ⟨g11, h⟩ := h
          refine (zq_putI (f := 322) dX5_readWord_136 fl_5_15 (by decide) rfl rfl rfl).mpr ⟨g11, ?_⟩
          refine (zq_goto (t := 148) dX5_readWord_139 rfl).mpr ?_
          exact (zq_ret dX5_readWord_148 rfl).mpr h
      · replace h := h.2 c
        refine (zq_aload_n dX5_readWord_114 rfl).mpr ?_
        refine (zq_bipush (v := 102) dX5_readWord_115 (by decide)).mpr ?_
        obtain ⟨g12, h⟩ := h
        refine (zq_putI (f := 322) dX5_readWord_117 fl_5_15 (by decide) rfl rfl rfl).mpr ⟨g12, ?_⟩
        refine (zq_goto (t := 148) dX5_readWord_120 rfl).mpr ?_
        exact (zq_ret dX5_readWord_148 rfl).mpr h
    · replace h := h.2 c
      refine (zq_aload_n dX5_readWord_95 rfl).mpr ?_
      refine (zq_bipush (v := 115) dX5_readWord_96 (by decide)).mpr ?_
      obtain ⟨g13, h⟩ := h
      refine (zq_putI (f := 322) dX5_readWord_98 fl_5_15 (by decide) rfl rfl rfl).mpr ⟨g13, ?_⟩
      refine (zq_goto (t := 148) dX5_readWord_101 rfl).mpr ?_
      exact (zq_ret dX5_readWord_148 rfl).mpr h
  · replace h := h.2 c
    refine (zq_aload_n dX5_readWord_76 rfl).mpr ?_
    refine (zq_bipush (v := 63) dX5_readWord_77 (by decide)).mpr ?_
    refine (zq_putI (f := 322) dX5_readWord_79 fl_5_15 (by decide) rfl rfl rfl).mpr ⟨g1, ?_⟩
    refine (zq_goto (t := 148) dX5_readWord_82 rfl).mpr ?_
    exact (zq_ret dX5_readWord_148 rfl).mpr h
theorem bX5_readNumber_0 {a0 : Nat} (h : (mC m a0 = 6) ∧ (mC m (mR m 320 a0) = 9) ∧ (((mI m 513 (mR m 320 a0)) ≤ (mI m 321 a0) → zW xs xl d cX5_readNumber 5 (none) false [] 83 [zR a0] [] m Q) ∧ (¬ ((mI m 513 (mR m 320 a0)) ≤ (mI m 321 a0)) → zC xs xl d 83 [zR (mR m 320 a0), zI (mI m 321 a0)] m (fun r m3 => ∃ v4 : Int, r = .inl (some (zI v4)) ∧ zC xs xl d 55 [zI v4] m3 (fun r m5 => ∃ v6 : Int, r = .inl (some (zI v6)) ∧ ((v6 = 0 → zW xs xl d cX5_readNumber 5 (none) false [] 83 [zR a0] [] m5 Q) ∧ (¬ (v6 = 0) → (mC m5 a0 = 6) ∧ ((3 ≤ (wr ((mI m5 321 a0) - (mI m5 323 a0))) → zW xs xl d cX5_readNumber 5 (none) false [] 0 [zR a0] [] (sI m5 321 a0 (wr ((mI m5 321 a0) + 1))) Q) ∧ (¬ (3 ≤ (wr ((mI m5 321 a0) - (mI m5 323 a0)))) → (mC m5 (mR m5 320 a0) = 9) ∧ zC xs xl d 83 [zR (mR m5 320 a0), zI (mI m5 321 a0)] m5 (fun r m8 => ∃ v9 : Int, r = .inl (some (zI v9)) ∧ (mC m8 a0 = 6) ∧ zW xs xl d cX5_readNumber 5 (none) false [] 0 [zR a0] [] (sI (sI m8 324 a0 (wr ((wr ((wr ((mI m5 324 a0) * 10)) + v9)) - 48))) 321 a0 (wr ((mI m8 321 a0) + 1))) Q)))))))))) : zW xs xl d cX5_readNumber 5 (none) false [] 0 [zR a0] [] m Q := by
  refine (zq_aload_n dX5_readNumber_0 rfl).mpr ?_
  obtain ⟨g1, h⟩ := h
  refine (zq_getI2 (f := 321) (v := (mI m 321 a0)) dX5_readNumber_1 fl_5_9 (by decide) rfl rfl (by first | rfl | simp only [zm_Is, zm_Rs, zm_As, zm_Os, zm_In0, zm_Rn0])).mpr ⟨g1, ?_⟩
  refine (zq_aload_n dX5_readNumber_4 rfl).mpr ?_
  refine (zq_getR2 (f := 320) (v := (mR m 320 a0)) dX5_readNumber_5 fl_5_24 (by decide) rfl rfl (by first | rfl | simp only [zm_Is, zm_Rs, zm_As, zm_Os, zm_In0, zm_Rn0])).mpr ⟨g1, ?_⟩
  obtain ⟨g2, h⟩ := h
  refine (zq_getI2 (f := 513) (v := (mI m 513 (mR m 320 a0))) dX5_readNumber_8 fl_5_28 (by decide) rfl rfl (by first | rfl | simp only [zm_Is, zm_Rs, zm_As, zm_Os, zm_In0, zm_Rn0])).mpr ⟨g2, ?_⟩
  refine (zq_icmp_ge (t := 83) dX5_readNumber_11 rfl).mpr ⟨fun c => ?_, fun c => ?_⟩
  · replace h := h.1 c
    exact h
  · replace h := h.2 c
    refine (zq_aload_n dX5_readNumber_14 rfl).mpr ?_
    refine (zq_getR2 (f := 320) (v := (mR m 320 a0)) dX5_readNumber_15 fl_5_24 (by decide) rfl rfl (by first | rfl | simp only [zm_Is, zm_Rs, zm_As, zm_Os, zm_In0, zm_Rn0])).mpr ⟨g1, ?_⟩
    refine (zq_aload_n dX5_readNumber_18 rfl).mpr ?_
    refine (zq_getI2 (f := 321) (v := (mI m 321 a0)) dX5_readNumber_19 fl_5_9 (by decide) rfl rfl (by first | rfl | simp only [zm_Is, zm_Rs, zm_As, zm_Os, zm_In0, zm_Rn0])).mpr ⟨g1, ?_⟩
    refine zq_virtualI (n := 1) dX5_readNumber_22 mr_5_33 zn_83 rfl rfl rfl (zrcv_R zo_83 (by decide) g2) (Nat.le_of_ble_eq_true rfl) ?_
    refine h.mono (fun r m3 h => ?_)
    obtain ⟨v4, rfl, h⟩ := h
    refine ⟨_, rfl, ?_⟩
    refine zq_staticI (n := 1) dX5_readNumber_25 mr_5_47 zn_55 rfl rfl (Nat.le_of_ble_eq_true rfl) (Nat.le_of_ble_eq_true rfl) ?_
    refine h.mono (fun r m5 h => ?_)
    obtain ⟨v6, rfl, h⟩ := h
    refine ⟨_, rfl, ?_⟩
    refine (zq_if_eq (t := 83) dX5_readNumber_28 rfl).mpr ⟨fun c => ?_, fun c => ?_⟩
    · replace h := h.1 c
      exact h
    · replace h := h.2 c
      refine (zq_aload_n dX5_readNumber_31 rfl).mpr ?_
      obtain ⟨g7, h⟩ := h
      refine (zq_getI2 (f := 321) (v := (mI m5 321 a0)) dX5_readNumber_32 fl_5_9 (by decide) rfl rfl (by first | rfl | simp only [zm_Is, zm_Rs, zm_As, zm_Os, zm_In0, zm_Rn0])).mpr ⟨g7, ?_⟩
      refine (zq_aload_n dX5_readNumber_35 rfl).mpr ?_
      refine (zq_getI2 (f := 323) (v := (mI m5 323 a0)) dX5_readNumber_36 fl_5_18 (by decide) rfl rfl (by first | rfl | simp only [zm_Is, zm_Rs, zm_As, zm_Os, zm_In0, zm_Rn0])).mpr ⟨g7, ?_⟩
      refine (zq_isub dX5_readNumber_39).mpr ?_
      refine (zq_iconst (v := 3) dX5_readNumber_40 (by decide)).mpr ?_
      refine (zq_icmp_ge (t := 70) dX5_readNumber_41 rfl).mpr ⟨fun c => ?_, fun c => ?_⟩
      · replace h := h.1 c
        refine (zq_aload_n dX5_readNumber_70 rfl).mpr ?_
        refine (zq_dupR dX5_readNumber_71).mpr ?_
        refine (zq_getI2 (f := 321) (v := (mI m5 321 a0)) dX5_readNumber_72 fl_5_9 (by decide) rfl rfl (by first | rfl | simp only [zm_Is, zm_Rs, zm_As, zm_Os, zm_In0, zm_Rn0])).mpr ⟨g7, ?_⟩
        refine (zq_iconst (v := 1) dX5_readNumber_75 (by decide)).mpr ?_
        refine (zq_iadd dX5_readNumber_76).mpr ?_
        refine (zq_putI (f := 321) dX5_readNumber_77 fl_5_9 (by decide) rfl rfl rfl).mpr ⟨g7, ?_⟩
        refine (zq_goto (t := 0) dX5_readNumber_80 rfl).mpr ?_
        exact h
      · replace h := h.2 c
        refine (zq_aload_n dX5_readNumber_44 rfl).mpr ?_
        refine (zq_aload_n dX5_readNumber_45 rfl).mpr ?_
        refine (zq_getI2 (f := 324) (v := (mI m5 324 a0)) dX5_readNumber_46 fl_5_21 (by decide) rfl rfl (by first | rfl | simp only [zm_Is, zm_Rs, zm_As, zm_Os, zm_In0, zm_Rn0])).mpr ⟨g7, ?_⟩
        refine (zq_bipush (v := 10) dX5_readNumber_49 (by decide)).mpr ?_
        refine (zq_imul dX5_readNumber_51).mpr ?_
        refine (zq_aload_n dX5_readNumber_52 rfl).mpr ?_
        refine (zq_getR2 (f := 320) (v := (mR m5 320 a0)) dX5_readNumber_53 fl_5_24 (by decide) rfl rfl (by first | rfl | simp only [zm_Is, zm_Rs, zm_As, zm_Os, zm_In0, zm_Rn0])).mpr ⟨g7, ?_⟩
        refine (zq_aload_n dX5_readNumber_56 rfl).mpr ?_
        refine (zq_getI2 (f := 321) (v := (mI m5 321 a0)) dX5_readNumber_57 fl_5_9 (by decide) rfl rfl (by first | rfl | simp only [zm_Is, zm_Rs, zm_As, zm_Os, zm_In0, zm_Rn0])).mpr ⟨g7, ?_⟩
        obtain ⟨g10, h⟩ := h
        refine zq_virtualI (n := 1) dX5_readNumber_60 mr_5_33 zn_83 rfl rfl rfl (zrcv_R zo_83 (by decide) g10) (Nat.le_of_ble_eq_true rfl) ?_
        refine h.mono (fun r m8 h => ?_)
        obtain ⟨v9, rfl, h⟩ := h
        refine ⟨_, rfl, ?_⟩
        refine (zq_iadd dX5_readNumber_63).mpr ?_
        refine (zq_bipush (v := 48) dX5_readNumber_64 (by decide)).mpr ?_
        refine (zq_isub dX5_readNumber_66).mpr ?_
        obtain ⟨g11, h⟩ := h
        refine (zq_putI (f := 324) dX5_readNumber_67 fl_5_21 (by decide) rfl rfl rfl).mpr ⟨g11, ?_⟩
        refine (zq_aload_n dX5_readNumber_70 rfl).mpr ?_
        refine (zq_dupR dX5_readNumber_71).mpr ?_
        refine (zq_getI2 (f := 321) (v := (mI m8 321 a0)) dX5_readNumber_72 fl_5_9 (by decide) rfl rfl (by first | rfl | simp only [zm_Is, zm_Rs, zm_As, zm_Os, zm_In0, zm_Rn0])).mpr ⟨g11, ?_⟩
        refine (zq_iconst (v := 1) dX5_readNumber_75 (by decide)).mpr ?_
        refine (zq_iadd dX5_readNumber_76).mpr ?_
        refine (zq_putI (f := 321) dX5_readNumber_77 fl_5_9 (by decide) rfl rfl rfl).mpr ⟨g11, ?_⟩
        refine (zq_goto (t := 0) dX5_readNumber_80 rfl).mpr ?_
        exact h
theorem bX5_readNumber_83 {a0 : Nat} (h : (mC m a0 = 6) ∧ (((wr ((mI m 321 a0) - (mI m 323 a0))) ≤ 3 → Q (.inl none) (sI m 322 a0 110)) ∧ (¬ ((wr ((mI m 321 a0) - (mI m 323 a0))) ≤ 3) → Q (.inl none) (sI m 322 a0 63)))) : zW xs xl d cX5_readNumber 5 (none) false [] 83 [zR a0] [] m Q := by
  refine (zq_aload_n dX5_readNumber_83 rfl).mpr ?_
  refine (zq_aload_n dX5_readNumber_84 rfl).mpr ?_
  obtain ⟨g1, h⟩ := h
  refine (zq_getI2 (f := 321) (v := (mI m 321 a0)) dX5_readNumber_85 fl_5_9 (by decide) rfl rfl (by first | rfl | simp only [zm_Is, zm_Rs, zm_As, zm_Os, zm_In0, zm_Rn0])).mpr ⟨g1, ?_⟩
  refine (zq_aload_n dX5_readNumber_88 rfl).mpr ?_
  refine (zq_getI2 (f := 323) (v := (mI m 323 a0)) dX5_readNumber_89 fl_5_18 (by decide) rfl rfl (by first | rfl | simp only [zm_Is, zm_Rs, zm_As, zm_Os, zm_In0, zm_Rn0])).mpr ⟨g1, ?_⟩
  refine (zq_isub dX5_readNumber_92).mpr ?_
  refine (zq_iconst (v := 3) dX5_readNumber_93 (by decide)).mpr ?_
  refine (zq_icmp_le (t := 102) dX5_readNumber_94 rfl).mpr ⟨fun c => ?_, fun c => ?_⟩
  · replace h := h.1 c
    refine (zq_bipush (v := 110) dX5_readNumber_102 (by decide)).mpr ?_
    refine (zq_putI (f := 322) dX5_readNumber_104 fl_5_15 (by decide) rfl rfl rfl).mpr ⟨g1, ?_⟩
    exact (zq_ret dX5_readNumber_107 rfl).mpr h
  · replace h := h.2 c
    refine (zq_bipush (v := 63) dX5_readNumber_97 (by decide)).mpr ?_
    refine (zq_goto (t := 104) dX5_readNumber_99 rfl).mpr ?_
    refine (zq_putI (f := 322) dX5_readNumber_104 fl_5_15 (by decide) rfl rfl rfl).mpr ⟨g1, ?_⟩
    exact (zq_ret dX5_readNumber_107 rfl).mpr h
theorem bX5_isAmong_0 {a0 : Nat} {a1 : Nat} {a2 : Int} (h : (mC m a0 = 6) ∧ zW xs xl d cX5_isAmong 5 (some .boolean) false [] 11 [zR a0, zE a1, zL a2, zU, zL 0, zU, zI 0] [] (sI m 324 a0 0) Q) : zC xs xl (d + 1) 51 [zR a0, zE a1, zL a2] m Q := by
  refine zk_51 ?_
  refine (zq_lconst dX5_isAmong_0 rfl).mpr ?_
  refine (zq_lstore (l := [zR a0, zE a1, zL a2, zU, zL 0, zU, zU]) dX5_isAmong_1 (Nat.le_of_ble_eq_true rfl) rfl).mpr ?_
  refine (zq_aload_n dX5_isAmong_3 rfl).mpr ?_
  refine (zq_iconst (v := 0) dX5_isAmong_4 (by decide)).mpr ?_
  obtain ⟨g1, h⟩ := h
  refine (zq_putI (f := 324) dX5_isAmong_5 fl_5_21 (by decide) rfl rfl rfl).mpr ⟨g1, ?_⟩
  refine (zq_iconst (v := 0) dX5_isAmong_8 (by decide)).mpr ?_
  refine (zq_istore (l := [zR a0, zE a1, zL a2, zU, zL 0, zU, zI 0]) dX5_isAmong_9 (Nat.le_of_ble_eq_true rfl) rfl).mpr ?_
  exact h
theorem bX5_isAmong_11 {a0 : Nat} {a1 : Nat} {a2 : Int} {a3 : zV} {a4 : Int} {a5 : zV} {a6 : Int} (h : (20 ≤ a1 ∧ a1 < 50) ∧ zC xs xl d 209 [zE a1] m (fun r m1 => ∃ v2 : Int, r = .inl (some (zI v2)) ∧ ((v2 ≤ a6 → (((bCmp a4 a2) ≠ 0 → Q (.inl (some (zI 0))) m1) ∧ (¬ ((bCmp a4 a2) ≠ 0) → Q (.inl (some (zI 1))) m1))) ∧ (¬ (v2 ≤ a6) → zC xs xl d 210 [zE a1, zI a6] m1 (fun r m4 => ∃ v5 : Int, r = .inl (some (zI v5)) ∧ ((v5 = 32 → (((bCmp a4 a2) ≠ 0 → (mC m4 a0 = 6) ∧ zW xs xl d cX5_isAmong 5 (some .boolean) false [] 11 [zR a0, zE a1, zL a2, (zcl a3), zL 0, zU, zI (wr (a6 + 1))] [] (sI m4 324 a0 (wr ((mI m4 324 a0) + 1))) Q) ∧ (¬ ((bCmp a4 a2) ≠ 0) → Q (.inl (some (zI 1))) m4))) ∧ (¬ (v5 = 32) → zC xs xl d 210 [zE a1, zI a6] m4 (fun r m7 => ∃ v8 : Int, r = .inl (some (zI v8)) ∧ zC xs xl d 52 [zL a4, zI v8] m7 (fun r m9 => ∃ v10 : Int, r = .inl (some (zL v10)) ∧ zW xs xl d cX5_isAmong 5 (some .boolean) false [] 11 [zR a0, zE a1, zL a2, (zcl a3), zL v10, zU, zI (wr (a6 + 1))] [] m9 Q))))))))) : zW xs xl d cX5_isAmong 5 (some .boolean) false [] 11 [zR a0, zE a1, zL a2, a3, zL a4, a5, zI a6] [] m Q := by
  refine (zq_iload dX5_isAmong_11 rfl).mpr ?_
  refine (zq_aload_nE dX5_isAmong_13 rfl).mpr ?_
  obtain ⟨g3, h⟩ := h
  refine zq_virtualI (n := 0) dX5_isAmong_14 mr_5_70 zn_209 rfl rfl rfl (zrcv_E zo_209 g3) (Nat.le_of_ble_eq_true rfl) ?_
  refine h.mono (fun r m1 h => ?_)
  obtain ⟨v2, rfl, h⟩ := h
  refine ⟨_, rfl, ?_⟩
  refine (zq_icmp_ge (t := 75) dX5_isAmong_17 rfl).mpr ⟨fun c => ?_, fun c => ?_⟩
  · replace h := h.1 c
    refine (zq_lload dX5_isAmong_75 rfl).mpr ?_
    refine (zq_lload_n dX5_isAmong_77 rfl).mpr ?_
    refine (zq_lcmp dX5_isAmong_78).mpr ?_
    refine (zq_if_ne (t := 86) dX5_isAmong_79 rfl).mpr ⟨fun c => ?_, fun c => ?_⟩
    · replace h := h.1 c
      refine (zq_iconst (v := 0) dX5_isAmong_86 (by decide)).mpr ?_
      exact (zq_iret dX5_isAmong_87 rfl).mpr ⟨Or.inl rfl, h⟩
    · replace h := h.2 c
      refine (zq_iconst (v := 1) dX5_isAmong_82 (by decide)).mpr ?_
      refine (zq_goto (t := 87) dX5_isAmong_83 rfl).mpr ?_
      exact (zq_iret dX5_isAmong_87 rfl).mpr ⟨Or.inr rfl, h⟩
  · replace h := h.2 c
    refine (zq_aload_nE dX5_isAmong_20 rfl).mpr ?_
    refine (zq_iload dX5_isAmong_21 rfl).mpr ?_
    refine zq_virtualI (n := 1) dX5_isAmong_23 mr_5_75 zn_210 rfl rfl rfl (zrcv_E zo_210 g3) (Nat.le_of_ble_eq_true rfl) ?_
    refine h.mono (fun r m4 h => ?_)
    obtain ⟨v5, rfl, h⟩ := h
    refine ⟨_, rfl, ?_⟩
    refine (zq_bipush (v := 32) dX5_isAmong_26 (by decide)).mpr ?_
    refine (zq_icmp_eq (t := 47) dX5_isAmong_28 rfl).mpr ⟨fun c => ?_, fun c => ?_⟩
    · replace h := h.1 c
      refine (zq_lload dX5_isAmong_47 rfl).mpr ?_
      refine (zq_lload_n dX5_isAmong_49 rfl).mpr ?_
      refine (zq_lcmp dX5_isAmong_50).mpr ?_
      refine (zq_if_ne (t := 56) dX5_isAmong_51 rfl).mpr ⟨fun c => ?_, fun c => ?_⟩
      · replace h := h.1 c
        refine (zq_lconst dX5_isAmong_56 rfl).mpr ?_
        refine (zq_lstore (l := [zR a0, zE a1, zL a2, (zcl a3), zL 0, zU, zI a6]) dX5_isAmong_57 (Nat.le_of_ble_eq_true rfl) rfl).mpr ?_
        refine (zq_aload_n dX5_isAmong_59 rfl).mpr ?_
        refine (zq_dupR dX5_isAmong_60).mpr ?_
        obtain ⟨g6, h⟩ := h
        refine (zq_getI2 (f := 324) (v := (mI m4 324 a0)) dX5_isAmong_61 fl_5_21 (by decide) rfl rfl (by first | rfl | simp only [zm_Is, zm_Rs, zm_As, zm_Os, zm_In0, zm_Rn0])).mpr ⟨g6, ?_⟩
        refine (zq_iconst (v := 1) dX5_isAmong_64 (by decide)).mpr ?_
        refine (zq_iadd dX5_isAmong_65).mpr ?_
        refine (zq_putI (f := 324) dX5_isAmong_66 fl_5_21 (by decide) rfl rfl rfl).mpr ⟨g6, ?_⟩
        refine (zq_iinc (l := [zR a0, zE a1, zL a2, (zcl a3), zL 0, zU, zI (wr (a6 + 1))]) dX5_isAmong_69 rfl rfl).mpr ?_
        refine (zq_goto (t := 11) dX5_isAmong_72 rfl).mpr ?_
        exact h
      · replace h := h.2 c
        refine (zq_iconst (v := 1) dX5_isAmong_54 (by decide)).mpr ?_
        exact (zq_iret dX5_isAmong_55 rfl).mpr ⟨Or.inr rfl, h⟩
    · replace h := h.2 c
      refine (zq_lload dX5_isAmong_31 rfl).mpr ?_
      refine (zq_aload_nE dX5_isAmong_33 rfl).mpr ?_
      refine (zq_iload dX5_isAmong_34 rfl).mpr ?_
      refine zq_virtualI (n := 1) dX5_isAmong_36 mr_5_75 zn_210 rfl rfl rfl (zrcv_E zo_210 g3) (Nat.le_of_ble_eq_true rfl) ?_
      refine h.mono (fun r m7 h => ?_)
      obtain ⟨v8, rfl, h⟩ := h
      refine ⟨_, rfl, ?_⟩
      refine zq_staticL (n := 2) dX5_isAmong_39 mr_5_56 zn_52 rfl rfl (Nat.le_of_ble_eq_true rfl) (Nat.le_of_ble_eq_true rfl) ?_
      refine h.mono (fun r m9 h => ?_)
      obtain ⟨v10, rfl, h⟩ := h
      refine ⟨_, rfl, ?_⟩
      refine (zq_lstore (l := [zR a0, zE a1, zL a2, (zcl a3), zL v10, zU, zI a6]) dX5_isAmong_42 (Nat.le_of_ble_eq_true rfl) rfl).mpr ?_
      refine (zq_goto (t := 69) dX5_isAmong_44 rfl).mpr ?_
      refine (zq_iinc (l := [zR a0, zE a1, zL a2, (zcl a3), zL v10, zU, zI (wr (a6 + 1))]) dX5_isAmong_69 rfl rfl).mpr ?_
      refine (zq_goto (t := 11) dX5_isAmong_72 rfl).mpr ?_
      exact h
theorem bX5_withLetter_0 {a0 : Int} {a2 : Int} (h : Q (.inl (some (zL (wl ((wl ((wl ((wl (a0 * 32)) + a2)) - 97)) + 1))))) m) : zC xs xl (d + 1) 52 [zL a0, zI a2] m Q := by
  refine zk_52 ?_
  refine (zq_lload_n dX5_withLetter_0 rfl).mpr ?_
  refine (zq_ldc2 dX5_withLetter_1 cq_5_79).mpr ?_
  refine (zq_lmul dX5_withLetter_4).mpr ?_
  refine (zq_iload_n dX5_withLetter_5 rfl).mpr ?_
  refine (zq_i2l dX5_withLetter_6).mpr ?_
  refine (zq_ladd dX5_withLetter_7).mpr ?_
  refine (zq_ldc2 dX5_withLetter_8 cq_5_81).mpr ?_
  refine (zq_lsub dX5_withLetter_11).mpr ?_
  refine (zq_lconst dX5_withLetter_12 rfl).mpr ?_
  refine (zq_ladd dX5_withLetter_13).mpr ?_
  exact (zq_lret dX5_withLetter_14 rfl).mpr h
theorem bX5_isBlank_0 {a0 : Int} (h : ((a0 = 32 → Q (.inl (some (zI 1))) m) ∧ (¬ (a0 = 32) → ((a0 ≠ 10 → Q (.inl (some (zI 0))) m) ∧ (¬ (a0 ≠ 10) → Q (.inl (some (zI 1))) m))))) : zC xs xl (d + 1) 53 [zI a0] m Q := by
  refine zk_53 ?_
  refine (zq_iload_n dX5_isBlank_0 rfl).mpr ?_
  refine (zq_bipush (v := 32) dX5_isBlank_1 (by decide)).mpr ?_
  refine (zq_icmp_eq (t := 12) dX5_isBlank_3 rfl).mpr ⟨fun c => ?_, fun c => ?_⟩
  · replace h := h.1 c
    refine (zq_iconst (v := 1) dX5_isBlank_12 (by decide)).mpr ?_
    refine (zq_goto (t := 17) dX5_isBlank_13 rfl).mpr ?_
    exact (zq_iret dX5_isBlank_17 rfl).mpr ⟨Or.inr rfl, h⟩
  · replace h := h.2 c
    refine (zq_iload_n dX5_isBlank_6 rfl).mpr ?_
    refine (zq_bipush (v := 10) dX5_isBlank_7 (by decide)).mpr ?_
    refine (zq_icmp_ne (t := 16) dX5_isBlank_9 rfl).mpr ⟨fun c => ?_, fun c => ?_⟩
    · replace h := h.1 c
      refine (zq_iconst (v := 0) dX5_isBlank_16 (by decide)).mpr ?_
      exact (zq_iret dX5_isBlank_17 rfl).mpr ⟨Or.inl rfl, h⟩
    · replace h := h.2 c
      refine (zq_iconst (v := 1) dX5_isBlank_12 (by decide)).mpr ?_
      refine (zq_goto (t := 17) dX5_isBlank_13 rfl).mpr ?_
      exact (zq_iret dX5_isBlank_17 rfl).mpr ⟨Or.inr rfl, h⟩
theorem bX5_isLetter_0 {a0 : Int} (h : ((a0 < 97 → Q (.inl (some (zI 0))) m) ∧ (¬ (a0 < 97) → ((122 < a0 → Q (.inl (some (zI 0))) m) ∧ (¬ (122 < a0) → Q (.inl (some (zI 1))) m))))) : zC xs xl (d + 1) 54 [zI a0] m Q := by
  refine zk_54 ?_
  refine (zq_iload_n dX5_isLetter_0 rfl).mpr ?_
  refine (zq_bipush (v := 97) dX5_isLetter_1 (by decide)).mpr ?_
  refine (zq_icmp_lt (t := 16) dX5_isLetter_3 rfl).mpr ⟨fun c => ?_, fun c => ?_⟩
  · replace h := h.1 c
    refine (zq_iconst (v := 0) dX5_isLetter_16 (by decide)).mpr ?_
    exact (zq_iret dX5_isLetter_17 rfl).mpr ⟨Or.inl rfl, h⟩
  · replace h := h.2 c
    refine (zq_iload_n dX5_isLetter_6 rfl).mpr ?_
    refine (zq_bipush (v := 122) dX5_isLetter_7 (by decide)).mpr ?_
    refine (zq_icmp_gt (t := 16) dX5_isLetter_9 rfl).mpr ⟨fun c => ?_, fun c => ?_⟩
    · replace h := h.1 c
      refine (zq_iconst (v := 0) dX5_isLetter_16 (by decide)).mpr ?_
      exact (zq_iret dX5_isLetter_17 rfl).mpr ⟨Or.inl rfl, h⟩
    · replace h := h.2 c
      refine (zq_iconst (v := 1) dX5_isLetter_12 (by decide)).mpr ?_
      refine (zq_goto (t := 17) dX5_isLetter_13 rfl).mpr ?_
      exact (zq_iret dX5_isLetter_17 rfl).mpr ⟨Or.inr rfl, h⟩
theorem bX5_isDigit_0 {a0 : Int} (h : ((a0 < 48 → Q (.inl (some (zI 0))) m) ∧ (¬ (a0 < 48) → ((57 < a0 → Q (.inl (some (zI 0))) m) ∧ (¬ (57 < a0) → Q (.inl (some (zI 1))) m))))) : zC xs xl (d + 1) 55 [zI a0] m Q := by
  refine zk_55 ?_
  refine (zq_iload_n dX5_isDigit_0 rfl).mpr ?_
  refine (zq_bipush (v := 48) dX5_isDigit_1 (by decide)).mpr ?_
  refine (zq_icmp_lt (t := 16) dX5_isDigit_3 rfl).mpr ⟨fun c => ?_, fun c => ?_⟩
  · replace h := h.1 c
    refine (zq_iconst (v := 0) dX5_isDigit_16 (by decide)).mpr ?_
    exact (zq_iret dX5_isDigit_17 rfl).mpr ⟨Or.inl rfl, h⟩
  · replace h := h.2 c
    refine (zq_iload_n dX5_isDigit_6 rfl).mpr ?_
    refine (zq_bipush (v := 57) dX5_isDigit_7 (by decide)).mpr ?_
    refine (zq_icmp_gt (t := 16) dX5_isDigit_9 rfl).mpr ⟨fun c => ?_, fun c => ?_⟩
    · replace h := h.1 c
      refine (zq_iconst (v := 0) dX5_isDigit_16 (by decide)).mpr ?_
      exact (zq_iret dX5_isDigit_17 rfl).mpr ⟨Or.inl rfl, h⟩
    · replace h := h.2 c
      refine (zq_iconst (v := 1) dX5_isDigit_12 (by decide)).mpr ?_
      refine (zq_goto (t := 17) dX5_isDigit_13 rfl).mpr ?_
      exact (zq_iret dX5_isDigit_17 rfl).mpr ⟨Or.inr rfl, h⟩
theorem bX5_isSymbol_0 {a0 : Int} (h : ((a0 = 59 → Q (.inl (some (zI 1))) m) ∧ (¬ (a0 = 59) → ((a0 = 123 → Q (.inl (some (zI 1))) m) ∧ (¬ (a0 = 123) → ((a0 ≠ 125 → Q (.inl (some (zI 0))) m) ∧ (¬ (a0 ≠ 125) → Q (.inl (some (zI 1))) m))))))) : zC xs xl (d + 1) 56 [zI a0] m Q := by
  refine zk_56 ?_
  refine (zq_iload_n dX5_isSymbol_0 rfl).mpr ?_
  refine (zq_bipush (v := 59) dX5_isSymbol_1 (by decide)).mpr ?_
  refine (zq_icmp_eq (t := 18) dX5_isSymbol_3 rfl).mpr ⟨fun c => ?_, fun c => ?_⟩
  · replace h := h.1 c
    refine (zq_iconst (v := 1) dX5_isSymbol_18 (by decide)).mpr ?_
    refine (zq_goto (t := 23) dX5_isSymbol_19 rfl).mpr ?_
    exact (zq_iret dX5_isSymbol_23 rfl).mpr ⟨Or.inr rfl, h⟩
  · replace h := h.2 c
    refine (zq_iload_n dX5_isSymbol_6 rfl).mpr ?_
    refine (zq_bipush (v := 123) dX5_isSymbol_7 (by decide)).mpr ?_
    refine (zq_icmp_eq (t := 18) dX5_isSymbol_9 rfl).mpr ⟨fun c => ?_, fun c => ?_⟩
    · replace h := h.1 c
      refine (zq_iconst (v := 1) dX5_isSymbol_18 (by decide)).mpr ?_
      refine (zq_goto (t := 23) dX5_isSymbol_19 rfl).mpr ?_
      exact (zq_iret dX5_isSymbol_23 rfl).mpr ⟨Or.inr rfl, h⟩
    · replace h := h.2 c
      refine (zq_iload_n dX5_isSymbol_12 rfl).mpr ?_
      refine (zq_bipush (v := 125) dX5_isSymbol_13 (by decide)).mpr ?_
      refine (zq_icmp_ne (t := 22) dX5_isSymbol_15 rfl).mpr ⟨fun c => ?_, fun c => ?_⟩
      · replace h := h.1 c
        refine (zq_iconst (v := 0) dX5_isSymbol_22 (by decide)).mpr ?_
        exact (zq_iret dX5_isSymbol_23 rfl).mpr ⟨Or.inl rfl, h⟩
      · replace h := h.2 c
        refine (zq_iconst (v := 1) dX5_isSymbol_18 (by decide)).mpr ?_
        refine (zq_goto (t := 23) dX5_isSymbol_19 rfl).mpr ?_
        exact (zq_iret dX5_isSymbol_23 rfl).mpr ⟨Or.inr rfl, h⟩
theorem bX6_init_0 {a0 : Nat} (h : (a0 ≠ 0) ∧ (mC m a0 = 7) ∧ (∀ m3 : zM, m3 = nwO (sI (sI (sI (sI (sI (sI (sI (sI (sI (sR (sI m 384 a0 0) 385 a0 0) 386 a0 (-1)) 387 a0 0) 388 a0 (-1)) 389 a0 0) 390 a0 0) 391 a0 0) 392 a0 0) 393 a0 0) 394 a0 0) 2 7 → ((mz m) ≠ 0) ∧ zC xs xl d 17 [zR (mz m)] m3 (fun r m4 => r = .inl none ∧ (mC m4 a0 = 7) ∧ Q (.inl none) (sI (sI (sI (sI (sR m4 395 a0 (mz m)) 396 a0 0) 397 a0 (-1)) 398 a0 (-1)) 399 a0 0)))) : zC xs xl (d + 1) 57 [zR a0] m Q := by
  refine zk_57 ?_
  refine (zq_aload_n dX6_init_0 rfl).mpr ?_
  obtain ⟨g1, h⟩ := h
  refine (zq_oinit dX6_init_1 mr_6_3).mpr ⟨⟨g1, (Nat.le_of_ble_eq_true rfl)⟩, ?_⟩
  refine (zq_aload_n dX6_init_4 rfl).mpr ?_
  refine (zq_iconst (v := 0) dX6_init_5 (by decide)).mpr ?_
  obtain ⟨g2, h⟩ := h
  refine (zq_putZ (f := 384) dX6_init_6 fl_6_9 (by decide) rfl rfl rfl).mpr ⟨⟨g2, (by decide)⟩, ?_⟩
  refine (zq_aload_n dX6_init_9 rfl).mpr ?_
  refine (zq_null dX6_init_10).mpr ?_
  refine (zq_putR (f := 385) dX6_init_11 fl_6_15 (by decide) rfl rfl rfl).mpr ⟨g2, ?_⟩
  refine (zq_aload_n dX6_init_14 rfl).mpr ?_
  refine (zq_iconst (v := (-1)) dX6_init_15 (by decide)).mpr ?_
  refine (zq_putI (f := 386) dX6_init_16 fl_6_19 (by decide) rfl rfl rfl).mpr ⟨g2, ?_⟩
  refine (zq_aload_n dX6_init_19 rfl).mpr ?_
  refine (zq_iconst (v := 0) dX6_init_20 (by decide)).mpr ?_
  refine (zq_putI (f := 387) dX6_init_21 fl_6_23 (by decide) rfl rfl rfl).mpr ⟨g2, ?_⟩
  refine (zq_aload_n dX6_init_24 rfl).mpr ?_
  refine (zq_iconst (v := (-1)) dX6_init_25 (by decide)).mpr ?_
  refine (zq_putI (f := 388) dX6_init_26 fl_6_26 (by decide) rfl rfl rfl).mpr ⟨g2, ?_⟩
  refine (zq_aload_n dX6_init_29 rfl).mpr ?_
  refine (zq_iconst (v := 0) dX6_init_30 (by decide)).mpr ?_
  refine (zq_putI (f := 389) dX6_init_31 fl_6_29 (by decide) rfl rfl rfl).mpr ⟨g2, ?_⟩
  refine (zq_aload_n dX6_init_34 rfl).mpr ?_
  refine (zq_iconst (v := 0) dX6_init_35 (by decide)).mpr ?_
  refine (zq_putI (f := 390) dX6_init_36 fl_6_32 (by decide) rfl rfl rfl).mpr ⟨g2, ?_⟩
  refine (zq_aload_n dX6_init_39 rfl).mpr ?_
  refine (zq_iconst (v := 0) dX6_init_40 (by decide)).mpr ?_
  refine (zq_putI (f := 391) dX6_init_41 fl_6_35 (by decide) rfl rfl rfl).mpr ⟨g2, ?_⟩
  refine (zq_aload_n dX6_init_44 rfl).mpr ?_
  refine (zq_iconst (v := 0) dX6_init_45 (by decide)).mpr ?_
  refine (zq_putI (f := 392) dX6_init_46 fl_6_38 (by decide) rfl rfl rfl).mpr ⟨g2, ?_⟩
  refine (zq_aload_n dX6_init_49 rfl).mpr ?_
  refine (zq_iconst (v := 0) dX6_init_50 (by decide)).mpr ?_
  refine (zq_putI (f := 393) dX6_init_51 fl_6_41 (by decide) rfl rfl rfl).mpr ⟨g2, ?_⟩
  refine (zq_aload_n dX6_init_54 rfl).mpr ?_
  refine (zq_iconst (v := 0) dX6_init_55 (by decide)).mpr ?_
  refine (zq_putI (f := 394) dX6_init_56 fl_6_44 (by decide) rfl rfl rfl).mpr ⟨g2, ?_⟩
  refine (zq_aload_n dX6_init_59 rfl).mpr ?_
  refine zq_new2 dX6_init_60 nw_6_47 rfl (fun m3 em3 => ?_)
  replace h := h m3 em3
  refine (zq_dupR dX6_init_63).mpr ?_
  obtain ⟨g6, h⟩ := h
  refine zq_special2 (n := 0) dX6_init_64 mr_6_49 zn_17 rfl rfl g6 (Nat.le_of_ble_eq_true rfl) ?_
  refine h.mono (fun r m4 h => ?_)
  obtain ⟨rfl, h⟩ := h
  refine ⟨rfl, ?_⟩
  obtain ⟨g7, h⟩ := h
  refine (zq_putR (f := 395) dX6_init_67 fl_6_50 (by decide) rfl rfl rfl).mpr ⟨g7, ?_⟩
  refine (zq_aload_n dX6_init_70 rfl).mpr ?_
  refine (zq_iconst (v := 0) dX6_init_71 (by decide)).mpr ?_
  refine (zq_putI (f := 396) dX6_init_72 fl_6_54 (by decide) rfl rfl rfl).mpr ⟨g7, ?_⟩
  refine (zq_aload_n dX6_init_75 rfl).mpr ?_
  refine (zq_iconst (v := (-1)) dX6_init_76 (by decide)).mpr ?_
  refine (zq_putI (f := 397) dX6_init_77 fl_6_57 (by decide) rfl rfl rfl).mpr ⟨g7, ?_⟩
  refine (zq_aload_n dX6_init_80 rfl).mpr ?_
  refine (zq_iconst (v := (-1)) dX6_init_81 (by decide)).mpr ?_
  refine (zq_putI (f := 398) dX6_init_82 fl_6_60 (by decide) rfl rfl rfl).mpr ⟨g7, ?_⟩
  refine (zq_aload_n dX6_init_85 rfl).mpr ?_
  refine (zq_iconst (v := 0) dX6_init_86 (by decide)).mpr ?_
  refine (zq_putZ (f := 399) dX6_init_87 fl_6_63 (by decide) rfl rfl rfl).mpr ⟨⟨g7, (by decide)⟩, ?_⟩
  exact (zq_ret dX6_init_90 rfl).mpr h
theorem bX6_begin_0 {a0 : Nat} {a1 : Nat} {a2 : Int} {a3 : Int} {a4 : Int} (h : (mC m a0 = 7) ∧ Q (.inl none) (sI (sI (sI (sI (sI (sI (sI (sI (sR (sI m 384 a0 1) 385 a0 a1) 386 a0 a2) 387 a0 a3) 388 a0 a4) 389 a0 0) 390 a0 0) 392 a0 0) 393 a0 0) 394 a0 0)) : zC xs xl (d + 1) 58 [zR a0, zR a1, zI a2, zI a3, zI a4] m Q := by
  refine zk_58 ?_
  refine (zq_aload_n dX6_begin_0 rfl).mpr ?_
  refine (zq_iconst (v := 1) dX6_begin_1 (by decide)).mpr ?_
  obtain ⟨g1, h⟩ := h
  refine (zq_putZ (f := 384) dX6_begin_2 fl_6_9 (by decide) rfl rfl rfl).mpr ⟨⟨g1, (by decide)⟩, ?_⟩
  refine (zq_aload_n dX6_begin_5 rfl).mpr ?_
  refine (zq_aload_n dX6_begin_6 rfl).mpr ?_
  refine (zq_putR (f := 385) dX6_begin_7 fl_6_15 (by decide) rfl rfl rfl).mpr ⟨g1, ?_⟩
  refine (zq_aload_n dX6_begin_10 rfl).mpr ?_
  refine (zq_iload_n dX6_begin_11 rfl).mpr ?_
  refine (zq_putI (f := 386) dX6_begin_12 fl_6_19 (by decide) rfl rfl rfl).mpr ⟨g1, ?_⟩
  refine (zq_aload_n dX6_begin_15 rfl).mpr ?_
  refine (zq_iload_n dX6_begin_16 rfl).mpr ?_
  refine (zq_putI (f := 387) dX6_begin_17 fl_6_23 (by decide) rfl rfl rfl).mpr ⟨g1, ?_⟩
  refine (zq_aload_n dX6_begin_20 rfl).mpr ?_
  refine (zq_iload dX6_begin_21 rfl).mpr ?_
  refine (zq_putI (f := 388) dX6_begin_23 fl_6_26 (by decide) rfl rfl rfl).mpr ⟨g1, ?_⟩
  refine (zq_aload_n dX6_begin_26 rfl).mpr ?_
  refine (zq_iconst (v := 0) dX6_begin_27 (by decide)).mpr ?_
  refine (zq_putI (f := 389) dX6_begin_28 fl_6_29 (by decide) rfl rfl rfl).mpr ⟨g1, ?_⟩
  refine (zq_aload_n dX6_begin_31 rfl).mpr ?_
  refine (zq_iconst (v := 0) dX6_begin_32 (by decide)).mpr ?_
  refine (zq_putI (f := 390) dX6_begin_33 fl_6_32 (by decide) rfl rfl rfl).mpr ⟨g1, ?_⟩
  refine (zq_aload_n dX6_begin_36 rfl).mpr ?_
  refine (zq_iconst (v := 0) dX6_begin_37 (by decide)).mpr ?_
  refine (zq_putI (f := 392) dX6_begin_38 fl_6_38 (by decide) rfl rfl rfl).mpr ⟨g1, ?_⟩
  refine (zq_aload_n dX6_begin_41 rfl).mpr ?_
  refine (zq_iconst (v := 0) dX6_begin_42 (by decide)).mpr ?_
  refine (zq_putI (f := 393) dX6_begin_43 fl_6_41 (by decide) rfl rfl rfl).mpr ⟨g1, ?_⟩
  refine (zq_aload_n dX6_begin_46 rfl).mpr ?_
  refine (zq_iconst (v := 0) dX6_begin_47 (by decide)).mpr ?_
  refine (zq_putI (f := 394) dX6_begin_48 fl_6_44 (by decide) rfl rfl rfl).mpr ⟨g1, ?_⟩
  exact (zq_ret dX6_begin_51 rfl).mpr h
theorem bX6_action_0 {a0 : Nat} (h : (mC m a0 = 7) ∧ (((mI m 384 a0) = 0 → Q (.inl (some (zR 0))) m) ∧ (¬ ((mI m 384 a0) = 0) → (((mR m 385 a0) = 0 → Q (.inl (some (zR 0))) m) ∧ (¬ ((mR m 385 a0) = 0) → (mC m (mR m 385 a0) = 4) ∧ zC xs xl d 33 [zR (mR m 385 a0), zI (mI m 389 a0)] m (fun r m2 => ∃ v3 : Nat, r = .inl (some (zR v3)) ∧ Q (.inl (some (zR v3))) m2)))))) : zC xs xl (d + 1) 59 [zR a0] m Q := by
  refine zk_59 ?_
  refine (zq_aload_n dX6_action_0 rfl).mpr ?_
  obtain ⟨g1, h⟩ := h
  refine (zq_getI2 (f := 384) (v := (mI m 384 a0)) dX6_action_1 fl_6_9 (by decide) rfl rfl (by first | rfl | simp only [zm_Is, zm_Rs, zm_As, zm_Os, zm_In0, zm_Rn0])).mpr ⟨g1, ?_⟩
  refine (zq_if_eq (t := 28) dX6_action_4 rfl).mpr ⟨fun c => ?_, fun c => ?_⟩
  · replace h := h.1 c
    refine (zq_null dX6_action_28).mpr ?_
    exact (zq_aret dX6_action_29 rfl rfl).mpr h
  · replace h := h.2 c
    refine (zq_aload_n dX6_action_7 rfl).mpr ?_
    refine (zq_getR2 (f := 385) (v := (mR m 385 a0)) dX6_action_8 fl_6_15 (by decide) rfl rfl (by first | rfl | simp only [zm_Is, zm_Rs, zm_As, zm_Os, zm_In0, zm_Rn0])).mpr ⟨g1, ?_⟩
    refine (zq_ifnull (t := 28) dX6_action_11 rfl).mpr ⟨fun c => ?_, fun c => ?_⟩
    · replace h := h.1 c
      refine (zq_null dX6_action_28).mpr ?_
      exact (zq_aret dX6_action_29 rfl rfl).mpr h
    · replace h := h.2 c
      refine (zq_aload_n dX6_action_14 rfl).mpr ?_
      refine (zq_getR2 (f := 385) (v := (mR m 385 a0)) dX6_action_15 fl_6_15 (by decide) rfl rfl (by first | rfl | simp only [zm_Is, zm_Rs, zm_As, zm_Os, zm_In0, zm_Rn0])).mpr ⟨g1, ?_⟩
      refine (zq_aload_n dX6_action_18 rfl).mpr ?_
      refine (zq_getI2 (f := 389) (v := (mI m 389 a0)) dX6_action_19 fl_6_29 (by decide) rfl rfl (by first | rfl | simp only [zm_Is, zm_Rs, zm_As, zm_Os, zm_In0, zm_Rn0])).mpr ⟨g1, ?_⟩
      obtain ⟨g4, h⟩ := h
      refine zq_virtualR (n := 1) dX6_action_22 mr_6_66 zn_33 rfl rfl rfl (zrcv_R zo_33 (by decide) g4) (Nat.le_of_ble_eq_true rfl) ?_
      refine h.mono (fun r m2 h => ?_)
      obtain ⟨v3, rfl, h⟩ := h
      refine ⟨_, rfl, ?_⟩
      refine (zq_goto (t := 29) dX6_action_25 rfl).mpr ?_
      exact (zq_aret dX6_action_29 rfl rfl).mpr h
theorem bX6_goOn_0 {a0 : Nat} (h : (mC m a0 = 7) ∧ Q (.inl none) (sI (sI m 389 a0 (wr ((mI m 389 a0) + 1))) 390 a0 0)) : zC xs xl (d + 1) 60 [zR a0] m Q := by
  refine zk_60 ?_
  refine (zq_aload_n dX6_goOn_0 rfl).mpr ?_
  refine (zq_dupR dX6_goOn_1).mpr ?_
  obtain ⟨g1, h⟩ := h
  refine (zq_getI2 (f := 389) (v := (mI m 389 a0)) dX6_goOn_2 fl_6_29 (by decide) rfl rfl (by first | rfl | simp only [zm_Is, zm_Rs, zm_As, zm_Os, zm_In0, zm_Rn0])).mpr ⟨g1, ?_⟩
  refine (zq_iconst (v := 1) dX6_goOn_5 (by decide)).mpr ?_
  refine (zq_iadd dX6_goOn_6).mpr ?_
  refine (zq_putI (f := 389) dX6_goOn_7 fl_6_29 (by decide) rfl rfl rfl).mpr ⟨g1, ?_⟩
  refine (zq_aload_n dX6_goOn_10 rfl).mpr ?_
  refine (zq_iconst (v := 0) dX6_goOn_11 (by decide)).mpr ?_
  refine (zq_putI (f := 390) dX6_goOn_12 fl_6_32 (by decide) rfl rfl rfl).mpr ⟨g1, ?_⟩
  exact (zq_ret dX6_goOn_15 rfl).mpr h
theorem bX6_losePiece_0 {a0 : Nat} (h : (mC m a0 = 7) ∧ (mC m (mR m 395 a0) = 3) ∧ zC xs xl d 19 [zR (mR m 395 a0)] m (fun r m2 => r = .inl none ∧ (mC m2 a0 = 7) ∧ Q (.inl none) (sI (sI (sI m2 394 a0 (wr ((mI m2 394 a0) + 1))) 389 a0 (mI m2 391 a0)) 390 a0 0))) : zC xs xl (d + 1) 61 [zR a0] m Q := by
  refine zk_61 ?_
  refine (zq_aload_n dX6_losePiece_0 rfl).mpr ?_
  obtain ⟨g1, h⟩ := h
  refine (zq_getR2 (f := 395) (v := (mR m 395 a0)) dX6_losePiece_1 fl_6_50 (by decide) rfl rfl (by first | rfl | simp only [zm_Is, zm_Rs, zm_As, zm_Os, zm_In0, zm_Rn0])).mpr ⟨g1, ?_⟩
  obtain ⟨g4, h⟩ := h
  refine zq_virtualV (n := 0) dX6_losePiece_4 mr_6_72 zn_19 rfl rfl rfl (zrcv_R zo_19 (by decide) g4) (Nat.le_of_ble_eq_true rfl) ?_
  refine h.mono (fun r m2 h => ?_)
  obtain ⟨rfl, h⟩ := h
  refine ⟨rfl, ?_⟩
  refine (zq_aload_n dX6_losePiece_7 rfl).mpr ?_
  refine (zq_dupR dX6_losePiece_8).mpr ?_
  obtain ⟨g5, h⟩ := h
  refine (zq_getI2 (f := 394) (v := (mI m2 394 a0)) dX6_losePiece_9 fl_6_44 (by decide) rfl rfl (by first | rfl | simp only [zm_Is, zm_Rs, zm_As, zm_Os, zm_In0, zm_Rn0])).mpr ⟨g5, ?_⟩
  refine (zq_iconst (v := 1) dX6_losePiece_12 (by decide)).mpr ?_
  refine (zq_iadd dX6_losePiece_13).mpr ?_
  refine (zq_putI (f := 394) dX6_losePiece_14 fl_6_44 (by decide) rfl rfl rfl).mpr ⟨g5, ?_⟩
  refine (zq_aload_n dX6_losePiece_17 rfl).mpr ?_
  refine (zq_aload_n dX6_losePiece_18 rfl).mpr ?_
  refine (zq_getI2 (f := 391) (v := (mI m2 391 a0)) dX6_losePiece_19 fl_6_35 (by decide) rfl rfl (by first | rfl | simp only [zm_Is, zm_Rs, zm_As, zm_Os, zm_In0, zm_Rn0])).mpr ⟨g5, ?_⟩
  refine (zq_putI (f := 389) dX6_losePiece_22 fl_6_29 (by decide) rfl rfl rfl).mpr ⟨g5, ?_⟩
  refine (zq_aload_n dX6_losePiece_25 rfl).mpr ?_
  refine (zq_iconst (v := 0) dX6_losePiece_26 (by decide)).mpr ?_
  refine (zq_putI (f := 390) dX6_losePiece_27 fl_6_32 (by decide) rfl rfl rfl).mpr ⟨g5, ?_⟩
  exact (zq_ret dX6_losePiece_30 rfl).mpr h
theorem bX6_getPiece_0 {a0 : Nat} {a1 : Int} {a2 : Int} (h : (mC m a0 = 7) ∧ (mC m (mR m 395 a0) = 3) ∧ zC xs xl d 18 [zR (mR m 395 a0), zI a1, zI a2] m (fun r m2 => r = .inl none ∧ (mC m2 a0 = 7) ∧ Q (.inl none) (sI m2 391 a0 (mI m2 389 a0)))) : zC xs xl (d + 1) 62 [zR a0, zI a1, zI a2] m Q := by
  refine zk_62 ?_
  refine (zq_aload_n dX6_getPiece_0 rfl).mpr ?_
  obtain ⟨g1, h⟩ := h
  refine (zq_getR2 (f := 395) (v := (mR m 395 a0)) dX6_getPiece_1 fl_6_50 (by decide) rfl rfl (by first | rfl | simp only [zm_Is, zm_Rs, zm_As, zm_Os, zm_In0, zm_Rn0])).mpr ⟨g1, ?_⟩
  refine (zq_iload_n dX6_getPiece_4 rfl).mpr ?_
  refine (zq_iload_n dX6_getPiece_5 rfl).mpr ?_
  obtain ⟨g4, h⟩ := h
  refine zq_virtualV (n := 2) dX6_getPiece_6 mr_6_75 zn_18 rfl rfl rfl (zrcv_R zo_18 (by decide) g4) (Nat.le_of_ble_eq_true rfl) ?_
  refine h.mono (fun r m2 h => ?_)
  obtain ⟨rfl, h⟩ := h
  refine ⟨rfl, ?_⟩
  refine (zq_aload_n dX6_getPiece_9 rfl).mpr ?_
  refine (zq_aload_n dX6_getPiece_10 rfl).mpr ?_
  obtain ⟨g5, h⟩ := h
  refine (zq_getI2 (f := 389) (v := (mI m2 389 a0)) dX6_getPiece_11 fl_6_29 (by decide) rfl rfl (by first | rfl | simp only [zm_Is, zm_Rs, zm_As, zm_Os, zm_In0, zm_Rn0])).mpr ⟨g5, ?_⟩
  refine (zq_putI (f := 391) dX6_getPiece_14 fl_6_35 (by decide) rfl rfl rfl).mpr ⟨g5, ?_⟩
  exact (zq_ret dX6_getPiece_17 rfl).mpr h
theorem bX6_treatPiece_0 {a0 : Nat} {a1 : Nat} (h : (mC m a1 = 1) ∧ (((mI m 0 a1) ≠ 3 → (((mI m 0 a1) ≠ 6 → (mC m a0 = 7) ∧ (mC m (mR m 395 a0) = 3) ∧ zC xs xl d 21 [zR (mR m 395 a0)] m (fun r m3 => r = .inl none ∧ (mC m3 a0 = 7) ∧ (mC m3 (mR m3 395 a0) = 3) ∧ zC xs xl d 22 [zR (mR m3 395 a0)] m3 (fun r m7 => ∃ v8 : Int, r = .inl (some (zI v8)) ∧ ((v8 = 0 → zW xs xl d cX6_treatPiece 6 (some .int) false [] 56 [zR a0, zR a1] [] m7 Q) ∧ (¬ (v8 = 0) → Q (.inl (some (zI 2))) m7))))) ∧ (¬ ((mI m 0 a1) ≠ 6) → (mC m a0 = 7) ∧ (mC m (mR m 395 a0) = 3) ∧ zC xs xl d 23 [zR (mR m 395 a0)] m (fun r m11 => r = .inl none ∧ zW xs xl d cX6_treatPiece 6 (some .int) false [] 56 [zR a0, zR a1] [] m11 Q)))) ∧ (¬ ((mI m 0 a1) ≠ 3) → (mC m a0 = 7) ∧ (mC m (mR m 395 a0) = 3) ∧ zC xs xl d 20 [zR (mR m 395 a0)] m (fun r m15 => r = .inl none ∧ zW xs xl d cX6_treatPiece 6 (some .int) false [] 56 [zR a0, zR a1] [] m15 Q)))) : zC xs xl (d + 1) 63 [zR a0, zR a1] m Q := by
  refine zk_63 ?_
  refine (zq_aload_n dX6_treatPiece_0 rfl).mpr ?_
  obtain ⟨g1, h⟩ := h
  refine (zq_getI2 (f := 0) (v := (mI m 0 a1)) dX6_treatPiece_1 fl_6_79 (by decide) rfl rfl (by first | rfl | simp only [zm_Is, zm_Rs, zm_As, zm_Os, zm_In0, zm_Rn0])).mpr ⟨g1, ?_⟩
  refine (zq_iconst (v := 3) dX6_treatPiece_4 (by decide)).mpr ?_
  refine (zq_icmp_ne (t := 18) dX6_treatPiece_5 rfl).mpr ⟨fun c => ?_, fun c => ?_⟩
  · replace h := h.1 c
    refine (zq_aload_n dX6_treatPiece_18 rfl).mpr ?_
    refine (zq_getI2 (f := 0) (v := (mI m 0 a1)) dX6_treatPiece_19 fl_6_79 (by decide) rfl rfl (by first | rfl | simp only [zm_Is, zm_Rs, zm_As, zm_Os, zm_In0, zm_Rn0])).mpr ⟨g1, ?_⟩
    refine (zq_bipush (v := 6) dX6_treatPiece_22 (by decide)).mpr ?_
    refine (zq_icmp_ne (t := 37) dX6_treatPiece_24 rfl).mpr ⟨fun c => ?_, fun c => ?_⟩
    · replace h := h.1 c
      refine (zq_aload_n dX6_treatPiece_37 rfl).mpr ?_
      obtain ⟨g2, h⟩ := h
      refine (zq_getR2 (f := 395) (v := (mR m 395 a0)) dX6_treatPiece_38 fl_6_50 (by decide) rfl rfl (by first | rfl | simp only [zm_Is, zm_Rs, zm_As, zm_Os, zm_In0, zm_Rn0])).mpr ⟨g2, ?_⟩
      obtain ⟨g5, h⟩ := h
      refine zq_virtualV (n := 0) dX6_treatPiece_41 mr_6_90 zn_21 rfl rfl rfl (zrcv_R zo_21 (by decide) g5) (Nat.le_of_ble_eq_true rfl) ?_
      refine h.mono (fun r m3 h => ?_)
      obtain ⟨rfl, h⟩ := h
      refine ⟨rfl, ?_⟩
      refine (zq_aload_n dX6_treatPiece_44 rfl).mpr ?_
      obtain ⟨g6, h⟩ := h
      refine (zq_getR2 (f := 395) (v := (mR m3 395 a0)) dX6_treatPiece_45 fl_6_50 (by decide) rfl rfl (by first | rfl | simp only [zm_Is, zm_Rs, zm_As, zm_Os, zm_In0, zm_Rn0])).mpr ⟨g6, ?_⟩
      obtain ⟨g9, h⟩ := h
      refine zq_virtualI (n := 0) dX6_treatPiece_48 mr_6_93 zn_22 rfl rfl rfl (zrcv_R zo_22 (by decide) g9) (Nat.le_of_ble_eq_true rfl) ?_
      refine h.mono (fun r m7 h => ?_)
      obtain ⟨v8, rfl, h⟩ := h
      refine ⟨_, rfl, ?_⟩
      refine (zq_if_eq (t := 56) dX6_treatPiece_51 rfl).mpr ⟨fun c => ?_, fun c => ?_⟩
      · replace h := h.1 c
        exact h
      · replace h := h.2 c
        refine (zq_iconst (v := 2) dX6_treatPiece_54 (by decide)).mpr ?_
        exact (zq_iret dX6_treatPiece_55 rfl).mpr ⟨trivial, h⟩
    · replace h := h.2 c
      refine (zq_aload_n dX6_treatPiece_27 rfl).mpr ?_
      obtain ⟨g10, h⟩ := h
      refine (zq_getR2 (f := 395) (v := (mR m 395 a0)) dX6_treatPiece_28 fl_6_50 (by decide) rfl rfl (by first | rfl | simp only [zm_Is, zm_Rs, zm_As, zm_Os, zm_In0, zm_Rn0])).mpr ⟨g10, ?_⟩
      obtain ⟨g13, h⟩ := h
      refine zq_virtualV (n := 0) dX6_treatPiece_31 mr_6_87 zn_23 rfl rfl rfl (zrcv_R zo_23 (by decide) g13) (Nat.le_of_ble_eq_true rfl) ?_
      refine h.mono (fun r m11 h => ?_)
      obtain ⟨rfl, h⟩ := h
      refine ⟨rfl, ?_⟩
      refine (zq_goto (t := 56) dX6_treatPiece_34 rfl).mpr ?_
      exact h
  · replace h := h.2 c
    refine (zq_aload_n dX6_treatPiece_8 rfl).mpr ?_
    obtain ⟨g14, h⟩ := h
    refine (zq_getR2 (f := 395) (v := (mR m 395 a0)) dX6_treatPiece_9 fl_6_50 (by decide) rfl rfl (by first | rfl | simp only [zm_Is, zm_Rs, zm_As, zm_Os, zm_In0, zm_Rn0])).mpr ⟨g14, ?_⟩
    obtain ⟨g17, h⟩ := h
    refine zq_virtualV (n := 0) dX6_treatPiece_12 mr_6_84 zn_20 rfl rfl rfl (zrcv_R zo_20 (by decide) g17) (Nat.le_of_ble_eq_true rfl) ?_
    refine h.mono (fun r m15 h => ?_)
    obtain ⟨rfl, h⟩ := h
    refine ⟨rfl, ?_⟩
    refine (zq_goto (t := 56) dX6_treatPiece_15 rfl).mpr ?_
    exact h
theorem bX6_treatPiece_56 {a0 : Nat} {a1 : Nat} (h : (mC m a0 = 7) ∧ (mC m a1 = 1) ∧ (((wr ((mI m 390 a0) + 1)) < (mI m 1 a1) → Q (.inl (some (zI 0))) (sI m 390 a0 (wr ((mI m 390 a0) + 1)))) ∧ (¬ ((wr ((mI m 390 a0) + 1)) < (mI m 1 a1)) → Q (.inl (some (zI 1))) (sI m 390 a0 (wr ((mI m 390 a0) + 1)))))) : zW xs xl d cX6_treatPiece 6 (some .int) false [] 56 [zR a0, zR a1] [] m Q := by
  refine (zq_aload_n dX6_treatPiece_56 rfl).mpr ?_
  refine (zq_dupR dX6_treatPiece_57).mpr ?_
  obtain ⟨g1, h⟩ := h
  refine (zq_getI2 (f := 390) (v := (mI m 390 a0)) dX6_treatPiece_58 fl_6_32 (by decide) rfl rfl (by first | rfl | simp only [zm_Is, zm_Rs, zm_As, zm_Os, zm_In0, zm_Rn0])).mpr ⟨g1, ?_⟩
  refine (zq_iconst (v := 1) dX6_treatPiece_61 (by decide)).mpr ?_
  refine (zq_iadd dX6_treatPiece_62).mpr ?_
  refine (zq_putI (f := 390) dX6_treatPiece_63 fl_6_32 (by decide) rfl rfl rfl).mpr ⟨g1, ?_⟩
  refine (zq_aload_n dX6_treatPiece_66 rfl).mpr ?_
  refine (zq_getI2 (f := 390) (v := (wr ((mI m 390 a0) + 1))) dX6_treatPiece_67 fl_6_32 (by decide) rfl rfl (by first | rfl | simp only [zm_Is, zm_Rs, zm_As, zm_Os, zm_In0, zm_Rn0])).mpr ⟨g1, ?_⟩
  refine (zq_aload_n dX6_treatPiece_70 rfl).mpr ?_
  obtain ⟨g2, h⟩ := h
  refine (zq_getI2 (f := 1) (v := (mI m 1 a1)) dX6_treatPiece_71 fl_6_97 (by decide) rfl rfl (by first | rfl | simp only [zm_Is, zm_Rs, zm_As, zm_Os, zm_In0, zm_Rn0])).mpr ⟨g2, ?_⟩
  refine (zq_icmp_lt (t := 81) dX6_treatPiece_74 rfl).mpr ⟨fun c => ?_, fun c => ?_⟩
  · replace h := h.1 c
    refine (zq_iconst (v := 0) dX6_treatPiece_81 (by decide)).mpr ?_
    exact (zq_iret dX6_treatPiece_82 rfl).mpr ⟨trivial, h⟩
  · replace h := h.2 c
    refine (zq_iconst (v := 1) dX6_treatPiece_77 (by decide)).mpr ?_
    refine (zq_goto (t := 82) dX6_treatPiece_78 rfl).mpr ?_
    exact (zq_iret dX6_treatPiece_82 rfl).mpr ⟨trivial, h⟩
theorem bX6_fitPiece_0 {a0 : Nat} (h : (mC m a0 = 7) ∧ (mC m (mR m 395 a0) = 3) ∧ zC xs xl d 29 [zR (mR m 395 a0)] m (fun r m2 => ∃ v3 : Int, r = .inl (some (zI v3)) ∧ (mC m2 a0 = 7) ∧ ((v3 ≤ (mI m2 387 a0) → (mC m2 (mR m2 395 a0) = 3) ∧ zC xs xl d 19 [zR (mR m2 395 a0)] m2 (fun r m6 => r = .inl none ∧ (mC m6 a0 = 7) ∧ Q (.inl (some (zI 1))) (sI (sI m6 392 a0 (wr ((mI m6 392 a0) + 1))) 393 a0 (wr ((mI m6 393 a0) + v3))))) ∧ (¬ (v3 ≤ (mI m2 387 a0)) → Q (.inl (some (zI 2))) m2)))) : zC xs xl (d + 1) 64 [zR a0] m Q := by
  refine zk_64 ?_
  refine (zq_aload_n dX6_fitPiece_0 rfl).mpr ?_
  obtain ⟨g1, h⟩ := h
  refine (zq_getR2 (f := 395) (v := (mR m 395 a0)) dX6_fitPiece_1 fl_6_50 (by decide) rfl rfl (by first | rfl | simp only [zm_Is, zm_Rs, zm_As, zm_Os, zm_In0, zm_Rn0])).mpr ⟨g1, ?_⟩
  obtain ⟨g4, h⟩ := h
  refine zq_virtualI (n := 0) dX6_fitPiece_4 mr_6_100 zn_29 rfl rfl rfl (zrcv_R zo_29 (by decide) g4) (Nat.le_of_ble_eq_true rfl) ?_
  refine h.mono (fun r m2 h => ?_)
  obtain ⟨v3, rfl, h⟩ := h
  refine ⟨_, rfl, ?_⟩
  refine (zq_istore_n (l := [zR a0, zI v3]) dX6_fitPiece_7 (Nat.le_of_ble_eq_true rfl) rfl).mpr ?_
  refine (zq_iload_n dX6_fitPiece_8 rfl).mpr ?_
  refine (zq_aload_n dX6_fitPiece_9 rfl).mpr ?_
  obtain ⟨g5, h⟩ := h
  refine (zq_getI2 (f := 387) (v := (mI m2 387 a0)) dX6_fitPiece_10 fl_6_23 (by decide) rfl rfl (by first | rfl | simp only [zm_Is, zm_Rs, zm_As, zm_Os, zm_In0, zm_Rn0])).mpr ⟨g5, ?_⟩
  refine (zq_icmp_le (t := 18) dX6_fitPiece_13 rfl).mpr ⟨fun c => ?_, fun c => ?_⟩
  · replace h := h.1 c
    refine (zq_aload_n dX6_fitPiece_18 rfl).mpr ?_
    refine (zq_getR2 (f := 395) (v := (mR m2 395 a0)) dX6_fitPiece_19 fl_6_50 (by decide) rfl rfl (by first | rfl | simp only [zm_Is, zm_Rs, zm_As, zm_Os, zm_In0, zm_Rn0])).mpr ⟨g5, ?_⟩
    obtain ⟨g8, h⟩ := h
    refine zq_virtualV (n := 0) dX6_fitPiece_22 mr_6_72 zn_19 rfl rfl rfl (zrcv_R zo_19 (by decide) g8) (Nat.le_of_ble_eq_true rfl) ?_
    refine h.mono (fun r m6 h => ?_)
    obtain ⟨rfl, h⟩ := h
    refine ⟨rfl, ?_⟩
    refine (zq_aload_n dX6_fitPiece_25 rfl).mpr ?_
    refine (zq_dupR dX6_fitPiece_26).mpr ?_
    obtain ⟨g9, h⟩ := h
    refine (zq_getI2 (f := 392) (v := (mI m6 392 a0)) dX6_fitPiece_27 fl_6_38 (by decide) rfl rfl (by first | rfl | simp only [zm_Is, zm_Rs, zm_As, zm_Os, zm_In0, zm_Rn0])).mpr ⟨g9, ?_⟩
    refine (zq_iconst (v := 1) dX6_fitPiece_30 (by decide)).mpr ?_
    refine (zq_iadd dX6_fitPiece_31).mpr ?_
    refine (zq_putI (f := 392) dX6_fitPiece_32 fl_6_38 (by decide) rfl rfl rfl).mpr ⟨g9, ?_⟩
    refine (zq_aload_n dX6_fitPiece_35 rfl).mpr ?_
    refine (zq_dupR dX6_fitPiece_36).mpr ?_
    refine (zq_getI2 (f := 393) (v := (mI m6 393 a0)) dX6_fitPiece_37 fl_6_41 (by decide) rfl rfl (by first | rfl | simp only [zm_Is, zm_Rs, zm_As, zm_Os, zm_In0, zm_Rn0])).mpr ⟨g9, ?_⟩
    refine (zq_iload_n dX6_fitPiece_40 rfl).mpr ?_
    refine (zq_iadd dX6_fitPiece_41).mpr ?_
    refine (zq_putI (f := 393) dX6_fitPiece_42 fl_6_41 (by decide) rfl rfl rfl).mpr ⟨g9, ?_⟩
    refine (zq_iconst (v := 1) dX6_fitPiece_45 (by decide)).mpr ?_
    exact (zq_iret dX6_fitPiece_46 rfl).mpr ⟨trivial, h⟩
  · replace h := h.2 c
    refine (zq_iconst (v := 2) dX6_fitPiece_16 (by decide)).mpr ?_
    exact (zq_iret dX6_fitPiece_17 rfl).mpr ⟨trivial, h⟩
end ZB1
