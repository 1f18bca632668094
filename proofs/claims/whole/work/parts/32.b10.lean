section ZB10
variable {xs : Nat → Int} {xl d : Nat} {m : zM} {Q : zRes → zM → Prop}
theorem bL_law_0 {a0 : Nat} (h : (∀ m1 : zM, m1 = nwO m 10 5 → ((mz m) ≠ 0) ∧ zC xs xl d 102 [zR (mz m)] m1 (fun r m2 => r = .inl none ∧ (∀ m5 : zM, m5 = nwO m2 12 18 → ((mz m2) ≠ 0) ∧ zC xs xl d 160 [zR (mz m2)] m5 (fun r m6 => r = .inl none ∧ (∀ m9 : zM, m9 = nwA m6 23 1 → zW xs xl d cL_law 13 (some .boolean) false [] 23 [zE a0, zR (mz m), zR (mz m2), zR (mz m6), zI 0, zU, zU, zU, zU] [] m9 Q)))))) : zC xs xl (d + 1) 244 [zE a0] m Q := by
  refine zk_244 ?_
  refine zq_new2 dL_law_0 nw_13_8 rfl (fun m1 em1 => ?_)
  replace h := h m1 em1
  refine (zq_dupR dL_law_3).mpr ?_
  obtain ⟨g4, h⟩ := h
  refine zq_special2 (n := 0) dL_law_4 mr_13_78 zn_102 rfl rfl g4 (Nat.le_of_ble_eq_true rfl) ?_
  refine h.mono (fun r m2 h => ?_)
  obtain ⟨rfl, h⟩ := h
  refine ⟨rfl, ?_⟩
  refine (zq_astore_n (l := [zE a0, zR (mz m), zU, zU, zU, zU, zU, zU, zU]) dL_law_7 (Nat.le_of_ble_eq_true rfl) rfl).mpr ?_
  refine zq_new2 dL_law_8 nw_13_79 rfl (fun m5 em5 => ?_)
  replace h := h m5 em5
  refine (zq_dupR dL_law_11).mpr ?_
  obtain ⟨g8, h⟩ := h
  refine zq_special2 (n := 0) dL_law_12 mr_13_81 zn_160 rfl rfl g8 (Nat.le_of_ble_eq_true rfl) ?_
  refine h.mono (fun r m6 h => ?_)
  obtain ⟨rfl, h⟩ := h
  refine ⟨rfl, ?_⟩
  refine (zq_astore_n (l := [zE a0, zR (mz m), zR (mz m2), zU, zU, zU, zU, zU, zU]) dL_law_15 (Nat.le_of_ble_eq_true rfl) rfl).mpr ?_
  refine (zq_iconst (v := 1) dL_law_16 (by decide)).mpr ?_
  refine zq_newarray2 (kd := 23) (i := 1) dL_law_17 rfl (by decide) rfl ⟨by decide, by decide⟩ (fun m9 em9 => ?_)
  replace h := h m9 em9
  refine (zq_astore_n (l := [zE a0, zR (mz m), zR (mz m2), zR (mz m6), zU, zU, zU, zU, zU]) dL_law_19 (Nat.le_of_ble_eq_true rfl) rfl).mpr ?_
  refine (zq_iconst (v := 0) dL_law_20 (by decide)).mpr ?_
  refine (zq_istore (l := [zE a0, zR (mz m), zR (mz m2), zR (mz m6), zI 0, zU, zU, zU, zU]) dL_law_21 (Nat.le_of_ble_eq_true rfl) rfl).mpr ?_
  exact h
theorem bL_law_23 {a0 : Nat} {a1 : Nat} {a2 : Nat} {a3 : Nat} {a4 : Int} {a5 : zV} {a6 : zV} {a7 : zV} {a8 : zV} (h : (zXk a0 ≠ 0) ∧ (((wr ((wr (zXN xl a0)) - 6)) < a4 → Q (.inl (some (zI 1))) m) ∧ (¬ ((wr ((wr (zXN xl a0)) - 6)) < a4) → (zXk a0 = 1 ∧ 0 ≤ a4 ∧ a4 < zXN xl a0) ∧ (((bAnd (zXI xs a0 (a4).toNat) 31) = 0 → zW xs xl d cL_law 13 (some .boolean) false [] 148 [zE a0, zR a1, zR a2, zR a3, zI a4, a5, a6, a7, a8] [] m Q) ∧ ((bAnd (zXI xs a0 (a4).toNat) 31) ≠ 0 → (((bAnd (zXI xs a0 (a4).toNat) 31) = 1 → zW xs xl d cL_law 13 (some .boolean) false [] 252 [zE a0, zR a1, zR a2, zR a3, zI a4, a5, a6, a7, a8] [] m Q) ∧ ((bAnd (zXI xs a0 (a4).toNat) 31) ≠ 1 → (((bAnd (zXI xs a0 (a4).toNat) 31) = 2 → zW xs xl d cL_law 13 (some .boolean) false [] 308 [zE a0, zR a1, zR a2, zR a3, zI a4, a5, a6, a7, a8] [] m Q) ∧ ((bAnd (zXI xs a0 (a4).toNat) 31) ≠ 2 → (((bAnd (zXI xs a0 (a4).toNat) 31) = 3 → zW xs xl d cL_law 13 (some .boolean) false [] 364 [zE a0, zR a1, zR a2, zR a3, zI a4, a5, a6, a7, a8] [] m Q) ∧ ((bAnd (zXI xs a0 (a4).toNat) 31) ≠ 3 → (((bAnd (zXI xs a0 (a4).toNat) 31) = 4 → zW xs xl d cL_law 13 (some .boolean) false [] 377 [zE a0, zR a1, zR a2, zR a3, zI a4, a5, a6, a7, a8] [] m Q) ∧ ((bAnd (zXI xs a0 (a4).toNat) 31) ≠ 4 → (((bAnd (zXI xs a0 (a4).toNat) 31) = 5 → zW xs xl d cL_law 13 (some .boolean) false [] 445 [zE a0, zR a1, zR a2, zR a3, zI a4, a5, a6, a7, a8] [] m Q) ∧ ((bAnd (zXI xs a0 (a4).toNat) 31) ≠ 5 → (((bAnd (zXI xs a0 (a4).toNat) 31) = 6 → zW xs xl d cL_law 13 (some .boolean) false [] 525 [zE a0, zR a1, zR a2, zR a3, zI a4, a5, a6, a7, a8] [] m Q) ∧ ((bAnd (zXI xs a0 (a4).toNat) 31) ≠ 6 → (((bAnd (zXI xs a0 (a4).toNat) 31) = 7 → zW xs xl d cL_law 13 (some .boolean) false [] 593 [zE a0, zR a1, zR a2, zR a3, zI a4, a5, a6, a7, a8] [] m Q) ∧ ((bAnd (zXI xs a0 (a4).toNat) 31) ≠ 7 → (((bAnd (zXI xs a0 (a4).toNat) 31) = 8 → zW xs xl d cL_law 13 (some .boolean) false [] 661 [zE a0, zR a1, zR a2, zR a3, zI a4, a5, a6, a7, a8] [] m Q) ∧ ((bAnd (zXI xs a0 (a4).toNat) 31) ≠ 8 → (((bAnd (zXI xs a0 (a4).toNat) 31) = 9 → zW xs xl d cL_law 13 (some .boolean) false [] 757 [zE a0, zR a1, zR a2, zR a3, zI a4, a5, a6, a7, a8] [] m Q) ∧ ((bAnd (zXI xs a0 (a4).toNat) 31) ≠ 9 → (((bAnd (zXI xs a0 (a4).toNat) 31) = 10 → zW xs xl d cL_law 13 (some .boolean) false [] 813 [zE a0, zR a1, zR a2, zR a3, zI a4, a5, a6, a7, a8] [] m Q) ∧ ((bAnd (zXI xs a0 (a4).toNat) 31) ≠ 10 → (((bAnd (zXI xs a0 (a4).toNat) 31) = 11 → zW xs xl d cL_law 13 (some .boolean) false [] 881 [zE a0, zR a1, zR a2, zR a3, zI a4, a5, a6, a7, a8] [] m Q) ∧ ((bAnd (zXI xs a0 (a4).toNat) 31) ≠ 11 → (((bAnd (zXI xs a0 (a4).toNat) 31) = 12 → zW xs xl d cL_law 13 (some .boolean) false [] 925 [zE a0, zR a1, zR a2, zR a3, zI a4, a5, a6, a7, a8] [] m Q) ∧ ((bAnd (zXI xs a0 (a4).toNat) 31) ≠ 12 → (((bAnd (zXI xs a0 (a4).toNat) 31) = 13 → zW xs xl d cL_law 13 (some .boolean) false [] 1005 [zE a0, zR a1, zR a2, zR a3, zI a4, a5, a6, a7, a8] [] m Q) ∧ ((bAnd (zXI xs a0 (a4).toNat) 31) ≠ 13 → (((bAnd (zXI xs a0 (a4).toNat) 31) = 14 → zW xs xl d cL_law 13 (some .boolean) false [] 1085 [zE a0, zR a1, zR a2, zR a3, zI a4, a5, a6, a7, a8] [] m Q) ∧ ((bAnd (zXI xs a0 (a4).toNat) 31) ≠ 14 → (((bAnd (zXI xs a0 (a4).toNat) 31) = 15 → zW xs xl d cL_law 13 (some .boolean) false [] 1153 [zE a0, zR a1, zR a2, zR a3, zI a4, a5, a6, a7, a8] [] m Q) ∧ ((bAnd (zXI xs a0 (a4).toNat) 31) ≠ 15 → (((bAnd (zXI xs a0 (a4).toNat) 31) = 16 → zW xs xl d cL_law 13 (some .boolean) false [] 1249 [zE a0, zR a1, zR a2, zR a3, zI a4, a5, a6, a7, a8] [] m Q) ∧ ((bAnd (zXI xs a0 (a4).toNat) 31) ≠ 16 → (((bAnd (zXI xs a0 (a4).toNat) 31) = 17 → zW xs xl d cL_law 13 (some .boolean) false [] 1262 [zE a0, zR a1, zR a2, zR a3, zI a4, a5, a6, a7, a8] [] m Q) ∧ ((bAnd (zXI xs a0 (a4).toNat) 31) ≠ 17 → (((bAnd (zXI xs a0 (a4).toNat) 31) = 18 → zW xs xl d cL_law 13 (some .boolean) false [] 1318 [zE a0, zR a1, zR a2, zR a3, zI a4, a5, a6, a7, a8] [] m Q) ∧ ((bAnd (zXI xs a0 (a4).toNat) 31) ≠ 18 → (((bAnd (zXI xs a0 (a4).toNat) 31) = 19 → zW xs xl d cL_law 13 (some .boolean) false [] 1374 [zE a0, zR a1, zR a2, zR a3, zI a4, a5, a6, a7, a8] [] m Q) ∧ ((bAnd (zXI xs a0 (a4).toNat) 31) ≠ 19 → (((bAnd (zXI xs a0 (a4).toNat) 31) = 20 → zW xs xl d cL_law 13 (some .boolean) false [] 1442 [zE a0, zR a1, zR a2, zR a3, zI a4, a5, a6, a7, a8] [] m Q) ∧ ((bAnd (zXI xs a0 (a4).toNat) 31) ≠ 20 → (((bAnd (zXI xs a0 (a4).toNat) 31) = 21 → zW xs xl d cL_law 13 (some .boolean) false [] 1510 [zE a0, zR a1, zR a2, zR a3, zI a4, a5, a6, a7, a8] [] m Q) ∧ ((bAnd (zXI xs a0 (a4).toNat) 31) ≠ 21 → (((bAnd (zXI xs a0 (a4).toNat) 31) = 22 → zW xs xl d cL_law 13 (some .boolean) false [] 1551 [zE a0, zR a1, zR a2, zR a3, zI a4, a5, a6, a7, a8] [] m Q) ∧ ((bAnd (zXI xs a0 (a4).toNat) 31) ≠ 22 → zW xs xl d cL_law 13 (some .boolean) false [] 1565 [zE a0, zR a1, zR a2, zR a3, zI a4, a5, a6, a7, a8] [] m Q))))))))))))))))))))))))))))))))))))))))))))))))) : zW xs xl d cL_law 13 (some .boolean) false [] 23 [zE a0, zR a1, zR a2, zR a3, zI a4, a5, a6, a7, a8] [] m Q := by
  refine (zq_iload dL_law_23 rfl).mpr ?_
  refine (zq_aload_nE dL_law_25 rfl).mpr ?_
  obtain ⟨g1, h⟩ := h
  refine (zq_alenE dL_law_26).mpr ⟨g1, ?_⟩
  refine (zq_bipush (v := 6) dL_law_27 (by decide)).mpr ?_
  refine (zq_isub dL_law_29).mpr ?_
  refine (zq_icmp_gt (t := 1571) dL_law_30 rfl).mpr ⟨fun c => ?_, fun c => ?_⟩
  · replace h := h.1 c
    refine (zq_iconst (v := 1) dL_law_1571 (by decide)).mpr ?_
    exact (zq_iret dL_law_1572 rfl).mpr ⟨Or.inr rfl, h⟩
  · replace h := h.2 c
    refine (zq_aload_nE dL_law_33 rfl).mpr ?_
    refine (zq_iload dL_law_34 rfl).mpr ?_
    obtain ⟨g2, h⟩ := h
    refine (zq_ialdE dL_law_36).mpr ⟨g2, ?_⟩
    refine (zq_bipush (v := 31) dL_law_37 (by decide)).mpr ?_
    refine (zq_iand dL_law_39).mpr ?_
    refine (zq_tab (td := 1565) (r := [148, 252, 308, 364, 377, 445, 525, 593, 661, 757, 813, 881, 925, 1005, 1085, 1153, 1249, 1262, 1318, 1374, 1442, 1510, 1551]) dL_law_40 rfl rfl rfl).mpr ?_
    refine ⟨fun c => ?_, fun c => ?_⟩
    · replace h := h.1 c
      exact h
    · replace h := h.2 c
      refine ⟨fun c => ?_, fun c => ?_⟩
      · replace h := h.1 c
        exact h
      · replace h := h.2 c
        refine ⟨fun c => ?_, fun c => ?_⟩
        · replace h := h.1 c
          exact h
        · replace h := h.2 c
          refine ⟨fun c => ?_, fun c => ?_⟩
          · replace h := h.1 c
            exact h
          · replace h := h.2 c
            refine ⟨fun c => ?_, fun c => ?_⟩
            · replace h := h.1 c
              exact h
            · replace h := h.2 c
              refine ⟨fun c => ?_, fun c => ?_⟩
              · replace h := h.1 c
                exact h
              · replace h := h.2 c
                refine ⟨fun c => ?_, fun c => ?_⟩
                · replace h := h.1 c
                  exact h
                · replace h := h.2 c
                  refine ⟨fun c => ?_, fun c => ?_⟩
                  · replace h := h.1 c
                    exact h
                  · replace h := h.2 c
                    refine ⟨fun c => ?_, fun c => ?_⟩
                    · replace h := h.1 c
                      exact h
                    · replace h := h.2 c
                      refine ⟨fun c => ?_, fun c => ?_⟩
                      · replace h := h.1 c
                        exact h
                      · replace h := h.2 c
                        refine ⟨fun c => ?_, fun c => ?_⟩
                        · replace h := h.1 c
                          exact h
                        · replace h := h.2 c
                          refine ⟨fun c => ?_, fun c => ?_⟩
                          · replace h := h.1 c
                            exact h
                          · replace h := h.2 c
                            refine ⟨fun c => ?_, fun c => ?_⟩
                            · replace h := h.1 c
                              exact h
                            · replace h := h.2 c
                              refine ⟨fun c => ?_, fun c => ?_⟩
                              · replace h := h.1 c
                                exact h
                              · replace h := h.2 c
                                refine ⟨fun c => ?_, fun c => ?_⟩
                                · replace h := h.1 c
                                  exact h
                                · replace h := h.2 c
                                  refine ⟨fun c => ?_, fun c => ?_⟩
                                  · replace h := h.1 c
                                    exact h
                                  · replace h := h.2 c
                                    refine ⟨fun c => ?_, fun c => ?_⟩
                                    · replace h := h.1 c
                                      exact h
                                    · replace h := h.2 c
                                      refine ⟨fun c => ?_, fun c => ?_⟩
                                      · replace h := h.1 c
                                        exact h
                                      · replace h := h.2 c
                                        refine ⟨fun c => ?_, fun c => ?_⟩
                                        · replace h := h.1 c
                                          exact h
                                        · replace h := h.2 c
                                          refine ⟨fun c => ?_, fun c => ?_⟩
                                          · replace h := h.1 c
                                            exact h
                                          · replace h := h.2 c
                                            refine ⟨fun c => ?_, fun c => ?_⟩
                                            · replace h := h.1 c
                                              exact h
                                            · replace h := h.2 c
                                              refine ⟨fun c => ?_, fun c => ?_⟩
                                              · replace h := h.1 c
                                                exact h
                                              · replace h := h.2 c
                                                refine ⟨fun c => ?_, fun c => ?_⟩
                                                · replace h := h.1 c
                                                  exact h
                                                · replace h := h.2 c
                                                  exact h
theorem bL_law_148 {a0 : Nat} {a1 : Nat} {a2 : Nat} {a3 : Nat} {a4 : Int} {a5 : zV} {a6 : zV} {a7 : zV} {a8 : zV} (h : (zXk a0 = 1 ∧ 0 ≤ (wr (a4 + 1)) ∧ (wr (a4 + 1)) < zXN xl a0) ∧ (zXk a0 = 1 ∧ 0 ≤ (wr (a4 + 2)) ∧ (wr (a4 + 2)) < zXN xl a0) ∧ (zXk a0 = 1 ∧ 0 ≤ (wr (a4 + 3)) ∧ (wr (a4 + 3)) < zXN xl a0) ∧ (zXk a0 = 1 ∧ 0 ≤ (wr (a4 + 4)) ∧ (wr (a4 + 4)) < zXN xl a0) ∧ (zXk a0 = 1 ∧ 0 ≤ (wr (a4 + 5)) ∧ (wr (a4 + 5)) < zXN xl a0) ∧ zC xs xl d 225 [zR a1, zI (zXI xs a0 ((wr (a4 + 1))).toNat), zI (zXI xs a0 ((wr (a4 + 2))).toNat), zI (zXI xs a0 ((wr (a4 + 3))).toNat), zI (zXI xs a0 ((wr (a4 + 4))).toNat), zI (zXI xs a0 ((wr (a4 + 5))).toNat), zR a3] m (fun r m6 => ∃ v7 : Int, r = .inl (some (zI v7)) ∧ (mC m6 a2 = 13) ∧ zC xs xl d 164 [zR a2, zI (zXI xs a0 ((wr (a4 + 1))).toNat), zI (zXI xs a0 ((wr (a4 + 2))).toNat), zI (zXI xs a0 ((wr (a4 + 3))).toNat), zI (zXI xs a0 ((wr (a4 + 4))).toNat), zI (zXI xs a0 ((wr (a4 + 5))).toNat)] m6 (fun r m8 => ∃ v9 : Int, r = .inl (some (zI v9)) ∧ (mC m8 a2 = 13) ∧ zC xs xl d 161 [zR a2] m8 (fun r m11 => ∃ v12 : Int, r = .inl (some (zI v12)) ∧ ((v12 = v7 → ((v7 ≠ 0 → zW xs xl d cL_law 13 (some .boolean) false [] 1565 [zE a0, zR a1, zR a2, zR a3, zI a4, zI v7, zI v9, a7, a8] [] m11 Q) ∧ (¬ (v7 ≠ 0) → (mC m11 a3 = 23) ∧ ((0 : Int) < mN m11 a3) ∧ (((bCmp (mA m11 a3 0) v9) = 0 → zW xs xl d cL_law 13 (some .boolean) false [] 1565 [zE a0, zR a1, zR a2, zR a3, zI a4, zI v7, zI v9, a7, a8] [] m11 Q) ∧ (¬ ((bCmp (mA m11 a3 0) v9) = 0) → Q (.inl (some (zI 0))) m11))))) ∧ (¬ (v12 = v7) → Q (.inl (some (zI 0))) m11)))))) : zW xs xl d cL_law 13 (some .boolean) false [] 148 [zE a0, zR a1, zR a2, zR a3, zI a4, a5, a6, a7, a8] [] m Q := by
  refine (zq_aload_n dL_law_148 rfl).mpr ?_
  refine (zq_aload_nE dL_law_149 rfl).mpr ?_
  refine (zq_iload dL_law_150 rfl).mpr ?_
  refine (zq_iconst (v := 1) dL_law_152 (by decide)).mpr ?_
  refine (zq_iadd dL_law_153).mpr ?_
  obtain ⟨g1, h⟩ := h
  refine (zq_ialdE dL_law_154).mpr ⟨g1, ?_⟩
  refine (zq_aload_nE dL_law_155 rfl).mpr ?_
  refine (zq_iload dL_law_156 rfl).mpr ?_
  refine (zq_iconst (v := 2) dL_law_158 (by decide)).mpr ?_
  refine (zq_iadd dL_law_159).mpr ?_
  obtain ⟨g2, h⟩ := h
  refine (zq_ialdE dL_law_160).mpr ⟨g2, ?_⟩
  refine (zq_aload_nE dL_law_161 rfl).mpr ?_
  refine (zq_iload dL_law_162 rfl).mpr ?_
  refine (zq_iconst (v := 3) dL_law_164 (by decide)).mpr ?_
  refine (zq_iadd dL_law_165).mpr ?_
  obtain ⟨g3, h⟩ := h
  refine (zq_ialdE dL_law_166).mpr ⟨g3, ?_⟩
  refine (zq_aload_nE dL_law_167 rfl).mpr ?_
  refine (zq_iload dL_law_168 rfl).mpr ?_
  refine (zq_iconst (v := 4) dL_law_170 (by decide)).mpr ?_
  refine (zq_iadd dL_law_171).mpr ?_
  obtain ⟨g4, h⟩ := h
  refine (zq_ialdE dL_law_172).mpr ⟨g4, ?_⟩
  refine (zq_aload_nE dL_law_173 rfl).mpr ?_
  refine (zq_iload dL_law_174 rfl).mpr ?_
  refine (zq_iconst (v := 5) dL_law_176 (by decide)).mpr ?_
  refine (zq_iadd dL_law_177).mpr ?_
  obtain ⟨g5, h⟩ := h
  refine (zq_ialdE dL_law_178).mpr ⟨g5, ?_⟩
  refine (zq_aload_n dL_law_179 rfl).mpr ?_
  refine zq_staticI (n := 7) dL_law_180 mr_13_82 zn_225 rfl rfl (Nat.le_of_ble_eq_true rfl) (Nat.le_of_ble_eq_true rfl) ?_
  refine h.mono (fun r m6 h => ?_)
  obtain ⟨v7, rfl, h⟩ := h
  refine ⟨_, rfl, ?_⟩
  refine (zq_istore (l := [zE a0, zR a1, zR a2, zR a3, zI a4, zI v7, a6, a7, a8]) dL_law_183 (Nat.le_of_ble_eq_true rfl) rfl).mpr ?_
  refine (zq_aload_n dL_law_185 rfl).mpr ?_
  refine (zq_aload_nE dL_law_186 rfl).mpr ?_
  refine (zq_iload dL_law_187 rfl).mpr ?_
  refine (zq_iconst (v := 1) dL_law_189 (by decide)).mpr ?_
  refine (zq_iadd dL_law_190).mpr ?_
  refine (zq_ialdE dL_law_191).mpr ⟨g1, ?_⟩
  refine (zq_aload_nE dL_law_192 rfl).mpr ?_
  refine (zq_iload dL_law_193 rfl).mpr ?_
  refine (zq_iconst (v := 2) dL_law_195 (by decide)).mpr ?_
  refine (zq_iadd dL_law_196).mpr ?_
  refine (zq_ialdE dL_law_197).mpr ⟨g2, ?_⟩
  refine (zq_aload_nE dL_law_198 rfl).mpr ?_
  refine (zq_iload dL_law_199 rfl).mpr ?_
  refine (zq_iconst (v := 3) dL_law_201 (by decide)).mpr ?_
  refine (zq_iadd dL_law_202).mpr ?_
  refine (zq_ialdE dL_law_203).mpr ⟨g3, ?_⟩
  refine (zq_aload_nE dL_law_204 rfl).mpr ?_
  refine (zq_iload dL_law_205 rfl).mpr ?_
  refine (zq_iconst (v := 4) dL_law_207 (by decide)).mpr ?_
  refine (zq_iadd dL_law_208).mpr ?_
  refine (zq_ialdE dL_law_209).mpr ⟨g4, ?_⟩
  refine (zq_aload_nE dL_law_210 rfl).mpr ?_
  refine (zq_iload dL_law_211 rfl).mpr ?_
  refine (zq_iconst (v := 5) dL_law_213 (by decide)).mpr ?_
  refine (zq_iadd dL_law_214).mpr ?_
  refine (zq_ialdE dL_law_215).mpr ⟨g5, ?_⟩
  obtain ⟨g10, h⟩ := h
  refine zq_virtualI (n := 5) dL_law_216 mr_13_87 zn_164 rfl rfl rfl (zrcv_R zo_164 (by decide) g10) (Nat.le_of_ble_eq_true rfl) ?_
  refine h.mono (fun r m8 h => ?_)
  obtain ⟨v9, rfl, h⟩ := h
  refine ⟨_, rfl, ?_⟩
  refine (zq_istore (l := [zE a0, zR a1, zR a2, zR a3, zI a4, zI v7, zI v9, a7, a8]) dL_law_219 (Nat.le_of_ble_eq_true rfl) rfl).mpr ?_
  refine (zq_aload_n dL_law_221 rfl).mpr ?_
  obtain ⟨g13, h⟩ := h
  refine zq_virtualI (n := 0) dL_law_222 mr_13_88 zn_161 rfl rfl rfl (zrcv_R zo_161 (by decide) g13) (Nat.le_of_ble_eq_true rfl) ?_
  refine h.mono (fun r m11 h => ?_)
  obtain ⟨v12, rfl, h⟩ := h
  refine ⟨_, rfl, ?_⟩
  refine (zq_iload dL_law_225 rfl).mpr ?_
  refine (zq_icmp_eq (t := 232) dL_law_227 rfl).mpr ⟨fun c => ?_, fun c => ?_⟩
  · replace h := h.1 c
    refine (zq_iload dL_law_232 rfl).mpr ?_
    refine (zq_if_ne (t := 249) dL_law_234 rfl).mpr ⟨fun c => ?_, fun c => ?_⟩
    · replace h := h.1 c
      refine (zq_goto (t := 1565) dL_law_249 rfl).mpr ?_
      exact h
    · replace h := h.2 c
      refine (zq_aload_n dL_law_237 rfl).mpr ?_
      refine (zq_iconst (v := 0) dL_law_238 (by decide)).mpr ?_
      obtain ⟨g14, h⟩ := h
      obtain ⟨g15, h⟩ := h
      refine (zq_lald2 (v := (mA m11 a3 0)) dL_law_239 (by first | rfl | simp only [zm_Is, zm_Rs, zm_As, zm_Os, zm_In0, zm_Rn0])).mpr ⟨⟨g14, ⟨by decide, g15⟩⟩, ?_⟩
      refine (zq_iload dL_law_240 rfl).mpr ?_
      refine (zq_i2l dL_law_242).mpr ?_
      refine (zq_lcmp dL_law_243).mpr ?_
      refine (zq_if_eq (t := 249) dL_law_244 rfl).mpr ⟨fun c => ?_, fun c => ?_⟩
      · replace h := h.1 c
        refine (zq_goto (t := 1565) dL_law_249 rfl).mpr ?_
        exact h
      · replace h := h.2 c
        refine (zq_iconst (v := 0) dL_law_247 (by decide)).mpr ?_
        exact (zq_iret dL_law_248 rfl).mpr ⟨Or.inl rfl, h⟩
  · replace h := h.2 c
    refine (zq_iconst (v := 0) dL_law_230 (by decide)).mpr ?_
    exact (zq_iret dL_law_231 rfl).mpr ⟨Or.inl rfl, h⟩
theorem bL_law_252 {a0 : Nat} {a1 : Nat} {a2 : Nat} {a3 : Nat} {a4 : Int} {a5 : zV} {a6 : zV} {a7 : zV} {a8 : zV} (h : (zXk a0 = 1 ∧ 0 ≤ (wr (a4 + 1)) ∧ (wr (a4 + 1)) < zXN xl a0) ∧ zC xs xl d 226 [zR a1, zI (zXI xs a0 ((wr (a4 + 1))).toNat), zR a3] m (fun r m2 => ∃ v3 : Int, r = .inl (some (zI v3)) ∧ (mC m2 a2 = 13) ∧ zC xs xl d 165 [zR a2, zI (zXI xs a0 ((wr (a4 + 1))).toNat)] m2 (fun r m4 => ∃ v5 : Int, r = .inl (some (zI v5)) ∧ (mC m4 a2 = 13) ∧ zC xs xl d 161 [zR a2] m4 (fun r m7 => ∃ v8 : Int, r = .inl (some (zI v8)) ∧ ((v8 = v3 → ((v3 ≠ 0 → zW xs xl d cL_law 13 (some .boolean) false [] 1565 [zE a0, zR a1, zR a2, zR a3, zI a4, zI v3, zI v5, a7, a8] [] m7 Q) ∧ (¬ (v3 ≠ 0) → (mC m7 a3 = 23) ∧ ((0 : Int) < mN m7 a3) ∧ (((bCmp (mA m7 a3 0) v5) = 0 → zW xs xl d cL_law 13 (some .boolean) false [] 1565 [zE a0, zR a1, zR a2, zR a3, zI a4, zI v3, zI v5, a7, a8] [] m7 Q) ∧ (¬ ((bCmp (mA m7 a3 0) v5) = 0) → Q (.inl (some (zI 0))) m7))))) ∧ (¬ (v8 = v3) → Q (.inl (some (zI 0))) m7)))))) : zW xs xl d cL_law 13 (some .boolean) false [] 252 [zE a0, zR a1, zR a2, zR a3, zI a4, a5, a6, a7, a8] [] m Q := by
  refine (zq_aload_n dL_law_252 rfl).mpr ?_
  refine (zq_aload_nE dL_law_253 rfl).mpr ?_
  refine (zq_iload dL_law_254 rfl).mpr ?_
  refine (zq_iconst (v := 1) dL_law_256 (by decide)).mpr ?_
  refine (zq_iadd dL_law_257).mpr ?_
  obtain ⟨g1, h⟩ := h
  refine (zq_ialdE dL_law_258).mpr ⟨g1, ?_⟩
  refine (zq_aload_n dL_law_259 rfl).mpr ?_
  refine zq_staticI (n := 3) dL_law_260 mr_13_91 zn_226 rfl rfl (Nat.le_of_ble_eq_true rfl) (Nat.le_of_ble_eq_true rfl) ?_
  refine h.mono (fun r m2 h => ?_)
  obtain ⟨v3, rfl, h⟩ := h
  refine ⟨_, rfl, ?_⟩
  refine (zq_istore (l := [zE a0, zR a1, zR a2, zR a3, zI a4, zI v3, a6, a7, a8]) dL_law_263 (Nat.le_of_ble_eq_true rfl) rfl).mpr ?_
  refine (zq_aload_n dL_law_265 rfl).mpr ?_
  refine (zq_aload_nE dL_law_266 rfl).mpr ?_
  refine (zq_iload dL_law_267 rfl).mpr ?_
  refine (zq_iconst (v := 1) dL_law_269 (by decide)).mpr ?_
  refine (zq_iadd dL_law_270).mpr ?_
  refine (zq_ialdE dL_law_271).mpr ⟨g1, ?_⟩
  obtain ⟨g6, h⟩ := h
  refine zq_virtualI (n := 1) dL_law_272 mr_13_94 zn_165 rfl rfl rfl (zrcv_R zo_165 (by decide) g6) (Nat.le_of_ble_eq_true rfl) ?_
  refine h.mono (fun r m4 h => ?_)
  obtain ⟨v5, rfl, h⟩ := h
  refine ⟨_, rfl, ?_⟩
  refine (zq_istore (l := [zE a0, zR a1, zR a2, zR a3, zI a4, zI v3, zI v5, a7, a8]) dL_law_275 (Nat.le_of_ble_eq_true rfl) rfl).mpr ?_
  refine (zq_aload_n dL_law_277 rfl).mpr ?_
  obtain ⟨g9, h⟩ := h
  refine zq_virtualI (n := 0) dL_law_278 mr_13_88 zn_161 rfl rfl rfl (zrcv_R zo_161 (by decide) g9) (Nat.le_of_ble_eq_true rfl) ?_
  refine h.mono (fun r m7 h => ?_)
  obtain ⟨v8, rfl, h⟩ := h
  refine ⟨_, rfl, ?_⟩
  refine (zq_iload dL_law_281 rfl).mpr ?_
  refine (zq_icmp_eq (t := 288) dL_law_283 rfl).mpr ⟨fun c => ?_, fun c => ?_⟩
  · replace h := h.1 c
    refine (zq_iload dL_law_288 rfl).mpr ?_
    refine (zq_if_ne (t := 305) dL_law_290 rfl).mpr ⟨fun c => ?_, fun c => ?_⟩
    · replace h := h.1 c
      refine (zq_goto (t := 1565) dL_law_305 rfl).mpr ?_
      exact h
    · replace h := h.2 c
      refine (zq_aload_n dL_law_293 rfl).mpr ?_
      refine (zq_iconst (v := 0) dL_law_294 (by decide)).mpr ?_
      obtain ⟨g10, h⟩ := h
      obtain ⟨g11, h⟩ := h
      refine (zq_lald2 (v := (mA m7 a3 0)) dL_law_295 (by first | rfl | simp only [zm_Is, zm_Rs, zm_As, zm_Os, zm_In0, zm_Rn0])).mpr ⟨⟨g10, ⟨by decide, g11⟩⟩, ?_⟩
      refine (zq_iload dL_law_296 rfl).mpr ?_
      refine (zq_i2l dL_law_298).mpr ?_
      refine (zq_lcmp dL_law_299).mpr ?_
      refine (zq_if_eq (t := 305) dL_law_300 rfl).mpr ⟨fun c => ?_, fun c => ?_⟩
      · replace h := h.1 c
        refine (zq_goto (t := 1565) dL_law_305 rfl).mpr ?_
        exact h
      · replace h := h.2 c
        refine (zq_iconst (v := 0) dL_law_303 (by decide)).mpr ?_
        exact (zq_iret dL_law_304 rfl).mpr ⟨Or.inl rfl, h⟩
  · replace h := h.2 c
    refine (zq_iconst (v := 0) dL_law_286 (by decide)).mpr ?_
    exact (zq_iret dL_law_287 rfl).mpr ⟨Or.inl rfl, h⟩
theorem bL_law_308 {a0 : Nat} {a1 : Nat} {a2 : Nat} {a3 : Nat} {a4 : Int} {a5 : zV} {a6 : zV} {a7 : zV} {a8 : zV} (h : (zXk a0 = 1 ∧ 0 ≤ (wr (a4 + 1)) ∧ (wr (a4 + 1)) < zXN xl a0) ∧ zC xs xl d 227 [zR a1, zI (zXI xs a0 ((wr (a4 + 1))).toNat), zR a3] m (fun r m2 => ∃ v3 : Int, r = .inl (some (zI v3)) ∧ (mC m2 a2 = 13) ∧ zC xs xl d 182 [zR a2, zI (zXI xs a0 ((wr (a4 + 1))).toNat)] m2 (fun r m4 => ∃ v5 : Int, r = .inl (some (zI v5)) ∧ (mC m4 a2 = 13) ∧ zC xs xl d 161 [zR a2] m4 (fun r m7 => ∃ v8 : Int, r = .inl (some (zI v8)) ∧ ((v8 = v3 → ((v3 ≠ 0 → zW xs xl d cL_law 13 (some .boolean) false [] 1565 [zE a0, zR a1, zR a2, zR a3, zI a4, zI v3, zI v5, a7, a8] [] m7 Q) ∧ (¬ (v3 ≠ 0) → (mC m7 a3 = 23) ∧ ((0 : Int) < mN m7 a3) ∧ (((bCmp (mA m7 a3 0) v5) = 0 → zW xs xl d cL_law 13 (some .boolean) false [] 1565 [zE a0, zR a1, zR a2, zR a3, zI a4, zI v3, zI v5, a7, a8] [] m7 Q) ∧ (¬ ((bCmp (mA m7 a3 0) v5) = 0) → Q (.inl (some (zI 0))) m7))))) ∧ (¬ (v8 = v3) → Q (.inl (some (zI 0))) m7)))))) : zW xs xl d cL_law 13 (some .boolean) false [] 308 [zE a0, zR a1, zR a2, zR a3, zI a4, a5, a6, a7, a8] [] m Q := by
  refine (zq_aload_n dL_law_308 rfl).mpr ?_
  refine (zq_aload_nE dL_law_309 rfl).mpr ?_
  refine (zq_iload dL_law_310 rfl).mpr ?_
  refine (zq_iconst (v := 1) dL_law_312 (by decide)).mpr ?_
  refine (zq_iadd dL_law_313).mpr ?_
  obtain ⟨g1, h⟩ := h
  refine (zq_ialdE dL_law_314).mpr ⟨g1, ?_⟩
  refine (zq_aload_n dL_law_315 rfl).mpr ?_
  refine zq_staticI (n := 3) dL_law_316 mr_13_95 zn_227 rfl rfl (Nat.le_of_ble_eq_true rfl) (Nat.le_of_ble_eq_true rfl) ?_
  refine h.mono (fun r m2 h => ?_)
  obtain ⟨v3, rfl, h⟩ := h
  refine ⟨_, rfl, ?_⟩
  refine (zq_istore (l := [zE a0, zR a1, zR a2, zR a3, zI a4, zI v3, a6, a7, a8]) dL_law_319 (Nat.le_of_ble_eq_true rfl) rfl).mpr ?_
  refine (zq_aload_n dL_law_321 rfl).mpr ?_
  refine (zq_aload_nE dL_law_322 rfl).mpr ?_
  refine (zq_iload dL_law_323 rfl).mpr ?_
  refine (zq_iconst (v := 1) dL_law_325 (by decide)).mpr ?_
  refine (zq_iadd dL_law_326).mpr ?_
  refine (zq_ialdE dL_law_327).mpr ⟨g1, ?_⟩
  obtain ⟨g6, h⟩ := h
  refine zq_virtualI (n := 1) dL_law_328 mr_13_97 zn_182 rfl rfl rfl (zrcv_R zo_182 (by decide) g6) (Nat.le_of_ble_eq_true rfl) ?_
  refine h.mono (fun r m4 h => ?_)
  obtain ⟨v5, rfl, h⟩ := h
  refine ⟨_, rfl, ?_⟩
  refine (zq_istore (l := [zE a0, zR a1, zR a2, zR a3, zI a4, zI v3, zI v5, a7, a8]) dL_law_331 (Nat.le_of_ble_eq_true rfl) rfl).mpr ?_
  refine (zq_aload_n dL_law_333 rfl).mpr ?_
  obtain ⟨g9, h⟩ := h
  refine zq_virtualI (n := 0) dL_law_334 mr_13_88 zn_161 rfl rfl rfl (zrcv_R zo_161 (by decide) g9) (Nat.le_of_ble_eq_true rfl) ?_
  refine h.mono (fun r m7 h => ?_)
  obtain ⟨v8, rfl, h⟩ := h
  refine ⟨_, rfl, ?_⟩
  refine (zq_iload dL_law_337 rfl).mpr ?_
  refine (zq_icmp_eq (t := 344) dL_law_339 rfl).mpr ⟨fun c => ?_, fun c => ?_⟩
  · replace h := h.1 c
    refine (zq_iload dL_law_344 rfl).mpr ?_
    refine (zq_if_ne (t := 361) dL_law_346 rfl).mpr ⟨fun c => ?_, fun c => ?_⟩
    · replace h := h.1 c
      refine (zq_goto (t := 1565) dL_law_361 rfl).mpr ?_
      exact h
    · replace h := h.2 c
      refine (zq_aload_n dL_law_349 rfl).mpr ?_
      refine (zq_iconst (v := 0) dL_law_350 (by decide)).mpr ?_
      obtain ⟨g10, h⟩ := h
      obtain ⟨g11, h⟩ := h
      refine (zq_lald2 (v := (mA m7 a3 0)) dL_law_351 (by first | rfl | simp only [zm_Is, zm_Rs, zm_As, zm_Os, zm_In0, zm_Rn0])).mpr ⟨⟨g10, ⟨by decide, g11⟩⟩, ?_⟩
      refine (zq_iload dL_law_352 rfl).mpr ?_
      refine (zq_i2l dL_law_354).mpr ?_
      refine (zq_lcmp dL_law_355).mpr ?_
      refine (zq_if_eq (t := 361) dL_law_356 rfl).mpr ⟨fun c => ?_, fun c => ?_⟩
      · replace h := h.1 c
        refine (zq_goto (t := 1565) dL_law_361 rfl).mpr ?_
        exact h
      · replace h := h.2 c
        refine (zq_iconst (v := 0) dL_law_359 (by decide)).mpr ?_
        exact (zq_iret dL_law_360 rfl).mpr ⟨Or.inl rfl, h⟩
  · replace h := h.2 c
    refine (zq_iconst (v := 0) dL_law_342 (by decide)).mpr ?_
    exact (zq_iret dL_law_343 rfl).mpr ⟨Or.inl rfl, h⟩
theorem bL_law_364 {a0 : Nat} {a1 : Nat} {a2 : Nat} {a3 : Nat} {a4 : Int} {a5 : zV} {a6 : zV} {a7 : zV} {a8 : zV} (h : (mC m a1 = 11) ∧ zC xs xl d 106 [zR a1] m (fun r m1 => ∃ v2 : Int, r = .inl (some (zI v2)) ∧ (mC m1 a2 = 13) ∧ zC xs xl d 183 [zR a2] m1 (fun r m4 => ∃ v5 : Int, r = .inl (some (zI v5)) ∧ ((v2 = v5 → zW xs xl d cL_law 13 (some .boolean) false [] 1565 [zE a0, zR a1, zR a2, zR a3, zI a4, a5, a6, a7, a8] [] m4 Q) ∧ (¬ (v2 = v5) → Q (.inl (some (zI 0))) m4))))) : zW xs xl d cL_law 13 (some .boolean) false [] 364 [zE a0, zR a1, zR a2, zR a3, zI a4, a5, a6, a7, a8] [] m Q := by
  refine (zq_aload_n dL_law_364 rfl).mpr ?_
  obtain ⟨g3, h⟩ := h
  refine zq_virtualI (n := 0) dL_law_365 mr_13_98 zn_106 rfl rfl rfl (zrcv_R zo_106 (by decide) g3) (Nat.le_of_ble_eq_true rfl) ?_
  refine h.mono (fun r m1 h => ?_)
  obtain ⟨v2, rfl, h⟩ := h
  refine ⟨_, rfl, ?_⟩
  refine (zq_aload_n dL_law_368 rfl).mpr ?_
  obtain ⟨g6, h⟩ := h
  refine zq_virtualI (n := 0) dL_law_369 mr_13_101 zn_183 rfl rfl rfl (zrcv_R zo_183 (by decide) g6) (Nat.le_of_ble_eq_true rfl) ?_
  refine h.mono (fun r m4 h => ?_)
  obtain ⟨v5, rfl, h⟩ := h
  refine ⟨_, rfl, ?_⟩
  refine (zq_icmp_eq (t := 1565) dL_law_372 rfl).mpr ⟨fun c => ?_, fun c => ?_⟩
  · replace h := h.1 c
    exact h
  · replace h := h.2 c
    refine (zq_iconst (v := 0) dL_law_375 (by decide)).mpr ?_
    exact (zq_iret dL_law_376 rfl).mpr ⟨Or.inl rfl, h⟩
theorem bL_law_377 {a0 : Nat} {a1 : Nat} {a2 : Nat} {a3 : Nat} {a4 : Int} {a5 : zV} {a6 : zV} {a7 : zV} {a8 : zV} (h : (zXk a0 = 1 ∧ 0 ≤ (wr (a4 + 1)) ∧ (wr (a4 + 1)) < zXN xl a0) ∧ (zXk a0 = 1 ∧ 0 ≤ (wr (a4 + 2)) ∧ (wr (a4 + 2)) < zXN xl a0) ∧ zC xs xl d 228 [zR a1, zI (zXI xs a0 ((wr (a4 + 1))).toNat), zI (zXI xs a0 ((wr (a4 + 2))).toNat), zR a3] m (fun r m3 => ∃ v4 : Int, r = .inl (some (zI v4)) ∧ (mC m3 a2 = 13) ∧ zC xs xl d 185 [zR a2, zI (zXI xs a0 ((wr (a4 + 1))).toNat), zI (zXI xs a0 ((wr (a4 + 2))).toNat)] m3 (fun r m5 => ∃ v6 : Int, r = .inl (some (zI v6)) ∧ (mC m5 a2 = 13) ∧ zC xs xl d 161 [zR a2] m5 (fun r m8 => ∃ v9 : Int, r = .inl (some (zI v9)) ∧ ((v9 = v4 → ((v4 ≠ 0 → zW xs xl d cL_law 13 (some .boolean) false [] 1565 [zE a0, zR a1, zR a2, zR a3, zI a4, zI v4, zI v6, a7, a8] [] m8 Q) ∧ (¬ (v4 ≠ 0) → (mC m8 a3 = 23) ∧ ((0 : Int) < mN m8 a3) ∧ (((bCmp (mA m8 a3 0) v6) = 0 → zW xs xl d cL_law 13 (some .boolean) false [] 1565 [zE a0, zR a1, zR a2, zR a3, zI a4, zI v4, zI v6, a7, a8] [] m8 Q) ∧ (¬ ((bCmp (mA m8 a3 0) v6) = 0) → Q (.inl (some (zI 0))) m8))))) ∧ (¬ (v9 = v4) → Q (.inl (some (zI 0))) m8)))))) : zW xs xl d cL_law 13 (some .boolean) false [] 377 [zE a0, zR a1, zR a2, zR a3, zI a4, a5, a6, a7, a8] [] m Q := by
  refine (zq_aload_n dL_law_377 rfl).mpr ?_
  refine (zq_aload_nE dL_law_378 rfl).mpr ?_
  refine (zq_iload dL_law_379 rfl).mpr ?_
  refine (zq_iconst (v := 1) dL_law_381 (by decide)).mpr ?_
  refine (zq_iadd dL_law_382).mpr ?_
  obtain ⟨g1, h⟩ := h
  refine (zq_ialdE dL_law_383).mpr ⟨g1, ?_⟩
  refine (zq_aload_nE dL_law_384 rfl).mpr ?_
  refine (zq_iload dL_law_385 rfl).mpr ?_
  refine (zq_iconst (v := 2) dL_law_387 (by decide)).mpr ?_
  refine (zq_iadd dL_law_388).mpr ?_
  obtain ⟨g2, h⟩ := h
  refine (zq_ialdE dL_law_389).mpr ⟨g2, ?_⟩
  refine (zq_aload_n dL_law_390 rfl).mpr ?_
  refine zq_staticI (n := 4) dL_law_391 mr_13_102 zn_228 rfl rfl (Nat.le_of_ble_eq_true rfl) (Nat.le_of_ble_eq_true rfl) ?_
  refine h.mono (fun r m3 h => ?_)
  obtain ⟨v4, rfl, h⟩ := h
  refine ⟨_, rfl, ?_⟩
  refine (zq_istore (l := [zE a0, zR a1, zR a2, zR a3, zI a4, zI v4, a6, a7, a8]) dL_law_394 (Nat.le_of_ble_eq_true rfl) rfl).mpr ?_
  refine (zq_aload_n dL_law_396 rfl).mpr ?_
  refine (zq_aload_nE dL_law_397 rfl).mpr ?_
  refine (zq_iload dL_law_398 rfl).mpr ?_
  refine (zq_iconst (v := 1) dL_law_400 (by decide)).mpr ?_
  refine (zq_iadd dL_law_401).mpr ?_
  refine (zq_ialdE dL_law_402).mpr ⟨g1, ?_⟩
  refine (zq_aload_nE dL_law_403 rfl).mpr ?_
  refine (zq_iload dL_law_404 rfl).mpr ?_
  refine (zq_iconst (v := 2) dL_law_406 (by decide)).mpr ?_
  refine (zq_iadd dL_law_407).mpr ?_
  refine (zq_ialdE dL_law_408).mpr ⟨g2, ?_⟩
  obtain ⟨g7, h⟩ := h
  refine zq_virtualI (n := 2) dL_law_409 mr_13_105 zn_185 rfl rfl rfl (zrcv_R zo_185 (by decide) g7) (Nat.le_of_ble_eq_true rfl) ?_
  refine h.mono (fun r m5 h => ?_)
  obtain ⟨v6, rfl, h⟩ := h
  refine ⟨_, rfl, ?_⟩
  refine (zq_istore (l := [zE a0, zR a1, zR a2, zR a3, zI a4, zI v4, zI v6, a7, a8]) dL_law_412 (Nat.le_of_ble_eq_true rfl) rfl).mpr ?_
  refine (zq_aload_n dL_law_414 rfl).mpr ?_
  obtain ⟨g10, h⟩ := h
  refine zq_virtualI (n := 0) dL_law_415 mr_13_88 zn_161 rfl rfl rfl (zrcv_R zo_161 (by decide) g10) (Nat.le_of_ble_eq_true rfl) ?_
  refine h.mono (fun r m8 h => ?_)
  obtain ⟨v9, rfl, h⟩ := h
  refine ⟨_, rfl, ?_⟩
  refine (zq_iload dL_law_418 rfl).mpr ?_
  refine (zq_icmp_eq (t := 425) dL_law_420 rfl).mpr ⟨fun c => ?_, fun c => ?_⟩
  · replace h := h.1 c
    refine (zq_iload dL_law_425 rfl).mpr ?_
    refine (zq_if_ne (t := 442) dL_law_427 rfl).mpr ⟨fun c => ?_, fun c => ?_⟩
    · replace h := h.1 c
      refine (zq_goto (t := 1565) dL_law_442 rfl).mpr ?_
      exact h
    · replace h := h.2 c
      refine (zq_aload_n dL_law_430 rfl).mpr ?_
      refine (zq_iconst (v := 0) dL_law_431 (by decide)).mpr ?_
      obtain ⟨g11, h⟩ := h
      obtain ⟨g12, h⟩ := h
      refine (zq_lald2 (v := (mA m8 a3 0)) dL_law_432 (by first | rfl | simp only [zm_Is, zm_Rs, zm_As, zm_Os, zm_In0, zm_Rn0])).mpr ⟨⟨g11, ⟨by decide, g12⟩⟩, ?_⟩
      refine (zq_iload dL_law_433 rfl).mpr ?_
      refine (zq_i2l dL_law_435).mpr ?_
      refine (zq_lcmp dL_law_436).mpr ?_
      refine (zq_if_eq (t := 442) dL_law_437 rfl).mpr ⟨fun c => ?_, fun c => ?_⟩
      · replace h := h.1 c
        refine (zq_goto (t := 1565) dL_law_442 rfl).mpr ?_
        exact h
      · replace h := h.2 c
        refine (zq_iconst (v := 0) dL_law_440 (by decide)).mpr ?_
        exact (zq_iret dL_law_441 rfl).mpr ⟨Or.inl rfl, h⟩
  · replace h := h.2 c
    refine (zq_iconst (v := 0) dL_law_423 (by decide)).mpr ?_
    exact (zq_iret dL_law_424 rfl).mpr ⟨Or.inl rfl, h⟩
theorem bL_law_445 {a0 : Nat} {a1 : Nat} {a2 : Nat} {a3 : Nat} {a4 : Int} {a5 : zV} {a6 : zV} {a7 : zV} {a8 : zV} (h : (zXk a0 = 1 ∧ 0 ≤ (wr (a4 + 1)) ∧ (wr (a4 + 1)) < zXN xl a0) ∧ (zXk a0 = 1 ∧ 0 ≤ (wr (a4 + 2)) ∧ (wr (a4 + 2)) < zXN xl a0) ∧ (zXk a0 = 1 ∧ 0 ≤ (wr (a4 + 3)) ∧ (wr (a4 + 3)) < zXN xl a0) ∧ zC xs xl d 229 [zR a1, zI (zXI xs a0 ((wr (a4 + 1))).toNat), zI (zXI xs a0 ((wr (a4 + 2))).toNat), zI (zXI xs a0 ((wr (a4 + 3))).toNat), zR a3] m (fun r m4 => ∃ v5 : Int, r = .inl (some (zI v5)) ∧ (mC m4 a2 = 13) ∧ zC xs xl d 186 [zR a2, zI (zXI xs a0 ((wr (a4 + 1))).toNat), zI (zXI xs a0 ((wr (a4 + 2))).toNat), zI (zXI xs a0 ((wr (a4 + 3))).toNat)] m4 (fun r m6 => ∃ v7 : Int, r = .inl (some (zI v7)) ∧ (mC m6 a2 = 13) ∧ zC xs xl d 161 [zR a2] m6 (fun r m9 => ∃ v10 : Int, r = .inl (some (zI v10)) ∧ ((v10 = v5 → ((v5 ≠ 0 → zW xs xl d cL_law 13 (some .boolean) false [] 1565 [zE a0, zR a1, zR a2, zR a3, zI a4, zI v5, zI v7, a7, a8] [] m9 Q) ∧ (¬ (v5 ≠ 0) → (mC m9 a3 = 23) ∧ ((0 : Int) < mN m9 a3) ∧ (((bCmp (mA m9 a3 0) v7) = 0 → zW xs xl d cL_law 13 (some .boolean) false [] 1565 [zE a0, zR a1, zR a2, zR a3, zI a4, zI v5, zI v7, a7, a8] [] m9 Q) ∧ (¬ ((bCmp (mA m9 a3 0) v7) = 0) → Q (.inl (some (zI 0))) m9))))) ∧ (¬ (v10 = v5) → Q (.inl (some (zI 0))) m9)))))) : zW xs xl d cL_law 13 (some .boolean) false [] 445 [zE a0, zR a1, zR a2, zR a3, zI a4, a5, a6, a7, a8] [] m Q := by
  refine (zq_aload_n dL_law_445 rfl).mpr ?_
  refine (zq_aload_nE dL_law_446 rfl).mpr ?_
  refine (zq_iload dL_law_447 rfl).mpr ?_
  refine (zq_iconst (v := 1) dL_law_449 (by decide)).mpr ?_
  refine (zq_iadd dL_law_450).mpr ?_
  obtain ⟨g1, h⟩ := h
  refine (zq_ialdE dL_law_451).mpr ⟨g1, ?_⟩
  refine (zq_aload_nE dL_law_452 rfl).mpr ?_
  refine (zq_iload dL_law_453 rfl).mpr ?_
  refine (zq_iconst (v := 2) dL_law_455 (by decide)).mpr ?_
  refine (zq_iadd dL_law_456).mpr ?_
  obtain ⟨g2, h⟩ := h
  refine (zq_ialdE dL_law_457).mpr ⟨g2, ?_⟩
  refine (zq_aload_nE dL_law_458 rfl).mpr ?_
  refine (zq_iload dL_law_459 rfl).mpr ?_
  refine (zq_iconst (v := 3) dL_law_461 (by decide)).mpr ?_
  refine (zq_iadd dL_law_462).mpr ?_
  obtain ⟨g3, h⟩ := h
  refine (zq_ialdE dL_law_463).mpr ⟨g3, ?_⟩
  refine (zq_aload_n dL_law_464 rfl).mpr ?_
  refine zq_staticI (n := 5) dL_law_465 mr_13_106 zn_229 rfl rfl (Nat.le_of_ble_eq_true rfl) (Nat.le_of_ble_eq_true rfl) ?_
  refine h.mono (fun r m4 h => ?_)
  obtain ⟨v5, rfl, h⟩ := h
  refine ⟨_, rfl, ?_⟩
  refine (zq_istore (l := [zE a0, zR a1, zR a2, zR a3, zI a4, zI v5, a6, a7, a8]) dL_law_468 (Nat.le_of_ble_eq_true rfl) rfl).mpr ?_
  refine (zq_aload_n dL_law_470 rfl).mpr ?_
  refine (zq_aload_nE dL_law_471 rfl).mpr ?_
  refine (zq_iload dL_law_472 rfl).mpr ?_
  refine (zq_iconst (v := 1) dL_law_474 (by decide)).mpr ?_
  refine (zq_iadd dL_law_475).mpr ?_
  refine (zq_ialdE dL_law_476).mpr ⟨g1, ?_⟩
  refine (zq_aload_nE dL_law_477 rfl).mpr ?_
  refine (zq_iload dL_law_478 rfl).mpr ?_
  refine (zq_iconst (v := 2) dL_law_480 (by decide)).mpr ?_
  refine (zq_iadd dL_law_481).mpr ?_
  refine (zq_ialdE dL_law_482).mpr ⟨g2, ?_⟩
  refine (zq_aload_nE dL_law_483 rfl).mpr ?_
  refine (zq_iload dL_law_484 rfl).mpr ?_
  refine (zq_iconst (v := 3) dL_law_486 (by decide)).mpr ?_
  refine (zq_iadd dL_law_487).mpr ?_
  refine (zq_ialdE dL_law_488).mpr ⟨g3, ?_⟩
  obtain ⟨g8, h⟩ := h
  refine zq_virtualI (n := 3) dL_law_489 mr_13_109 zn_186 rfl rfl rfl (zrcv_R zo_186 (by decide) g8) (Nat.le_of_ble_eq_true rfl) ?_
  refine h.mono (fun r m6 h => ?_)
  obtain ⟨v7, rfl, h⟩ := h
  refine ⟨_, rfl, ?_⟩
  refine (zq_istore (l := [zE a0, zR a1, zR a2, zR a3, zI a4, zI v5, zI v7, a7, a8]) dL_law_492 (Nat.le_of_ble_eq_true rfl) rfl).mpr ?_
  refine (zq_aload_n dL_law_494 rfl).mpr ?_
  obtain ⟨g11, h⟩ := h
  refine zq_virtualI (n := 0) dL_law_495 mr_13_88 zn_161 rfl rfl rfl (zrcv_R zo_161 (by decide) g11) (Nat.le_of_ble_eq_true rfl) ?_
  refine h.mono (fun r m9 h => ?_)
  obtain ⟨v10, rfl, h⟩ := h
  refine ⟨_, rfl, ?_⟩
  refine (zq_iload dL_law_498 rfl).mpr ?_
  refine (zq_icmp_eq (t := 505) dL_law_500 rfl).mpr ⟨fun c => ?_, fun c => ?_⟩
  · replace h := h.1 c
    refine (zq_iload dL_law_505 rfl).mpr ?_
    refine (zq_if_ne (t := 522) dL_law_507 rfl).mpr ⟨fun c => ?_, fun c => ?_⟩
    · replace h := h.1 c
      refine (zq_goto (t := 1565) dL_law_522 rfl).mpr ?_
      exact h
    · replace h := h.2 c
      refine (zq_aload_n dL_law_510 rfl).mpr ?_
      refine (zq_iconst (v := 0) dL_law_511 (by decide)).mpr ?_
      obtain ⟨g12, h⟩ := h
      obtain ⟨g13, h⟩ := h
      refine (zq_lald2 (v := (mA m9 a3 0)) dL_law_512 (by first | rfl | simp only [zm_Is, zm_Rs, zm_As, zm_Os, zm_In0, zm_Rn0])).mpr ⟨⟨g12, ⟨by decide, g13⟩⟩, ?_⟩
      refine (zq_iload dL_law_513 rfl).mpr ?_
      refine (zq_i2l dL_law_515).mpr ?_
      refine (zq_lcmp dL_law_516).mpr ?_
      refine (zq_if_eq (t := 522) dL_law_517 rfl).mpr ⟨fun c => ?_, fun c => ?_⟩
      · replace h := h.1 c
        refine (zq_goto (t := 1565) dL_law_522 rfl).mpr ?_
        exact h
      · replace h := h.2 c
        refine (zq_iconst (v := 0) dL_law_520 (by decide)).mpr ?_
        exact (zq_iret dL_law_521 rfl).mpr ⟨Or.inl rfl, h⟩
  · replace h := h.2 c
    refine (zq_iconst (v := 0) dL_law_503 (by decide)).mpr ?_
    exact (zq_iret dL_law_504 rfl).mpr ⟨Or.inl rfl, h⟩
theorem bL_law_525 {a0 : Nat} {a1 : Nat} {a2 : Nat} {a3 : Nat} {a4 : Int} {a5 : zV} {a6 : zV} {a7 : zV} {a8 : zV} (h : (zXk a0 = 1 ∧ 0 ≤ (wr (a4 + 1)) ∧ (wr (a4 + 1)) < zXN xl a0) ∧ (zXk a0 = 1 ∧ 0 ≤ (wr (a4 + 2)) ∧ (wr (a4 + 2)) < zXN xl a0) ∧ zC xs xl d 230 [zR a1, zI (zXI xs a0 ((wr (a4 + 1))).toNat), zI (zXI xs a0 ((wr (a4 + 2))).toNat), zR a3] m (fun r m3 => ∃ v4 : Int, r = .inl (some (zI v4)) ∧ (mC m3 a2 = 13) ∧ zC xs xl d 188 [zR a2, zI (zXI xs a0 ((wr (a4 + 1))).toNat), zI (zXI xs a0 ((wr (a4 + 2))).toNat)] m3 (fun r m5 => ∃ v6 : Int, r = .inl (some (zI v6)) ∧ (mC m5 a2 = 13) ∧ zC xs xl d 161 [zR a2] m5 (fun r m8 => ∃ v9 : Int, r = .inl (some (zI v9)) ∧ ((v9 = v4 → ((v4 ≠ 0 → zW xs xl d cL_law 13 (some .boolean) false [] 1565 [zE a0, zR a1, zR a2, zR a3, zI a4, zI v4, zI v6, a7, a8] [] m8 Q) ∧ (¬ (v4 ≠ 0) → (mC m8 a3 = 23) ∧ ((0 : Int) < mN m8 a3) ∧ (((bCmp (mA m8 a3 0) v6) = 0 → zW xs xl d cL_law 13 (some .boolean) false [] 1565 [zE a0, zR a1, zR a2, zR a3, zI a4, zI v4, zI v6, a7, a8] [] m8 Q) ∧ (¬ ((bCmp (mA m8 a3 0) v6) = 0) → Q (.inl (some (zI 0))) m8))))) ∧ (¬ (v9 = v4) → Q (.inl (some (zI 0))) m8)))))) : zW xs xl d cL_law 13 (some .boolean) false [] 525 [zE a0, zR a1, zR a2, zR a3, zI a4, a5, a6, a7, a8] [] m Q := by
  refine (zq_aload_n dL_law_525 rfl).mpr ?_
  refine (zq_aload_nE dL_law_526 rfl).mpr ?_
  refine (zq_iload dL_law_527 rfl).mpr ?_
  refine (zq_iconst (v := 1) dL_law_529 (by decide)).mpr ?_
  refine (zq_iadd dL_law_530).mpr ?_
  obtain ⟨g1, h⟩ := h
  refine (zq_ialdE dL_law_531).mpr ⟨g1, ?_⟩
  refine (zq_aload_nE dL_law_532 rfl).mpr ?_
  refine (zq_iload dL_law_533 rfl).mpr ?_
  refine (zq_iconst (v := 2) dL_law_535 (by decide)).mpr ?_
  refine (zq_iadd dL_law_536).mpr ?_
  obtain ⟨g2, h⟩ := h
  refine (zq_ialdE dL_law_537).mpr ⟨g2, ?_⟩
  refine (zq_aload_n dL_law_538 rfl).mpr ?_
  refine zq_staticI (n := 4) dL_law_539 mr_13_110 zn_230 rfl rfl (Nat.le_of_ble_eq_true rfl) (Nat.le_of_ble_eq_true rfl) ?_
  refine h.mono (fun r m3 h => ?_)
  obtain ⟨v4, rfl, h⟩ := h
  refine ⟨_, rfl, ?_⟩
  refine (zq_istore (l := [zE a0, zR a1, zR a2, zR a3, zI a4, zI v4, a6, a7, a8]) dL_law_542 (Nat.le_of_ble_eq_true rfl) rfl).mpr ?_
  refine (zq_aload_n dL_law_544 rfl).mpr ?_
  refine (zq_aload_nE dL_law_545 rfl).mpr ?_
  refine (zq_iload dL_law_546 rfl).mpr ?_
  refine (zq_iconst (v := 1) dL_law_548 (by decide)).mpr ?_
  refine (zq_iadd dL_law_549).mpr ?_
  refine (zq_ialdE dL_law_550).mpr ⟨g1, ?_⟩
  refine (zq_aload_nE dL_law_551 rfl).mpr ?_
  refine (zq_iload dL_law_552 rfl).mpr ?_
  refine (zq_iconst (v := 2) dL_law_554 (by decide)).mpr ?_
  refine (zq_iadd dL_law_555).mpr ?_
  refine (zq_ialdE dL_law_556).mpr ⟨g2, ?_⟩
  obtain ⟨g7, h⟩ := h
  refine zq_virtualI (n := 2) dL_law_557 mr_13_112 zn_188 rfl rfl rfl (zrcv_R zo_188 (by decide) g7) (Nat.le_of_ble_eq_true rfl) ?_
  refine h.mono (fun r m5 h => ?_)
  obtain ⟨v6, rfl, h⟩ := h
  refine ⟨_, rfl, ?_⟩
  refine (zq_istore (l := [zE a0, zR a1, zR a2, zR a3, zI a4, zI v4, zI v6, a7, a8]) dL_law_560 (Nat.le_of_ble_eq_true rfl) rfl).mpr ?_
  refine (zq_aload_n dL_law_562 rfl).mpr ?_
  obtain ⟨g10, h⟩ := h
  refine zq_virtualI (n := 0) dL_law_563 mr_13_88 zn_161 rfl rfl rfl (zrcv_R zo_161 (by decide) g10) (Nat.le_of_ble_eq_true rfl) ?_
  refine h.mono (fun r m8 h => ?_)
  obtain ⟨v9, rfl, h⟩ := h
  refine ⟨_, rfl, ?_⟩
  refine (zq_iload dL_law_566 rfl).mpr ?_
  refine (zq_icmp_eq (t := 573) dL_law_568 rfl).mpr ⟨fun c => ?_, fun c => ?_⟩
  · replace h := h.1 c
    refine (zq_iload dL_law_573 rfl).mpr ?_
    refine (zq_if_ne (t := 590) dL_law_575 rfl).mpr ⟨fun c => ?_, fun c => ?_⟩
    · replace h := h.1 c
      refine (zq_goto (t := 1565) dL_law_590 rfl).mpr ?_
      exact h
    · replace h := h.2 c
      refine (zq_aload_n dL_law_578 rfl).mpr ?_
      refine (zq_iconst (v := 0) dL_law_579 (by decide)).mpr ?_
      obtain ⟨g11, h⟩ := h
      obtain ⟨g12, h⟩ := h
      refine (zq_lald2 (v := (mA m8 a3 0)) dL_law_580 (by first | rfl | simp only [zm_Is, zm_Rs, zm_As, zm_Os, zm_In0, zm_Rn0])).mpr ⟨⟨g11, ⟨by decide, g12⟩⟩, ?_⟩
      refine (zq_iload dL_law_581 rfl).mpr ?_
      refine (zq_i2l dL_law_583).mpr ?_
      refine (zq_lcmp dL_law_584).mpr ?_
      refine (zq_if_eq (t := 590) dL_law_585 rfl).mpr ⟨fun c => ?_, fun c => ?_⟩
      · replace h := h.1 c
        refine (zq_goto (t := 1565) dL_law_590 rfl).mpr ?_
        exact h
      · replace h := h.2 c
        refine (zq_iconst (v := 0) dL_law_588 (by decide)).mpr ?_
        exact (zq_iret dL_law_589 rfl).mpr ⟨Or.inl rfl, h⟩
  · replace h := h.2 c
    refine (zq_iconst (v := 0) dL_law_571 (by decide)).mpr ?_
    exact (zq_iret dL_law_572 rfl).mpr ⟨Or.inl rfl, h⟩
theorem bL_law_593 {a0 : Nat} {a1 : Nat} {a2 : Nat} {a3 : Nat} {a4 : Int} {a5 : zV} {a6 : zV} {a7 : zV} {a8 : zV} (h : (zXk a0 = 1 ∧ 0 ≤ (wr (a4 + 1)) ∧ (wr (a4 + 1)) < zXN xl a0) ∧ (zXk a0 = 1 ∧ 0 ≤ (wr (a4 + 2)) ∧ (wr (a4 + 2)) < zXN xl a0) ∧ zC xs xl d 231 [zR a1, zI (zXI xs a0 ((wr (a4 + 1))).toNat), zI (zXI xs a0 ((wr (a4 + 2))).toNat), zR a3] m (fun r m3 => ∃ v4 : Int, r = .inl (some (zI v4)) ∧ (mC m3 a2 = 13) ∧ zC xs xl d 190 [zR a2, zI (zXI xs a0 ((wr (a4 + 1))).toNat), zI (zXI xs a0 ((wr (a4 + 2))).toNat)] m3 (fun r m5 => ∃ v6 : Int, r = .inl (some (zI v6)) ∧ (mC m5 a2 = 13) ∧ zC xs xl d 161 [zR a2] m5 (fun r m8 => ∃ v9 : Int, r = .inl (some (zI v9)) ∧ ((v9 = v4 → ((v4 ≠ 0 → zW xs xl d cL_law 13 (some .boolean) false [] 1565 [zE a0, zR a1, zR a2, zR a3, zI a4, zI v4, zI v6, a7, a8] [] m8 Q) ∧ (¬ (v4 ≠ 0) → (mC m8 a3 = 23) ∧ ((0 : Int) < mN m8 a3) ∧ (((bCmp (mA m8 a3 0) v6) = 0 → zW xs xl d cL_law 13 (some .boolean) false [] 1565 [zE a0, zR a1, zR a2, zR a3, zI a4, zI v4, zI v6, a7, a8] [] m8 Q) ∧ (¬ ((bCmp (mA m8 a3 0) v6) = 0) → Q (.inl (some (zI 0))) m8))))) ∧ (¬ (v9 = v4) → Q (.inl (some (zI 0))) m8)))))) : zW xs xl d cL_law 13 (some .boolean) false [] 593 [zE a0, zR a1, zR a2, zR a3, zI a4, a5, a6, a7, a8] [] m Q := by
  refine (zq_aload_n dL_law_593 rfl).mpr ?_
  refine (zq_aload_nE dL_law_594 rfl).mpr ?_
  refine (zq_iload dL_law_595 rfl).mpr ?_
  refine (zq_iconst (v := 1) dL_law_597 (by decide)).mpr ?_
  refine (zq_iadd dL_law_598).mpr ?_
  obtain ⟨g1, h⟩ := h
  refine (zq_ialdE dL_law_599).mpr ⟨g1, ?_⟩
  refine (zq_aload_nE dL_law_600 rfl).mpr ?_
  refine (zq_iload dL_law_601 rfl).mpr ?_
  refine (zq_iconst (v := 2) dL_law_603 (by decide)).mpr ?_
  refine (zq_iadd dL_law_604).mpr ?_
  obtain ⟨g2, h⟩ := h
  refine (zq_ialdE dL_law_605).mpr ⟨g2, ?_⟩
  refine (zq_aload_n dL_law_606 rfl).mpr ?_
  refine zq_staticI (n := 4) dL_law_607 mr_13_113 zn_231 rfl rfl (Nat.le_of_ble_eq_true rfl) (Nat.le_of_ble_eq_true rfl) ?_
  refine h.mono (fun r m3 h => ?_)
  obtain ⟨v4, rfl, h⟩ := h
  refine ⟨_, rfl, ?_⟩
  refine (zq_istore (l := [zE a0, zR a1, zR a2, zR a3, zI a4, zI v4, a6, a7, a8]) dL_law_610 (Nat.le_of_ble_eq_true rfl) rfl).mpr ?_
  refine (zq_aload_n dL_law_612 rfl).mpr ?_
  refine (zq_aload_nE dL_law_613 rfl).mpr ?_
  refine (zq_iload dL_law_614 rfl).mpr ?_
  refine (zq_iconst (v := 1) dL_law_616 (by decide)).mpr ?_
  refine (zq_iadd dL_law_617).mpr ?_
  refine (zq_ialdE dL_law_618).mpr ⟨g1, ?_⟩
  refine (zq_aload_nE dL_law_619 rfl).mpr ?_
  refine (zq_iload dL_law_620 rfl).mpr ?_
  refine (zq_iconst (v := 2) dL_law_622 (by decide)).mpr ?_
  refine (zq_iadd dL_law_623).mpr ?_
  refine (zq_ialdE dL_law_624).mpr ⟨g2, ?_⟩
  obtain ⟨g7, h⟩ := h
  refine zq_virtualI (n := 2) dL_law_625 mr_13_115 zn_190 rfl rfl rfl (zrcv_R zo_190 (by decide) g7) (Nat.le_of_ble_eq_true rfl) ?_
  refine h.mono (fun r m5 h => ?_)
  obtain ⟨v6, rfl, h⟩ := h
  refine ⟨_, rfl, ?_⟩
  refine (zq_istore (l := [zE a0, zR a1, zR a2, zR a3, zI a4, zI v4, zI v6, a7, a8]) dL_law_628 (Nat.le_of_ble_eq_true rfl) rfl).mpr ?_
  refine (zq_aload_n dL_law_630 rfl).mpr ?_
  obtain ⟨g10, h⟩ := h
  refine zq_virtualI (n := 0) dL_law_631 mr_13_88 zn_161 rfl rfl rfl (zrcv_R zo_161 (by decide) g10) (Nat.le_of_ble_eq_true rfl) ?_
  refine h.mono (fun r m8 h => ?_)
  obtain ⟨v9, rfl, h⟩ := h
  refine ⟨_, rfl, ?_⟩
  refine (zq_iload dL_law_634 rfl).mpr ?_
  refine (zq_icmp_eq (t := 641) dL_law_636 rfl).mpr ⟨fun c => ?_, fun c => ?_⟩
  · replace h := h.1 c
    refine (zq_iload dL_law_641 rfl).mpr ?_
    refine (zq_if_ne (t := 658) dL_law_643 rfl).mpr ⟨fun c => ?_, fun c => ?_⟩
    · replace h := h.1 c
      refine (zq_goto (t := 1565) dL_law_658 rfl).mpr ?_
      exact h
    · replace h := h.2 c
      refine (zq_aload_n dL_law_646 rfl).mpr ?_
      refine (zq_iconst (v := 0) dL_law_647 (by decide)).mpr ?_
      obtain ⟨g11, h⟩ := h
      obtain ⟨g12, h⟩ := h
      refine (zq_lald2 (v := (mA m8 a3 0)) dL_law_648 (by first | rfl | simp only [zm_Is, zm_Rs, zm_As, zm_Os, zm_In0, zm_Rn0])).mpr ⟨⟨g11, ⟨by decide, g12⟩⟩, ?_⟩
      refine (zq_iload dL_law_649 rfl).mpr ?_
      refine (zq_i2l dL_law_651).mpr ?_
      refine (zq_lcmp dL_law_652).mpr ?_
      refine (zq_if_eq (t := 658) dL_law_653 rfl).mpr ⟨fun c => ?_, fun c => ?_⟩
      · replace h := h.1 c
        refine (zq_goto (t := 1565) dL_law_658 rfl).mpr ?_
        exact h
      · replace h := h.2 c
        refine (zq_iconst (v := 0) dL_law_656 (by decide)).mpr ?_
        exact (zq_iret dL_law_657 rfl).mpr ⟨Or.inl rfl, h⟩
  · replace h := h.2 c
    refine (zq_iconst (v := 0) dL_law_639 (by decide)).mpr ?_
    exact (zq_iret dL_law_640 rfl).mpr ⟨Or.inl rfl, h⟩
theorem bL_law_661 {a0 : Nat} {a1 : Nat} {a2 : Nat} {a3 : Nat} {a4 : Int} {a5 : zV} {a6 : zV} {a7 : zV} {a8 : zV} (h : (zXk a0 = 1 ∧ 0 ≤ (wr (a4 + 1)) ∧ (wr (a4 + 1)) < zXN xl a0) ∧ (zXk a0 = 1 ∧ 0 ≤ (wr (a4 + 2)) ∧ (wr (a4 + 2)) < zXN xl a0) ∧ (zXk a0 = 1 ∧ 0 ≤ (wr (a4 + 3)) ∧ (wr (a4 + 3)) < zXN xl a0) ∧ (((zXI xs a0 ((wr (a4 + 3))).toNat) = 0 → zW xs xl d cL_law 13 (some .boolean) false [] 688 [zE a0, zR a1, zR a2, zR a3, zI a4, a5, a6, a7, a8] [zI 0, zI (zXI xs a0 ((wr (a4 + 2))).toNat), zI (zXI xs a0 ((wr (a4 + 1))).toNat), zR a1] m Q) ∧ (¬ ((zXI xs a0 ((wr (a4 + 3))).toNat) = 0) → zW xs xl d cL_law 13 (some .boolean) false [] 688 [zE a0, zR a1, zR a2, zR a3, zI a4, a5, a6, a7, a8] [zI 1, zI (zXI xs a0 ((wr (a4 + 2))).toNat), zI (zXI xs a0 ((wr (a4 + 1))).toNat), zR a1] m Q))) : zW xs xl d cL_law 13 (some .boolean) false [] 661 [zE a0, zR a1, zR a2, zR a3, zI a4, a5, a6, a7, a8] [] m Q := by
  refine (zq_aload_n dL_law_661 rfl).mpr ?_
  refine (zq_aload_nE dL_law_662 rfl).mpr ?_
  refine (zq_iload dL_law_663 rfl).mpr ?_
  refine (zq_iconst (v := 1) dL_law_665 (by decide)).mpr ?_
  refine (zq_iadd dL_law_666).mpr ?_
  obtain ⟨g1, h⟩ := h
  refine (zq_ialdE dL_law_667).mpr ⟨g1, ?_⟩
  refine (zq_aload_nE dL_law_668 rfl).mpr ?_
  refine (zq_iload dL_law_669 rfl).mpr ?_
  refine (zq_iconst (v := 2) dL_law_671 (by decide)).mpr ?_
  refine (zq_iadd dL_law_672).mpr ?_
  obtain ⟨g2, h⟩ := h
  refine (zq_ialdE dL_law_673).mpr ⟨g2, ?_⟩
  refine (zq_aload_nE dL_law_674 rfl).mpr ?_
  refine (zq_iload dL_law_675 rfl).mpr ?_
  refine (zq_iconst (v := 3) dL_law_677 (by decide)).mpr ?_
  refine (zq_iadd dL_law_678).mpr ?_
  obtain ⟨g3, h⟩ := h
  refine (zq_ialdE dL_law_679).mpr ⟨g3, ?_⟩
  refine (zq_if_eq (t := 687) dL_law_680 rfl).mpr ⟨fun c => ?_, fun c => ?_⟩
  · replace h := h.1 c
    refine (zq_iconst (v := 0) dL_law_687 (by decide)).mpr ?_
    exact h
  · replace h := h.2 c
    refine (zq_iconst (v := 1) dL_law_683 (by decide)).mpr ?_
    refine (zq_goto (t := 688) dL_law_684 rfl).mpr ?_
    exact h
theorem bL_law_688 {a0 : Nat} {a1 : Nat} {a2 : Nat} {a3 : Nat} {a4 : Int} {a5 : zV} {a6 : zV} {a7 : zV} {a8 : zV} {s0 : Nat} {s1 : Int} {s2 : Int} {s3 : Int} (h : zC xs xl d 232 [zR s0, zI s1, zI s2, zI s3, zR a3] m (fun r m1 => ∃ v2 : Int, r = .inl (some (zI v2)) ∧ (zXk a0 = 1 ∧ 0 ≤ (wr (a4 + 1)) ∧ (wr (a4 + 1)) < zXN xl a0) ∧ (zXk a0 = 1 ∧ 0 ≤ (wr (a4 + 2)) ∧ (wr (a4 + 2)) < zXN xl a0) ∧ (zXk a0 = 1 ∧ 0 ≤ (wr (a4 + 3)) ∧ (wr (a4 + 3)) < zXN xl a0) ∧ (((zXI xs a0 ((wr (a4 + 3))).toNat) = 0 → zW xs xl d cL_law 13 (some .boolean) false [] 721 [zE a0, zR a1, zR a2, zR a3, zI a4, zI v2, a6, a7, a8] [zI 0, zI (zXI xs a0 ((wr (a4 + 2))).toNat), zI (zXI xs a0 ((wr (a4 + 1))).toNat), zR a2] m1 Q) ∧ (¬ ((zXI xs a0 ((wr (a4 + 3))).toNat) = 0) → zW xs xl d cL_law 13 (some .boolean) false [] 721 [zE a0, zR a1, zR a2, zR a3, zI a4, zI v2, a6, a7, a8] [zI 1, zI (zXI xs a0 ((wr (a4 + 2))).toNat), zI (zXI xs a0 ((wr (a4 + 1))).toNat), zR a2] m1 Q)))) : zW xs xl d cL_law 13 (some .boolean) false [] 688 [zE a0, zR a1, zR a2, zR a3, zI a4, a5, a6, a7, a8] [zI s3, zI s2, zI s1, zR s0] m Q := by
  refine (zq_aload_n dL_law_688 rfl).mpr ?_
  refine zq_staticI (n := 5) dL_law_689 mr_13_116 zn_232 rfl rfl (Nat.le_of_ble_eq_true rfl) (Nat.le_of_ble_eq_true rfl) ?_
  refine h.mono (fun r m1 h => ?_)
  obtain ⟨v2, rfl, h⟩ := h
  refine ⟨_, rfl, ?_⟩
  refine (zq_istore (l := [zE a0, zR a1, zR a2, zR a3, zI a4, zI v2, a6, a7, a8]) dL_law_692 (Nat.le_of_ble_eq_true rfl) rfl).mpr ?_
  refine (zq_aload_n dL_law_694 rfl).mpr ?_
  refine (zq_aload_nE dL_law_695 rfl).mpr ?_
  refine (zq_iload dL_law_696 rfl).mpr ?_
  refine (zq_iconst (v := 1) dL_law_698 (by decide)).mpr ?_
  refine (zq_iadd dL_law_699).mpr ?_
  obtain ⟨g3, h⟩ := h
  refine (zq_ialdE dL_law_700).mpr ⟨g3, ?_⟩
  refine (zq_aload_nE dL_law_701 rfl).mpr ?_
  refine (zq_iload dL_law_702 rfl).mpr ?_
  refine (zq_iconst (v := 2) dL_law_704 (by decide)).mpr ?_
  refine (zq_iadd dL_law_705).mpr ?_
  obtain ⟨g4, h⟩ := h
  refine (zq_ialdE dL_law_706).mpr ⟨g4, ?_⟩
  refine (zq_aload_nE dL_law_707 rfl).mpr ?_
  refine (zq_iload dL_law_708 rfl).mpr ?_
  refine (zq_iconst (v := 3) dL_law_710 (by decide)).mpr ?_
  refine (zq_iadd dL_law_711).mpr ?_
  obtain ⟨g5, h⟩ := h
  refine (zq_ialdE dL_law_712).mpr ⟨g5, ?_⟩
  refine (zq_if_eq (t := 720) dL_law_713 rfl).mpr ⟨fun c => ?_, fun c => ?_⟩
  · replace h := h.1 c
    refine (zq_iconst (v := 0) dL_law_720 (by decide)).mpr ?_
    exact h
  · replace h := h.2 c
    refine (zq_iconst (v := 1) dL_law_716 (by decide)).mpr ?_
    refine (zq_goto (t := 721) dL_law_717 rfl).mpr ?_
    exact h
theorem bL_law_721 {a0 : Nat} {a1 : Nat} {a2 : Nat} {a3 : Nat} {a4 : Int} {a5 : Int} {a6 : zV} {a7 : zV} {a8 : zV} {s0 : Nat} {s1 : Int} {s2 : Int} {s3 : Int} (h : (mC m s0 = 13) ∧ zC xs xl d 191 [zR s0, zI s1, zI s2, zI s3] m (fun r m1 => ∃ v2 : Int, r = .inl (some (zI v2)) ∧ (mC m1 a2 = 13) ∧ zC xs xl d 161 [zR a2] m1 (fun r m4 => ∃ v5 : Int, r = .inl (some (zI v5)) ∧ ((v5 = a5 → ((a5 ≠ 0 → zW xs xl d cL_law 13 (some .boolean) false [] 1565 [zE a0, zR a1, zR a2, zR a3, zI a4, zI a5, zI v2, a7, a8] [] m4 Q) ∧ (¬ (a5 ≠ 0) → (mC m4 a3 = 23) ∧ ((0 : Int) < mN m4 a3) ∧ (((bCmp (mA m4 a3 0) v2) = 0 → zW xs xl d cL_law 13 (some .boolean) false [] 1565 [zE a0, zR a1, zR a2, zR a3, zI a4, zI a5, zI v2, a7, a8] [] m4 Q) ∧ (¬ ((bCmp (mA m4 a3 0) v2) = 0) → Q (.inl (some (zI 0))) m4))))) ∧ (¬ (v5 = a5) → Q (.inl (some (zI 0))) m4))))) : zW xs xl d cL_law 13 (some .boolean) false [] 721 [zE a0, zR a1, zR a2, zR a3, zI a4, zI a5, a6, a7, a8] [zI s3, zI s2, zI s1, zR s0] m Q := by
  obtain ⟨g3, h⟩ := h
  refine zq_virtualI (n := 3) dL_law_721 mr_13_119 zn_191 rfl rfl rfl (zrcv_R zo_191 (by decide) g3) (Nat.le_of_ble_eq_true rfl) ?_
  refine h.mono (fun r m1 h => ?_)
  obtain ⟨v2, rfl, h⟩ := h
  refine ⟨_, rfl, ?_⟩
  refine (zq_istore (l := [zE a0, zR a1, zR a2, zR a3, zI a4, zI a5, zI v2, a7, a8]) dL_law_724 (Nat.le_of_ble_eq_true rfl) rfl).mpr ?_
  refine (zq_aload_n dL_law_726 rfl).mpr ?_
  obtain ⟨g6, h⟩ := h
  refine zq_virtualI (n := 0) dL_law_727 mr_13_88 zn_161 rfl rfl rfl (zrcv_R zo_161 (by decide) g6) (Nat.le_of_ble_eq_true rfl) ?_
  refine h.mono (fun r m4 h => ?_)
  obtain ⟨v5, rfl, h⟩ := h
  refine ⟨_, rfl, ?_⟩
  refine (zq_iload dL_law_730 rfl).mpr ?_
  refine (zq_icmp_eq (t := 737) dL_law_732 rfl).mpr ⟨fun c => ?_, fun c => ?_⟩
  · replace h := h.1 c
    refine (zq_iload dL_law_737 rfl).mpr ?_
    refine (zq_if_ne (t := 754) dL_law_739 rfl).mpr ⟨fun c => ?_, fun c => ?_⟩
    · replace h := h.1 c
      refine (zq_goto (t := 1565) dL_law_754 rfl).mpr ?_
      exact h
    · replace h := h.2 c
      refine (zq_aload_n dL_law_742 rfl).mpr ?_
      refine (zq_iconst (v := 0) dL_law_743 (by decide)).mpr ?_
      obtain ⟨g7, h⟩ := h
      obtain ⟨g8, h⟩ := h
      refine (zq_lald2 (v := (mA m4 a3 0)) dL_law_744 (by first | rfl | simp only [zm_Is, zm_Rs, zm_As, zm_Os, zm_In0, zm_Rn0])).mpr ⟨⟨g7, ⟨by decide, g8⟩⟩, ?_⟩
      refine (zq_iload dL_law_745 rfl).mpr ?_
      refine (zq_i2l dL_law_747).mpr ?_
      refine (zq_lcmp dL_law_748).mpr ?_
      refine (zq_if_eq (t := 754) dL_law_749 rfl).mpr ⟨fun c => ?_, fun c => ?_⟩
      · replace h := h.1 c
        refine (zq_goto (t := 1565) dL_law_754 rfl).mpr ?_
        exact h
      · replace h := h.2 c
        refine (zq_iconst (v := 0) dL_law_752 (by decide)).mpr ?_
        exact (zq_iret dL_law_753 rfl).mpr ⟨Or.inl rfl, h⟩
  · replace h := h.2 c
    refine (zq_iconst (v := 0) dL_law_735 (by decide)).mpr ?_
    exact (zq_iret dL_law_736 rfl).mpr ⟨Or.inl rfl, h⟩
theorem bL_law_757 {a0 : Nat} {a1 : Nat} {a2 : Nat} {a3 : Nat} {a4 : Int} {a5 : zV} {a6 : zV} {a7 : zV} {a8 : zV} (h : (zXk a0 = 1 ∧ 0 ≤ (wr (a4 + 1)) ∧ (wr (a4 + 1)) < zXN xl a0) ∧ zC xs xl d 233 [zR a1, zI (zXI xs a0 ((wr (a4 + 1))).toNat), zR a3] m (fun r m2 => ∃ v3 : Int, r = .inl (some (zI v3)) ∧ (mC m2 a2 = 13) ∧ zC xs xl d 192 [zR a2, zI (zXI xs a0 ((wr (a4 + 1))).toNat)] m2 (fun r m4 => ∃ v5 : Int, r = .inl (some (zI v5)) ∧ (mC m4 a2 = 13) ∧ zC xs xl d 161 [zR a2] m4 (fun r m7 => ∃ v8 : Int, r = .inl (some (zI v8)) ∧ ((v8 = v3 → ((v3 ≠ 0 → zW xs xl d cL_law 13 (some .boolean) false [] 1565 [zE a0, zR a1, zR a2, zR a3, zI a4, zI v3, zI v5, a7, a8] [] m7 Q) ∧ (¬ (v3 ≠ 0) → (mC m7 a3 = 23) ∧ ((0 : Int) < mN m7 a3) ∧ (((bCmp (mA m7 a3 0) v5) = 0 → zW xs xl d cL_law 13 (some .boolean) false [] 1565 [zE a0, zR a1, zR a2, zR a3, zI a4, zI v3, zI v5, a7, a8] [] m7 Q) ∧ (¬ ((bCmp (mA m7 a3 0) v5) = 0) → Q (.inl (some (zI 0))) m7))))) ∧ (¬ (v8 = v3) → Q (.inl (some (zI 0))) m7)))))) : zW xs xl d cL_law 13 (some .boolean) false [] 757 [zE a0, zR a1, zR a2, zR a3, zI a4, a5, a6, a7, a8] [] m Q := by
  refine (zq_aload_n dL_law_757 rfl).mpr ?_
  refine (zq_aload_nE dL_law_758 rfl).mpr ?_
  refine (zq_iload dL_law_759 rfl).mpr ?_
  refine (zq_iconst (v := 1) dL_law_761 (by decide)).mpr ?_
  refine (zq_iadd dL_law_762).mpr ?_
  obtain ⟨g1, h⟩ := h
  refine (zq_ialdE dL_law_763).mpr ⟨g1, ?_⟩
  refine (zq_aload_n dL_law_764 rfl).mpr ?_
  refine zq_staticI (n := 3) dL_law_765 mr_13_120 zn_233 rfl rfl (Nat.le_of_ble_eq_true rfl) (Nat.le_of_ble_eq_true rfl) ?_
  refine h.mono (fun r m2 h => ?_)
  obtain ⟨v3, rfl, h⟩ := h
  refine ⟨_, rfl, ?_⟩
  refine (zq_istore (l := [zE a0, zR a1, zR a2, zR a3, zI a4, zI v3, a6, a7, a8]) dL_law_768 (Nat.le_of_ble_eq_true rfl) rfl).mpr ?_
  refine (zq_aload_n dL_law_770 rfl).mpr ?_
  refine (zq_aload_nE dL_law_771 rfl).mpr ?_
  refine (zq_iload dL_law_772 rfl).mpr ?_
  refine (zq_iconst (v := 1) dL_law_774 (by decide)).mpr ?_
  refine (zq_iadd dL_law_775).mpr ?_
  refine (zq_ialdE dL_law_776).mpr ⟨g1, ?_⟩
  obtain ⟨g6, h⟩ := h
  refine zq_virtualI (n := 1) dL_law_777 mr_13_122 zn_192 rfl rfl rfl (zrcv_R zo_192 (by decide) g6) (Nat.le_of_ble_eq_true rfl) ?_
  refine h.mono (fun r m4 h => ?_)
  obtain ⟨v5, rfl, h⟩ := h
  refine ⟨_, rfl, ?_⟩
  refine (zq_istore (l := [zE a0, zR a1, zR a2, zR a3, zI a4, zI v3, zI v5, a7, a8]) dL_law_780 (Nat.le_of_ble_eq_true rfl) rfl).mpr ?_
  refine (zq_aload_n dL_law_782 rfl).mpr ?_
  obtain ⟨g9, h⟩ := h
  refine zq_virtualI (n := 0) dL_law_783 mr_13_88 zn_161 rfl rfl rfl (zrcv_R zo_161 (by decide) g9) (Nat.le_of_ble_eq_true rfl) ?_
  refine h.mono (fun r m7 h => ?_)
  obtain ⟨v8, rfl, h⟩ := h
  refine ⟨_, rfl, ?_⟩
  refine (zq_iload dL_law_786 rfl).mpr ?_
  refine (zq_icmp_eq (t := 793) dL_law_788 rfl).mpr ⟨fun c => ?_, fun c => ?_⟩
  · replace h := h.1 c
    refine (zq_iload dL_law_793 rfl).mpr ?_
    refine (zq_if_ne (t := 810) dL_law_795 rfl).mpr ⟨fun c => ?_, fun c => ?_⟩
    · replace h := h.1 c
      refine (zq_goto (t := 1565) dL_law_810 rfl).mpr ?_
      exact h
    · replace h := h.2 c
      refine (zq_aload_n dL_law_798 rfl).mpr ?_
      refine (zq_iconst (v := 0) dL_law_799 (by decide)).mpr ?_
      obtain ⟨g10, h⟩ := h
      obtain ⟨g11, h⟩ := h
      refine (zq_lald2 (v := (mA m7 a3 0)) dL_law_800 (by first | rfl | simp only [zm_Is, zm_Rs, zm_As, zm_Os, zm_In0, zm_Rn0])).mpr ⟨⟨g10, ⟨by decide, g11⟩⟩, ?_⟩
      refine (zq_iload dL_law_801 rfl).mpr ?_
      refine (zq_i2l dL_law_803).mpr ?_
      refine (zq_lcmp dL_law_804).mpr ?_
      refine (zq_if_eq (t := 810) dL_law_805 rfl).mpr ⟨fun c => ?_, fun c => ?_⟩
      · replace h := h.1 c
        refine (zq_goto (t := 1565) dL_law_810 rfl).mpr ?_
        exact h
      · replace h := h.2 c
        refine (zq_iconst (v := 0) dL_law_808 (by decide)).mpr ?_
        exact (zq_iret dL_law_809 rfl).mpr ⟨Or.inl rfl, h⟩
  · replace h := h.2 c
    refine (zq_iconst (v := 0) dL_law_791 (by decide)).mpr ?_
    exact (zq_iret dL_law_792 rfl).mpr ⟨Or.inl rfl, h⟩
theorem bL_law_813 {a0 : Nat} {a1 : Nat} {a2 : Nat} {a3 : Nat} {a4 : Int} {a5 : zV} {a6 : zV} {a7 : zV} {a8 : zV} (h : (zXk a0 = 1 ∧ 0 ≤ (wr (a4 + 1)) ∧ (wr (a4 + 1)) < zXN xl a0) ∧ (zXk a0 = 1 ∧ 0 ≤ (wr (a4 + 2)) ∧ (wr (a4 + 2)) < zXN xl a0) ∧ zC xs xl d 234 [zR a1, zI (zXI xs a0 ((wr (a4 + 1))).toNat), zI (zXI xs a0 ((wr (a4 + 2))).toNat), zR a3] m (fun r m3 => ∃ v4 : Int, r = .inl (some (zI v4)) ∧ (mC m3 a2 = 13) ∧ zC xs xl d 194 [zR a2, zI (zXI xs a0 ((wr (a4 + 1))).toNat), zI (zXI xs a0 ((wr (a4 + 2))).toNat)] m3 (fun r m5 => ∃ v6 : Int, r = .inl (some (zI v6)) ∧ (mC m5 a2 = 13) ∧ zC xs xl d 161 [zR a2] m5 (fun r m8 => ∃ v9 : Int, r = .inl (some (zI v9)) ∧ ((v9 = v4 → ((v4 ≠ 0 → zW xs xl d cL_law 13 (some .boolean) false [] 1565 [zE a0, zR a1, zR a2, zR a3, zI a4, zI v4, zI v6, a7, a8] [] m8 Q) ∧ (¬ (v4 ≠ 0) → (mC m8 a3 = 23) ∧ ((0 : Int) < mN m8 a3) ∧ (((bCmp (mA m8 a3 0) v6) = 0 → zW xs xl d cL_law 13 (some .boolean) false [] 1565 [zE a0, zR a1, zR a2, zR a3, zI a4, zI v4, zI v6, a7, a8] [] m8 Q) ∧ (¬ ((bCmp (mA m8 a3 0) v6) = 0) → Q (.inl (some (zI 0))) m8))))) ∧ (¬ (v9 = v4) → Q (.inl (some (zI 0))) m8)))))) : zW xs xl d cL_law 13 (some .boolean) false [] 813 [zE a0, zR a1, zR a2, zR a3, zI a4, a5, a6, a7, a8] [] m Q := by
  refine (zq_aload_n dL_law_813 rfl).mpr ?_
  refine (zq_aload_nE dL_law_814 rfl).mpr ?_
  refine (zq_iload dL_law_815 rfl).mpr ?_
  refine (zq_iconst (v := 1) dL_law_817 (by decide)).mpr ?_
  refine (zq_iadd dL_law_818).mpr ?_
  obtain ⟨g1, h⟩ := h
  refine (zq_ialdE dL_law_819).mpr ⟨g1, ?_⟩
  refine (zq_aload_nE dL_law_820 rfl).mpr ?_
  refine (zq_iload dL_law_821 rfl).mpr ?_
  refine (zq_iconst (v := 2) dL_law_823 (by decide)).mpr ?_
  refine (zq_iadd dL_law_824).mpr ?_
  obtain ⟨g2, h⟩ := h
  refine (zq_ialdE dL_law_825).mpr ⟨g2, ?_⟩
  refine (zq_aload_n dL_law_826 rfl).mpr ?_
  refine zq_staticI (n := 4) dL_law_827 mr_13_123 zn_234 rfl rfl (Nat.le_of_ble_eq_true rfl) (Nat.le_of_ble_eq_true rfl) ?_
  refine h.mono (fun r m3 h => ?_)
  obtain ⟨v4, rfl, h⟩ := h
  refine ⟨_, rfl, ?_⟩
  refine (zq_istore (l := [zE a0, zR a1, zR a2, zR a3, zI a4, zI v4, a6, a7, a8]) dL_law_830 (Nat.le_of_ble_eq_true rfl) rfl).mpr ?_
  refine (zq_aload_n dL_law_832 rfl).mpr ?_
  refine (zq_aload_nE dL_law_833 rfl).mpr ?_
  refine (zq_iload dL_law_834 rfl).mpr ?_
  refine (zq_iconst (v := 1) dL_law_836 (by decide)).mpr ?_
  refine (zq_iadd dL_law_837).mpr ?_
  refine (zq_ialdE dL_law_838).mpr ⟨g1, ?_⟩
  refine (zq_aload_nE dL_law_839 rfl).mpr ?_
  refine (zq_iload dL_law_840 rfl).mpr ?_
  refine (zq_iconst (v := 2) dL_law_842 (by decide)).mpr ?_
  refine (zq_iadd dL_law_843).mpr ?_
  refine (zq_ialdE dL_law_844).mpr ⟨g2, ?_⟩
  obtain ⟨g7, h⟩ := h
  refine zq_virtualI (n := 2) dL_law_845 mr_13_125 zn_194 rfl rfl rfl (zrcv_R zo_194 (by decide) g7) (Nat.le_of_ble_eq_true rfl) ?_
  refine h.mono (fun r m5 h => ?_)
  obtain ⟨v6, rfl, h⟩ := h
  refine ⟨_, rfl, ?_⟩
  refine (zq_istore (l := [zE a0, zR a1, zR a2, zR a3, zI a4, zI v4, zI v6, a7, a8]) dL_law_848 (Nat.le_of_ble_eq_true rfl) rfl).mpr ?_
  refine (zq_aload_n dL_law_850 rfl).mpr ?_
  obtain ⟨g10, h⟩ := h
  refine zq_virtualI (n := 0) dL_law_851 mr_13_88 zn_161 rfl rfl rfl (zrcv_R zo_161 (by decide) g10) (Nat.le_of_ble_eq_true rfl) ?_
  refine h.mono (fun r m8 h => ?_)
  obtain ⟨v9, rfl, h⟩ := h
  refine ⟨_, rfl, ?_⟩
  refine (zq_iload dL_law_854 rfl).mpr ?_
  refine (zq_icmp_eq (t := 861) dL_law_856 rfl).mpr ⟨fun c => ?_, fun c => ?_⟩
  · replace h := h.1 c
    refine (zq_iload dL_law_861 rfl).mpr ?_
    refine (zq_if_ne (t := 878) dL_law_863 rfl).mpr ⟨fun c => ?_, fun c => ?_⟩
    · replace h := h.1 c
      refine (zq_goto (t := 1565) dL_law_878 rfl).mpr ?_
      exact h
    · replace h := h.2 c
      refine (zq_aload_n dL_law_866 rfl).mpr ?_
      refine (zq_iconst (v := 0) dL_law_867 (by decide)).mpr ?_
      obtain ⟨g11, h⟩ := h
      obtain ⟨g12, h⟩ := h
      refine (zq_lald2 (v := (mA m8 a3 0)) dL_law_868 (by first | rfl | simp only [zm_Is, zm_Rs, zm_As, zm_Os, zm_In0, zm_Rn0])).mpr ⟨⟨g11, ⟨by decide, g12⟩⟩, ?_⟩
      refine (zq_iload dL_law_869 rfl).mpr ?_
      refine (zq_i2l dL_law_871).mpr ?_
      refine (zq_lcmp dL_law_872).mpr ?_
      refine (zq_if_eq (t := 878) dL_law_873 rfl).mpr ⟨fun c => ?_, fun c => ?_⟩
      · replace h := h.1 c
        refine (zq_goto (t := 1565) dL_law_878 rfl).mpr ?_
        exact h
      · replace h := h.2 c
        refine (zq_iconst (v := 0) dL_law_876 (by decide)).mpr ?_
        exact (zq_iret dL_law_877 rfl).mpr ⟨Or.inl rfl, h⟩
  · replace h := h.2 c
    refine (zq_iconst (v := 0) dL_law_859 (by decide)).mpr ?_
    exact (zq_iret dL_law_860 rfl).mpr ⟨Or.inl rfl, h⟩
theorem bL_law_881 {a0 : Nat} {a1 : Nat} {a2 : Nat} {a3 : Nat} {a4 : Int} {a5 : zV} {a6 : zV} {a7 : zV} {a8 : zV} (h : zC xs xl d 235 [zR a1, zR a3] m (fun r m1 => ∃ v2 : Int, r = .inl (some (zI v2)) ∧ (mC m1 a2 = 13) ∧ zC xs xl d 195 [zR a2] m1 (fun r m3 => ∃ v4 : Int, r = .inl (some (zI v4)) ∧ (mC m3 a2 = 13) ∧ zC xs xl d 161 [zR a2] m3 (fun r m6 => ∃ v7 : Int, r = .inl (some (zI v7)) ∧ ((v7 = v2 → ((v2 ≠ 0 → zW xs xl d cL_law 13 (some .boolean) false [] 1565 [zE a0, zR a1, zR a2, zR a3, zI a4, zI v2, zI v4, a7, a8] [] m6 Q) ∧ (¬ (v2 ≠ 0) → (mC m6 a3 = 23) ∧ ((0 : Int) < mN m6 a3) ∧ (((bCmp (mA m6 a3 0) v4) = 0 → zW xs xl d cL_law 13 (some .boolean) false [] 1565 [zE a0, zR a1, zR a2, zR a3, zI a4, zI v2, zI v4, a7, a8] [] m6 Q) ∧ (¬ ((bCmp (mA m6 a3 0) v4) = 0) → Q (.inl (some (zI 0))) m6))))) ∧ (¬ (v7 = v2) → Q (.inl (some (zI 0))) m6)))))) : zW xs xl d cL_law 13 (some .boolean) false [] 881 [zE a0, zR a1, zR a2, zR a3, zI a4, a5, a6, a7, a8] [] m Q := by
  refine (zq_aload_n dL_law_881 rfl).mpr ?_
  refine (zq_aload_n dL_law_882 rfl).mpr ?_
  refine zq_staticI (n := 2) dL_law_883 mr_13_126 zn_235 rfl rfl (Nat.le_of_ble_eq_true rfl) (Nat.le_of_ble_eq_true rfl) ?_
  refine h.mono (fun r m1 h => ?_)
  obtain ⟨v2, rfl, h⟩ := h
  refine ⟨_, rfl, ?_⟩
  refine (zq_istore (l := [zE a0, zR a1, zR a2, zR a3, zI a4, zI v2, a6, a7, a8]) dL_law_886 (Nat.le_of_ble_eq_true rfl) rfl).mpr ?_
  refine (zq_aload_n dL_law_888 rfl).mpr ?_
  obtain ⟨g5, h⟩ := h
  refine zq_virtualI (n := 0) dL_law_889 mr_13_129 zn_195 rfl rfl rfl (zrcv_R zo_195 (by decide) g5) (Nat.le_of_ble_eq_true rfl) ?_
  refine h.mono (fun r m3 h => ?_)
  obtain ⟨v4, rfl, h⟩ := h
  refine ⟨_, rfl, ?_⟩
  refine (zq_istore (l := [zE a0, zR a1, zR a2, zR a3, zI a4, zI v2, zI v4, a7, a8]) dL_law_892 (Nat.le_of_ble_eq_true rfl) rfl).mpr ?_
  refine (zq_aload_n dL_law_894 rfl).mpr ?_
  obtain ⟨g8, h⟩ := h
  refine zq_virtualI (n := 0) dL_law_895 mr_13_88 zn_161 rfl rfl rfl (zrcv_R zo_161 (by decide) g8) (Nat.le_of_ble_eq_true rfl) ?_
  refine h.mono (fun r m6 h => ?_)
  obtain ⟨v7, rfl, h⟩ := h
  refine ⟨_, rfl, ?_⟩
  refine (zq_iload dL_law_898 rfl).mpr ?_
  refine (zq_icmp_eq (t := 905) dL_law_900 rfl).mpr ⟨fun c => ?_, fun c => ?_⟩
  · replace h := h.1 c
    refine (zq_iload dL_law_905 rfl).mpr ?_
    refine (zq_if_ne (t := 922) dL_law_907 rfl).mpr ⟨fun c => ?_, fun c => ?_⟩
    · replace h := h.1 c
      refine (zq_goto (t := 1565) dL_law_922 rfl).mpr ?_
      exact h
    · replace h := h.2 c
      refine (zq_aload_n dL_law_910 rfl).mpr ?_
      refine (zq_iconst (v := 0) dL_law_911 (by decide)).mpr ?_
      obtain ⟨g9, h⟩ := h
      obtain ⟨g10, h⟩ := h
      refine (zq_lald2 (v := (mA m6 a3 0)) dL_law_912 (by first | rfl | simp only [zm_Is, zm_Rs, zm_As, zm_Os, zm_In0, zm_Rn0])).mpr ⟨⟨g9, ⟨by decide, g10⟩⟩, ?_⟩
      refine (zq_iload dL_law_913 rfl).mpr ?_
      refine (zq_i2l dL_law_915).mpr ?_
      refine (zq_lcmp dL_law_916).mpr ?_
      refine (zq_if_eq (t := 922) dL_law_917 rfl).mpr ⟨fun c => ?_, fun c => ?_⟩
      · replace h := h.1 c
        refine (zq_goto (t := 1565) dL_law_922 rfl).mpr ?_
        exact h
      · replace h := h.2 c
        refine (zq_iconst (v := 0) dL_law_920 (by decide)).mpr ?_
        exact (zq_iret dL_law_921 rfl).mpr ⟨Or.inl rfl, h⟩
  · replace h := h.2 c
    refine (zq_iconst (v := 0) dL_law_903 (by decide)).mpr ?_
    exact (zq_iret dL_law_904 rfl).mpr ⟨Or.inl rfl, h⟩
theorem bL_law_925 {a0 : Nat} {a1 : Nat} {a2 : Nat} {a3 : Nat} {a4 : Int} {a5 : zV} {a6 : zV} {a7 : zV} {a8 : zV} (h : (zXk a0 = 1 ∧ 0 ≤ (wr (a4 + 1)) ∧ (wr (a4 + 1)) < zXN xl a0) ∧ (zXk a0 = 1 ∧ 0 ≤ (wr (a4 + 2)) ∧ (wr (a4 + 2)) < zXN xl a0) ∧ (zXk a0 = 1 ∧ 0 ≤ (wr (a4 + 3)) ∧ (wr (a4 + 3)) < zXN xl a0) ∧ zC xs xl d 236 [zR a1, zI (zXI xs a0 ((wr (a4 + 1))).toNat), zI (zXI xs a0 ((wr (a4 + 2))).toNat), zI (zXI xs a0 ((wr (a4 + 3))).toNat), zR a3] m (fun r m4 => ∃ v5 : Int, r = .inl (some (zI v5)) ∧ (mC m4 a2 = 13) ∧ zC xs xl d 197 [zR a2, zI (zXI xs a0 ((wr (a4 + 1))).toNat), zI (zXI xs a0 ((wr (a4 + 2))).toNat), zI (zXI xs a0 ((wr (a4 + 3))).toNat)] m4 (fun r m6 => ∃ v7 : Int, r = .inl (some (zI v7)) ∧ (mC m6 a2 = 13) ∧ zC xs xl d 161 [zR a2] m6 (fun r m9 => ∃ v10 : Int, r = .inl (some (zI v10)) ∧ ((v10 = v5 → ((v5 ≠ 0 → zW xs xl d cL_law 13 (some .boolean) false [] 1565 [zE a0, zR a1, zR a2, zR a3, zI a4, zI v5, zI v7, a7, a8] [] m9 Q) ∧ (¬ (v5 ≠ 0) → (mC m9 a3 = 23) ∧ ((0 : Int) < mN m9 a3) ∧ (((bCmp (mA m9 a3 0) v7) = 0 → zW xs xl d cL_law 13 (some .boolean) false [] 1565 [zE a0, zR a1, zR a2, zR a3, zI a4, zI v5, zI v7, a7, a8] [] m9 Q) ∧ (¬ ((bCmp (mA m9 a3 0) v7) = 0) → Q (.inl (some (zI 0))) m9))))) ∧ (¬ (v10 = v5) → Q (.inl (some (zI 0))) m9)))))) : zW xs xl d cL_law 13 (some .boolean) false [] 925 [zE a0, zR a1, zR a2, zR a3, zI a4, a5, a6, a7, a8] [] m Q := by
  refine (zq_aload_n dL_law_925 rfl).mpr ?_
  refine (zq_aload_nE dL_law_926 rfl).mpr ?_
  refine (zq_iload dL_law_927 rfl).mpr ?_
  refine (zq_iconst (v := 1) dL_law_929 (by decide)).mpr ?_
  refine (zq_iadd dL_law_930).mpr ?_
  obtain ⟨g1, h⟩ := h
  refine (zq_ialdE dL_law_931).mpr ⟨g1, ?_⟩
  refine (zq_aload_nE dL_law_932 rfl).mpr ?_
  refine (zq_iload dL_law_933 rfl).mpr ?_
  refine (zq_iconst (v := 2) dL_law_935 (by decide)).mpr ?_
  refine (zq_iadd dL_law_936).mpr ?_
  obtain ⟨g2, h⟩ := h
  refine (zq_ialdE dL_law_937).mpr ⟨g2, ?_⟩
  refine (zq_aload_nE dL_law_938 rfl).mpr ?_
  refine (zq_iload dL_law_939 rfl).mpr ?_
  refine (zq_iconst (v := 3) dL_law_941 (by decide)).mpr ?_
  refine (zq_iadd dL_law_942).mpr ?_
  obtain ⟨g3, h⟩ := h
  refine (zq_ialdE dL_law_943).mpr ⟨g3, ?_⟩
  refine (zq_aload_n dL_law_944 rfl).mpr ?_
  refine zq_staticI (n := 5) dL_law_945 mr_13_130 zn_236 rfl rfl (Nat.le_of_ble_eq_true rfl) (Nat.le_of_ble_eq_true rfl) ?_
  refine h.mono (fun r m4 h => ?_)
  obtain ⟨v5, rfl, h⟩ := h
  refine ⟨_, rfl, ?_⟩
  refine (zq_istore (l := [zE a0, zR a1, zR a2, zR a3, zI a4, zI v5, a6, a7, a8]) dL_law_948 (Nat.le_of_ble_eq_true rfl) rfl).mpr ?_
  refine (zq_aload_n dL_law_950 rfl).mpr ?_
  refine (zq_aload_nE dL_law_951 rfl).mpr ?_
  refine (zq_iload dL_law_952 rfl).mpr ?_
  refine (zq_iconst (v := 1) dL_law_954 (by decide)).mpr ?_
  refine (zq_iadd dL_law_955).mpr ?_
  refine (zq_ialdE dL_law_956).mpr ⟨g1, ?_⟩
  refine (zq_aload_nE dL_law_957 rfl).mpr ?_
  refine (zq_iload dL_law_958 rfl).mpr ?_
  refine (zq_iconst (v := 2) dL_law_960 (by decide)).mpr ?_
  refine (zq_iadd dL_law_961).mpr ?_
  refine (zq_ialdE dL_law_962).mpr ⟨g2, ?_⟩
  refine (zq_aload_nE dL_law_963 rfl).mpr ?_
  refine (zq_iload dL_law_964 rfl).mpr ?_
  refine (zq_iconst (v := 3) dL_law_966 (by decide)).mpr ?_
  refine (zq_iadd dL_law_967).mpr ?_
  refine (zq_ialdE dL_law_968).mpr ⟨g3, ?_⟩
  obtain ⟨g8, h⟩ := h
  refine zq_virtualI (n := 3) dL_law_969 mr_13_132 zn_197 rfl rfl rfl (zrcv_R zo_197 (by decide) g8) (Nat.le_of_ble_eq_true rfl) ?_
  refine h.mono (fun r m6 h => ?_)
  obtain ⟨v7, rfl, h⟩ := h
  refine ⟨_, rfl, ?_⟩
  refine (zq_istore (l := [zE a0, zR a1, zR a2, zR a3, zI a4, zI v5, zI v7, a7, a8]) dL_law_972 (Nat.le_of_ble_eq_true rfl) rfl).mpr ?_
  refine (zq_aload_n dL_law_974 rfl).mpr ?_
  obtain ⟨g11, h⟩ := h
  refine zq_virtualI (n := 0) dL_law_975 mr_13_88 zn_161 rfl rfl rfl (zrcv_R zo_161 (by decide) g11) (Nat.le_of_ble_eq_true rfl) ?_
  refine h.mono (fun r m9 h => ?_)
  obtain ⟨v10, rfl, h⟩ := h
  refine ⟨_, rfl, ?_⟩
  refine (zq_iload dL_law_978 rfl).mpr ?_
  refine (zq_icmp_eq (t := 985) dL_law_980 rfl).mpr ⟨fun c => ?_, fun c => ?_⟩
  · replace h := h.1 c
    refine (zq_iload dL_law_985 rfl).mpr ?_
    refine (zq_if_ne (t := 1002) dL_law_987 rfl).mpr ⟨fun c => ?_, fun c => ?_⟩
    · replace h := h.1 c
      refine (zq_goto (t := 1565) dL_law_1002 rfl).mpr ?_
      exact h
    · replace h := h.2 c
      refine (zq_aload_n dL_law_990 rfl).mpr ?_
      refine (zq_iconst (v := 0) dL_law_991 (by decide)).mpr ?_
      obtain ⟨g12, h⟩ := h
      obtain ⟨g13, h⟩ := h
      refine (zq_lald2 (v := (mA m9 a3 0)) dL_law_992 (by first | rfl | simp only [zm_Is, zm_Rs, zm_As, zm_Os, zm_In0, zm_Rn0])).mpr ⟨⟨g12, ⟨by decide, g13⟩⟩, ?_⟩
      refine (zq_iload dL_law_993 rfl).mpr ?_
      refine (zq_i2l dL_law_995).mpr ?_
      refine (zq_lcmp dL_law_996).mpr ?_
      refine (zq_if_eq (t := 1002) dL_law_997 rfl).mpr ⟨fun c => ?_, fun c => ?_⟩
      · replace h := h.1 c
        refine (zq_goto (t := 1565) dL_law_1002 rfl).mpr ?_
        exact h
      · replace h := h.2 c
        refine (zq_iconst (v := 0) dL_law_1000 (by decide)).mpr ?_
        exact (zq_iret dL_law_1001 rfl).mpr ⟨Or.inl rfl, h⟩
  · replace h := h.2 c
    refine (zq_iconst (v := 0) dL_law_983 (by decide)).mpr ?_
    exact (zq_iret dL_law_984 rfl).mpr ⟨Or.inl rfl, h⟩
theorem bL_law_1005 {a0 : Nat} {a1 : Nat} {a2 : Nat} {a3 : Nat} {a4 : Int} {a5 : zV} {a6 : zV} {a7 : zV} {a8 : zV} (h : (zXk a0 = 1 ∧ 0 ≤ (wr (a4 + 1)) ∧ (wr (a4 + 1)) < zXN xl a0) ∧ (zXk a0 = 1 ∧ 0 ≤ (wr (a4 + 2)) ∧ (wr (a4 + 2)) < zXN xl a0) ∧ (zXk a0 = 1 ∧ 0 ≤ (wr (a4 + 3)) ∧ (wr (a4 + 3)) < zXN xl a0) ∧ zC xs xl d 237 [zR a1, zI (zXI xs a0 ((wr (a4 + 1))).toNat), zI (zXI xs a0 ((wr (a4 + 2))).toNat), zI (zXI xs a0 ((wr (a4 + 3))).toNat), zR a3] m (fun r m4 => ∃ v5 : Int, r = .inl (some (zI v5)) ∧ (mC m4 a2 = 13) ∧ zC xs xl d 198 [zR a2, zI (zXI xs a0 ((wr (a4 + 1))).toNat), zI (zXI xs a0 ((wr (a4 + 2))).toNat), zI (zXI xs a0 ((wr (a4 + 3))).toNat)] m4 (fun r m6 => ∃ v7 : Int, r = .inl (some (zI v7)) ∧ (mC m6 a2 = 13) ∧ zC xs xl d 161 [zR a2] m6 (fun r m9 => ∃ v10 : Int, r = .inl (some (zI v10)) ∧ ((v10 = v5 → ((v5 ≠ 0 → zW xs xl d cL_law 13 (some .boolean) false [] 1565 [zE a0, zR a1, zR a2, zR a3, zI a4, zI v5, zI v7, a7, a8] [] m9 Q) ∧ (¬ (v5 ≠ 0) → (mC m9 a3 = 23) ∧ ((0 : Int) < mN m9 a3) ∧ (((bCmp (mA m9 a3 0) v7) = 0 → zW xs xl d cL_law 13 (some .boolean) false [] 1565 [zE a0, zR a1, zR a2, zR a3, zI a4, zI v5, zI v7, a7, a8] [] m9 Q) ∧ (¬ ((bCmp (mA m9 a3 0) v7) = 0) → Q (.inl (some (zI 0))) m9))))) ∧ (¬ (v10 = v5) → Q (.inl (some (zI 0))) m9)))))) : zW xs xl d cL_law 13 (some .boolean) false [] 1005 [zE a0, zR a1, zR a2, zR a3, zI a4, a5, a6, a7, a8] [] m Q := by
  refine (zq_aload_n dL_law_1005 rfl).mpr ?_
  refine (zq_aload_nE dL_law_1006 rfl).mpr ?_
  refine (zq_iload dL_law_1007 rfl).mpr ?_
  refine (zq_iconst (v := 1) dL_law_1009 (by decide)).mpr ?_
  refine (zq_iadd dL_law_1010).mpr ?_
  obtain ⟨g1, h⟩ := h
  refine (zq_ialdE dL_law_1011).mpr ⟨g1, ?_⟩
  refine (zq_aload_nE dL_law_1012 rfl).mpr ?_
  refine (zq_iload dL_law_1013 rfl).mpr ?_
  refine (zq_iconst (v := 2) dL_law_1015 (by decide)).mpr ?_
  refine (zq_iadd dL_law_1016).mpr ?_
  obtain ⟨g2, h⟩ := h
  refine (zq_ialdE dL_law_1017).mpr ⟨g2, ?_⟩
  refine (zq_aload_nE dL_law_1018 rfl).mpr ?_
  refine (zq_iload dL_law_1019 rfl).mpr ?_
  refine (zq_iconst (v := 3) dL_law_1021 (by decide)).mpr ?_
  refine (zq_iadd dL_law_1022).mpr ?_
  obtain ⟨g3, h⟩ := h
  refine (zq_ialdE dL_law_1023).mpr ⟨g3, ?_⟩
  refine (zq_aload_n dL_law_1024 rfl).mpr ?_
  refine zq_staticI (n := 5) dL_law_1025 mr_13_133 zn_237 rfl rfl (Nat.le_of_ble_eq_true rfl) (Nat.le_of_ble_eq_true rfl) ?_
  refine h.mono (fun r m4 h => ?_)
  obtain ⟨v5, rfl, h⟩ := h
  refine ⟨_, rfl, ?_⟩
  refine (zq_istore (l := [zE a0, zR a1, zR a2, zR a3, zI a4, zI v5, a6, a7, a8]) dL_law_1028 (Nat.le_of_ble_eq_true rfl) rfl).mpr ?_
  refine (zq_aload_n dL_law_1030 rfl).mpr ?_
  refine (zq_aload_nE dL_law_1031 rfl).mpr ?_
  refine (zq_iload dL_law_1032 rfl).mpr ?_
  refine (zq_iconst (v := 1) dL_law_1034 (by decide)).mpr ?_
  refine (zq_iadd dL_law_1035).mpr ?_
  refine (zq_ialdE dL_law_1036).mpr ⟨g1, ?_⟩
  refine (zq_aload_nE dL_law_1037 rfl).mpr ?_
  refine (zq_iload dL_law_1038 rfl).mpr ?_
  refine (zq_iconst (v := 2) dL_law_1040 (by decide)).mpr ?_
  refine (zq_iadd dL_law_1041).mpr ?_
  refine (zq_ialdE dL_law_1042).mpr ⟨g2, ?_⟩
  refine (zq_aload_nE dL_law_1043 rfl).mpr ?_
  refine (zq_iload dL_law_1044 rfl).mpr ?_
  refine (zq_iconst (v := 3) dL_law_1046 (by decide)).mpr ?_
  refine (zq_iadd dL_law_1047).mpr ?_
  refine (zq_ialdE dL_law_1048).mpr ⟨g3, ?_⟩
  obtain ⟨g8, h⟩ := h
  refine zq_virtualI (n := 3) dL_law_1049 mr_13_135 zn_198 rfl rfl rfl (zrcv_R zo_198 (by decide) g8) (Nat.le_of_ble_eq_true rfl) ?_
  refine h.mono (fun r m6 h => ?_)
  obtain ⟨v7, rfl, h⟩ := h
  refine ⟨_, rfl, ?_⟩
  refine (zq_istore (l := [zE a0, zR a1, zR a2, zR a3, zI a4, zI v5, zI v7, a7, a8]) dL_law_1052 (Nat.le_of_ble_eq_true rfl) rfl).mpr ?_
  refine (zq_aload_n dL_law_1054 rfl).mpr ?_
  obtain ⟨g11, h⟩ := h
  refine zq_virtualI (n := 0) dL_law_1055 mr_13_88 zn_161 rfl rfl rfl (zrcv_R zo_161 (by decide) g11) (Nat.le_of_ble_eq_true rfl) ?_
  refine h.mono (fun r m9 h => ?_)
  obtain ⟨v10, rfl, h⟩ := h
  refine ⟨_, rfl, ?_⟩
  refine (zq_iload dL_law_1058 rfl).mpr ?_
  refine (zq_icmp_eq (t := 1065) dL_law_1060 rfl).mpr ⟨fun c => ?_, fun c => ?_⟩
  · replace h := h.1 c
    refine (zq_iload dL_law_1065 rfl).mpr ?_
    refine (zq_if_ne (t := 1082) dL_law_1067 rfl).mpr ⟨fun c => ?_, fun c => ?_⟩
    · replace h := h.1 c
      refine (zq_goto (t := 1565) dL_law_1082 rfl).mpr ?_
      exact h
    · replace h := h.2 c
      refine (zq_aload_n dL_law_1070 rfl).mpr ?_
      refine (zq_iconst (v := 0) dL_law_1071 (by decide)).mpr ?_
      obtain ⟨g12, h⟩ := h
      obtain ⟨g13, h⟩ := h
      refine (zq_lald2 (v := (mA m9 a3 0)) dL_law_1072 (by first | rfl | simp only [zm_Is, zm_Rs, zm_As, zm_Os, zm_In0, zm_Rn0])).mpr ⟨⟨g12, ⟨by decide, g13⟩⟩, ?_⟩
      refine (zq_iload dL_law_1073 rfl).mpr ?_
      refine (zq_i2l dL_law_1075).mpr ?_
      refine (zq_lcmp dL_law_1076).mpr ?_
      refine (zq_if_eq (t := 1082) dL_law_1077 rfl).mpr ⟨fun c => ?_, fun c => ?_⟩
      · replace h := h.1 c
        refine (zq_goto (t := 1565) dL_law_1082 rfl).mpr ?_
        exact h
      · replace h := h.2 c
        refine (zq_iconst (v := 0) dL_law_1080 (by decide)).mpr ?_
        exact (zq_iret dL_law_1081 rfl).mpr ⟨Or.inl rfl, h⟩
  · replace h := h.2 c
    refine (zq_iconst (v := 0) dL_law_1063 (by decide)).mpr ?_
    exact (zq_iret dL_law_1064 rfl).mpr ⟨Or.inl rfl, h⟩
theorem bL_law_1085 {a0 : Nat} {a1 : Nat} {a2 : Nat} {a3 : Nat} {a4 : Int} {a5 : zV} {a6 : zV} {a7 : zV} {a8 : zV} (h : (zXk a0 = 1 ∧ 0 ≤ (wr (a4 + 1)) ∧ (wr (a4 + 1)) < zXN xl a0) ∧ (zXk a0 = 1 ∧ 0 ≤ (wr (a4 + 2)) ∧ (wr (a4 + 2)) < zXN xl a0) ∧ zC xs xl d 238 [zR a1, zI (zXI xs a0 ((wr (a4 + 1))).toNat), zI (zXI xs a0 ((wr (a4 + 2))).toNat), zR a3] m (fun r m3 => ∃ v4 : Int, r = .inl (some (zI v4)) ∧ (mC m3 a2 = 13) ∧ zC xs xl d 199 [zR a2, zI (zXI xs a0 ((wr (a4 + 1))).toNat), zI (zXI xs a0 ((wr (a4 + 2))).toNat)] m3 (fun r m5 => ∃ v6 : Int, r = .inl (some (zI v6)) ∧ (mC m5 a2 = 13) ∧ zC xs xl d 161 [zR a2] m5 (fun r m8 => ∃ v9 : Int, r = .inl (some (zI v9)) ∧ ((v9 = v4 → ((v4 ≠ 0 → zW xs xl d cL_law 13 (some .boolean) false [] 1565 [zE a0, zR a1, zR a2, zR a3, zI a4, zI v4, zI v6, a7, a8] [] m8 Q) ∧ (¬ (v4 ≠ 0) → (mC m8 a3 = 23) ∧ ((0 : Int) < mN m8 a3) ∧ (((bCmp (mA m8 a3 0) v6) = 0 → zW xs xl d cL_law 13 (some .boolean) false [] 1565 [zE a0, zR a1, zR a2, zR a3, zI a4, zI v4, zI v6, a7, a8] [] m8 Q) ∧ (¬ ((bCmp (mA m8 a3 0) v6) = 0) → Q (.inl (some (zI 0))) m8))))) ∧ (¬ (v9 = v4) → Q (.inl (some (zI 0))) m8)))))) : zW xs xl d cL_law 13 (some .boolean) false [] 1085 [zE a0, zR a1, zR a2, zR a3, zI a4, a5, a6, a7, a8] [] m Q := by
  refine (zq_aload_n dL_law_1085 rfl).mpr ?_
  refine (zq_aload_nE dL_law_1086 rfl).mpr ?_
  refine (zq_iload dL_law_1087 rfl).mpr ?_
  refine (zq_iconst (v := 1) dL_law_1089 (by decide)).mpr ?_
  refine (zq_iadd dL_law_1090).mpr ?_
  obtain ⟨g1, h⟩ := h
  refine (zq_ialdE dL_law_1091).mpr ⟨g1, ?_⟩
  refine (zq_aload_nE dL_law_1092 rfl).mpr ?_
  refine (zq_iload dL_law_1093 rfl).mpr ?_
  refine (zq_iconst (v := 2) dL_law_1095 (by decide)).mpr ?_
  refine (zq_iadd dL_law_1096).mpr ?_
  obtain ⟨g2, h⟩ := h
  refine (zq_ialdE dL_law_1097).mpr ⟨g2, ?_⟩
  refine (zq_aload_n dL_law_1098 rfl).mpr ?_
  refine zq_staticI (n := 4) dL_law_1099 mr_13_136 zn_238 rfl rfl (Nat.le_of_ble_eq_true rfl) (Nat.le_of_ble_eq_true rfl) ?_
  refine h.mono (fun r m3 h => ?_)
  obtain ⟨v4, rfl, h⟩ := h
  refine ⟨_, rfl, ?_⟩
  refine (zq_istore (l := [zE a0, zR a1, zR a2, zR a3, zI a4, zI v4, a6, a7, a8]) dL_law_1102 (Nat.le_of_ble_eq_true rfl) rfl).mpr ?_
  refine (zq_aload_n dL_law_1104 rfl).mpr ?_
  refine (zq_aload_nE dL_law_1105 rfl).mpr ?_
  refine (zq_iload dL_law_1106 rfl).mpr ?_
  refine (zq_iconst (v := 1) dL_law_1108 (by decide)).mpr ?_
  refine (zq_iadd dL_law_1109).mpr ?_
  refine (zq_ialdE dL_law_1110).mpr ⟨g1, ?_⟩
  refine (zq_aload_nE dL_law_1111 rfl).mpr ?_
  refine (zq_iload dL_law_1112 rfl).mpr ?_
  refine (zq_iconst (v := 2) dL_law_1114 (by decide)).mpr ?_
  refine (zq_iadd dL_law_1115).mpr ?_
  refine (zq_ialdE dL_law_1116).mpr ⟨g2, ?_⟩
  obtain ⟨g7, h⟩ := h
  refine zq_virtualI (n := 2) dL_law_1117 mr_13_138 zn_199 rfl rfl rfl (zrcv_R zo_199 (by decide) g7) (Nat.le_of_ble_eq_true rfl) ?_
  refine h.mono (fun r m5 h => ?_)
  obtain ⟨v6, rfl, h⟩ := h
  refine ⟨_, rfl, ?_⟩
  refine (zq_istore (l := [zE a0, zR a1, zR a2, zR a3, zI a4, zI v4, zI v6, a7, a8]) dL_law_1120 (Nat.le_of_ble_eq_true rfl) rfl).mpr ?_
  refine (zq_aload_n dL_law_1122 rfl).mpr ?_
  obtain ⟨g10, h⟩ := h
  refine zq_virtualI (n := 0) dL_law_1123 mr_13_88 zn_161 rfl rfl rfl (zrcv_R zo_161 (by decide) g10) (Nat.le_of_ble_eq_true rfl) ?_
  refine h.mono (fun r m8 h => ?_)
  obtain ⟨v9, rfl, h⟩ := h
  refine ⟨_, rfl, ?_⟩
  refine (zq_iload dL_law_1126 rfl).mpr ?_
  refine (zq_icmp_eq (t := 1133) dL_law_1128 rfl).mpr ⟨fun c => ?_, fun c => ?_⟩
  · replace h := h.1 c
    refine (zq_iload dL_law_1133 rfl).mpr ?_
    refine (zq_if_ne (t := 1150) dL_law_1135 rfl).mpr ⟨fun c => ?_, fun c => ?_⟩
    · replace h := h.1 c
      refine (zq_goto (t := 1565) dL_law_1150 rfl).mpr ?_
      exact h
    · replace h := h.2 c
      refine (zq_aload_n dL_law_1138 rfl).mpr ?_
      refine (zq_iconst (v := 0) dL_law_1139 (by decide)).mpr ?_
      obtain ⟨g11, h⟩ := h
      obtain ⟨g12, h⟩ := h
      refine (zq_lald2 (v := (mA m8 a3 0)) dL_law_1140 (by first | rfl | simp only [zm_Is, zm_Rs, zm_As, zm_Os, zm_In0, zm_Rn0])).mpr ⟨⟨g11, ⟨by decide, g12⟩⟩, ?_⟩
      refine (zq_iload dL_law_1141 rfl).mpr ?_
      refine (zq_i2l dL_law_1143).mpr ?_
      refine (zq_lcmp dL_law_1144).mpr ?_
      refine (zq_if_eq (t := 1150) dL_law_1145 rfl).mpr ⟨fun c => ?_, fun c => ?_⟩
      · replace h := h.1 c
        refine (zq_goto (t := 1565) dL_law_1150 rfl).mpr ?_
        exact h
      · replace h := h.2 c
        refine (zq_iconst (v := 0) dL_law_1148 (by decide)).mpr ?_
        exact (zq_iret dL_law_1149 rfl).mpr ⟨Or.inl rfl, h⟩
  · replace h := h.2 c
    refine (zq_iconst (v := 0) dL_law_1131 (by decide)).mpr ?_
    exact (zq_iret dL_law_1132 rfl).mpr ⟨Or.inl rfl, h⟩
theorem bL_law_1153 {a0 : Nat} {a1 : Nat} {a2 : Nat} {a3 : Nat} {a4 : Int} {a5 : zV} {a6 : zV} {a7 : zV} {a8 : zV} (h : (zXk a0 = 1 ∧ 0 ≤ (wr (a4 + 1)) ∧ (wr (a4 + 1)) < zXN xl a0) ∧ (zXk a0 = 1 ∧ 0 ≤ (wr (a4 + 2)) ∧ (wr (a4 + 2)) < zXN xl a0) ∧ (zXk a0 = 1 ∧ 0 ≤ (wr (a4 + 3)) ∧ (wr (a4 + 3)) < zXN xl a0) ∧ (((zXI xs a0 ((wr (a4 + 3))).toNat) = 0 → zW xs xl d cL_law 13 (some .boolean) false [] 1180 [zE a0, zR a1, zR a2, zR a3, zI a4, a5, a6, a7, a8] [zI 0, zI (zXI xs a0 ((wr (a4 + 2))).toNat), zI (zXI xs a0 ((wr (a4 + 1))).toNat), zR a1] m Q) ∧ (¬ ((zXI xs a0 ((wr (a4 + 3))).toNat) = 0) → zW xs xl d cL_law 13 (some .boolean) false [] 1180 [zE a0, zR a1, zR a2, zR a3, zI a4, a5, a6, a7, a8] [zI 1, zI (zXI xs a0 ((wr (a4 + 2))).toNat), zI (zXI xs a0 ((wr (a4 + 1))).toNat), zR a1] m Q))) : zW xs xl d cL_law 13 (some .boolean) false [] 1153 [zE a0, zR a1, zR a2, zR a3, zI a4, a5, a6, a7, a8] [] m Q := by
  refine (zq_aload_n dL_law_1153 rfl).mpr ?_
  refine (zq_aload_nE dL_law_1154 rfl).mpr ?_
  refine (zq_iload dL_law_1155 rfl).mpr ?_
  refine (zq_iconst (v := 1) dL_law_1157 (by decide)).mpr ?_
  refine (zq_iadd dL_law_1158).mpr ?_
  obtain ⟨g1, h⟩ := h
  refine (zq_ialdE dL_law_1159).mpr ⟨g1, ?_⟩
  refine (zq_aload_nE dL_law_1160 rfl).mpr ?_
  refine (zq_iload dL_law_1161 rfl).mpr ?_
  refine (zq_iconst (v := 2) dL_law_1163 (by decide)).mpr ?_
  refine (zq_iadd dL_law_1164).mpr ?_
  obtain ⟨g2, h⟩ := h
  refine (zq_ialdE dL_law_1165).mpr ⟨g2, ?_⟩
  refine (zq_aload_nE dL_law_1166 rfl).mpr ?_
  refine (zq_iload dL_law_1167 rfl).mpr ?_
  refine (zq_iconst (v := 3) dL_law_1169 (by decide)).mpr ?_
  refine (zq_iadd dL_law_1170).mpr ?_
  obtain ⟨g3, h⟩ := h
  refine (zq_ialdE dL_law_1171).mpr ⟨g3, ?_⟩
  refine (zq_if_eq (t := 1179) dL_law_1172 rfl).mpr ⟨fun c => ?_, fun c => ?_⟩
  · replace h := h.1 c
    refine (zq_iconst (v := 0) dL_law_1179 (by decide)).mpr ?_
    exact h
  · replace h := h.2 c
    refine (zq_iconst (v := 1) dL_law_1175 (by decide)).mpr ?_
    refine (zq_goto (t := 1180) dL_law_1176 rfl).mpr ?_
    exact h
theorem bL_law_1180 {a0 : Nat} {a1 : Nat} {a2 : Nat} {a3 : Nat} {a4 : Int} {a5 : zV} {a6 : zV} {a7 : zV} {a8 : zV} {s0 : Nat} {s1 : Int} {s2 : Int} {s3 : Int} (h : zC xs xl d 239 [zR s0, zI s1, zI s2, zI s3, zR a3] m (fun r m1 => ∃ v2 : Int, r = .inl (some (zI v2)) ∧ (zXk a0 = 1 ∧ 0 ≤ (wr (a4 + 1)) ∧ (wr (a4 + 1)) < zXN xl a0) ∧ (zXk a0 = 1 ∧ 0 ≤ (wr (a4 + 2)) ∧ (wr (a4 + 2)) < zXN xl a0) ∧ (zXk a0 = 1 ∧ 0 ≤ (wr (a4 + 3)) ∧ (wr (a4 + 3)) < zXN xl a0) ∧ (((zXI xs a0 ((wr (a4 + 3))).toNat) = 0 → zW xs xl d cL_law 13 (some .boolean) false [] 1213 [zE a0, zR a1, zR a2, zR a3, zI a4, zI v2, a6, a7, a8] [zI 0, zI (zXI xs a0 ((wr (a4 + 2))).toNat), zI (zXI xs a0 ((wr (a4 + 1))).toNat), zR a2] m1 Q) ∧ (¬ ((zXI xs a0 ((wr (a4 + 3))).toNat) = 0) → zW xs xl d cL_law 13 (some .boolean) false [] 1213 [zE a0, zR a1, zR a2, zR a3, zI a4, zI v2, a6, a7, a8] [zI 1, zI (zXI xs a0 ((wr (a4 + 2))).toNat), zI (zXI xs a0 ((wr (a4 + 1))).toNat), zR a2] m1 Q)))) : zW xs xl d cL_law 13 (some .boolean) false [] 1180 [zE a0, zR a1, zR a2, zR a3, zI a4, a5, a6, a7, a8] [zI s3, zI s2, zI s1, zR s0] m Q := by
  refine (zq_aload_n dL_law_1180 rfl).mpr ?_
  refine zq_staticI (n := 5) dL_law_1181 mr_13_139 zn_239 rfl rfl (Nat.le_of_ble_eq_true rfl) (Nat.le_of_ble_eq_true rfl) ?_
  refine h.mono (fun r m1 h => ?_)
  obtain ⟨v2, rfl, h⟩ := h
  refine ⟨_, rfl, ?_⟩
  refine (zq_istore (l := [zE a0, zR a1, zR a2, zR a3, zI a4, zI v2, a6, a7, a8]) dL_law_1184 (Nat.le_of_ble_eq_true rfl) rfl).mpr ?_
  refine (zq_aload_n dL_law_1186 rfl).mpr ?_
  refine (zq_aload_nE dL_law_1187 rfl).mpr ?_
  refine (zq_iload dL_law_1188 rfl).mpr ?_
  refine (zq_iconst (v := 1) dL_law_1190 (by decide)).mpr ?_
  refine (zq_iadd dL_law_1191).mpr ?_
  obtain ⟨g3, h⟩ := h
  refine (zq_ialdE dL_law_1192).mpr ⟨g3, ?_⟩
  refine (zq_aload_nE dL_law_1193 rfl).mpr ?_
  refine (zq_iload dL_law_1194 rfl).mpr ?_
  refine (zq_iconst (v := 2) dL_law_1196 (by decide)).mpr ?_
  refine (zq_iadd dL_law_1197).mpr ?_
  obtain ⟨g4, h⟩ := h
  refine (zq_ialdE dL_law_1198).mpr ⟨g4, ?_⟩
  refine (zq_aload_nE dL_law_1199 rfl).mpr ?_
  refine (zq_iload dL_law_1200 rfl).mpr ?_
  refine (zq_iconst (v := 3) dL_law_1202 (by decide)).mpr ?_
  refine (zq_iadd dL_law_1203).mpr ?_
  obtain ⟨g5, h⟩ := h
  refine (zq_ialdE dL_law_1204).mpr ⟨g5, ?_⟩
  refine (zq_if_eq (t := 1212) dL_law_1205 rfl).mpr ⟨fun c => ?_, fun c => ?_⟩
  · replace h := h.1 c
    refine (zq_iconst (v := 0) dL_law_1212 (by decide)).mpr ?_
    exact h
  · replace h := h.2 c
    refine (zq_iconst (v := 1) dL_law_1208 (by decide)).mpr ?_
    refine (zq_goto (t := 1213) dL_law_1209 rfl).mpr ?_
    exact h
theorem bL_law_1213 {a0 : Nat} {a1 : Nat} {a2 : Nat} {a3 : Nat} {a4 : Int} {a5 : Int} {a6 : zV} {a7 : zV} {a8 : zV} {s0 : Nat} {s1 : Int} {s2 : Int} {s3 : Int} (h : (mC m s0 = 13) ∧ zC xs xl d 200 [zR s0, zI s1, zI s2, zI s3] m (fun r m1 => ∃ v2 : Int, r = .inl (some (zI v2)) ∧ (mC m1 a2 = 13) ∧ zC xs xl d 161 [zR a2] m1 (fun r m4 => ∃ v5 : Int, r = .inl (some (zI v5)) ∧ ((v5 = a5 → ((a5 ≠ 0 → zW xs xl d cL_law 13 (some .boolean) false [] 1565 [zE a0, zR a1, zR a2, zR a3, zI a4, zI a5, zI v2, a7, a8] [] m4 Q) ∧ (¬ (a5 ≠ 0) → (mC m4 a3 = 23) ∧ ((0 : Int) < mN m4 a3) ∧ (((bCmp (mA m4 a3 0) v2) = 0 → zW xs xl d cL_law 13 (some .boolean) false [] 1565 [zE a0, zR a1, zR a2, zR a3, zI a4, zI a5, zI v2, a7, a8] [] m4 Q) ∧ (¬ ((bCmp (mA m4 a3 0) v2) = 0) → Q (.inl (some (zI 0))) m4))))) ∧ (¬ (v5 = a5) → Q (.inl (some (zI 0))) m4))))) : zW xs xl d cL_law 13 (some .boolean) false [] 1213 [zE a0, zR a1, zR a2, zR a3, zI a4, zI a5, a6, a7, a8] [zI s3, zI s2, zI s1, zR s0] m Q := by
  obtain ⟨g3, h⟩ := h
  refine zq_virtualI (n := 3) dL_law_1213 mr_13_141 zn_200 rfl rfl rfl (zrcv_R zo_200 (by decide) g3) (Nat.le_of_ble_eq_true rfl) ?_
  refine h.mono (fun r m1 h => ?_)
  obtain ⟨v2, rfl, h⟩ := h
  refine ⟨_, rfl, ?_⟩
  refine (zq_istore (l := [zE a0, zR a1, zR a2, zR a3, zI a4, zI a5, zI v2, a7, a8]) dL_law_1216 (Nat.le_of_ble_eq_true rfl) rfl).mpr ?_
  refine (zq_aload_n dL_law_1218 rfl).mpr ?_
  obtain ⟨g6, h⟩ := h
  refine zq_virtualI (n := 0) dL_law_1219 mr_13_88 zn_161 rfl rfl rfl (zrcv_R zo_161 (by decide) g6) (Nat.le_of_ble_eq_true rfl) ?_
  refine h.mono (fun r m4 h => ?_)
  obtain ⟨v5, rfl, h⟩ := h
  refine ⟨_, rfl, ?_⟩
  refine (zq_iload dL_law_1222 rfl).mpr ?_
  refine (zq_icmp_eq (t := 1229) dL_law_1224 rfl).mpr ⟨fun c => ?_, fun c => ?_⟩
  · replace h := h.1 c
    refine (zq_iload dL_law_1229 rfl).mpr ?_
    refine (zq_if_ne (t := 1246) dL_law_1231 rfl).mpr ⟨fun c => ?_, fun c => ?_⟩
    · replace h := h.1 c
      refine (zq_goto (t := 1565) dL_law_1246 rfl).mpr ?_
      exact h
    · replace h := h.2 c
      refine (zq_aload_n dL_law_1234 rfl).mpr ?_
      refine (zq_iconst (v := 0) dL_law_1235 (by decide)).mpr ?_
      obtain ⟨g7, h⟩ := h
      obtain ⟨g8, h⟩ := h
      refine (zq_lald2 (v := (mA m4 a3 0)) dL_law_1236 (by first | rfl | simp only [zm_Is, zm_Rs, zm_As, zm_Os, zm_In0, zm_Rn0])).mpr ⟨⟨g7, ⟨by decide, g8⟩⟩, ?_⟩
      refine (zq_iload dL_law_1237 rfl).mpr ?_
      refine (zq_i2l dL_law_1239).mpr ?_
      refine (zq_lcmp dL_law_1240).mpr ?_
      refine (zq_if_eq (t := 1246) dL_law_1241 rfl).mpr ⟨fun c => ?_, fun c => ?_⟩
      · replace h := h.1 c
        refine (zq_goto (t := 1565) dL_law_1246 rfl).mpr ?_
        exact h
      · replace h := h.2 c
        refine (zq_iconst (v := 0) dL_law_1244 (by decide)).mpr ?_
        exact (zq_iret dL_law_1245 rfl).mpr ⟨Or.inl rfl, h⟩
  · replace h := h.2 c
    refine (zq_iconst (v := 0) dL_law_1227 (by decide)).mpr ?_
    exact (zq_iret dL_law_1228 rfl).mpr ⟨Or.inl rfl, h⟩
theorem bL_law_1249 {a0 : Nat} {a1 : Nat} {a2 : Nat} {a3 : Nat} {a4 : Int} {a5 : zV} {a6 : zV} {a7 : zV} {a8 : zV} (h : (mC m a1 = 11) ∧ zC xs xl d 119 [zR a1] m (fun r m1 => ∃ v2 : Int, r = .inl (some (zI v2)) ∧ (mC m1 a2 = 13) ∧ zC xs xl d 201 [zR a2] m1 (fun r m4 => ∃ v5 : Int, r = .inl (some (zI v5)) ∧ ((v2 = v5 → zW xs xl d cL_law 13 (some .boolean) false [] 1565 [zE a0, zR a1, zR a2, zR a3, zI a4, a5, a6, a7, a8] [] m4 Q) ∧ (¬ (v2 = v5) → Q (.inl (some (zI 0))) m4))))) : zW xs xl d cL_law 13 (some .boolean) false [] 1249 [zE a0, zR a1, zR a2, zR a3, zI a4, a5, a6, a7, a8] [] m Q := by
  refine (zq_aload_n dL_law_1249 rfl).mpr ?_
  obtain ⟨g3, h⟩ := h
  refine zq_virtualI (n := 0) dL_law_1250 mr_13_142 zn_119 rfl rfl rfl (zrcv_R zo_119 (by decide) g3) (Nat.le_of_ble_eq_true rfl) ?_
  refine h.mono (fun r m1 h => ?_)
  obtain ⟨v2, rfl, h⟩ := h
  refine ⟨_, rfl, ?_⟩
  refine (zq_aload_n dL_law_1253 rfl).mpr ?_
  obtain ⟨g6, h⟩ := h
  refine zq_virtualI (n := 0) dL_law_1254 mr_13_145 zn_201 rfl rfl rfl (zrcv_R zo_201 (by decide) g6) (Nat.le_of_ble_eq_true rfl) ?_
  refine h.mono (fun r m4 h => ?_)
  obtain ⟨v5, rfl, h⟩ := h
  refine ⟨_, rfl, ?_⟩
  refine (zq_icmp_eq (t := 1565) dL_law_1257 rfl).mpr ⟨fun c => ?_, fun c => ?_⟩
  · replace h := h.1 c
    exact h
  · replace h := h.2 c
    refine (zq_iconst (v := 0) dL_law_1260 (by decide)).mpr ?_
    exact (zq_iret dL_law_1261 rfl).mpr ⟨Or.inl rfl, h⟩
theorem bL_law_1262 {a0 : Nat} {a1 : Nat} {a2 : Nat} {a3 : Nat} {a4 : Int} {a5 : zV} {a6 : zV} {a7 : zV} {a8 : zV} (h : (zXk a0 = 1 ∧ 0 ≤ (wr (a4 + 1)) ∧ (wr (a4 + 1)) < zXN xl a0) ∧ zC xs xl d 240 [zR a1, zI (zXI xs a0 ((wr (a4 + 1))).toNat), zR a3] m (fun r m2 => ∃ v3 : Int, r = .inl (some (zI v3)) ∧ (mC m2 a2 = 13) ∧ zC xs xl d 202 [zR a2, zI (zXI xs a0 ((wr (a4 + 1))).toNat)] m2 (fun r m4 => ∃ v5 : Int, r = .inl (some (zI v5)) ∧ (mC m4 a2 = 13) ∧ zC xs xl d 161 [zR a2] m4 (fun r m7 => ∃ v8 : Int, r = .inl (some (zI v8)) ∧ ((v8 = v3 → ((v3 ≠ 0 → zW xs xl d cL_law 13 (some .boolean) false [] 1565 [zE a0, zR a1, zR a2, zR a3, zI a4, zI v3, zI v5, a7, a8] [] m7 Q) ∧ (¬ (v3 ≠ 0) → (mC m7 a3 = 23) ∧ ((0 : Int) < mN m7 a3) ∧ (((bCmp (mA m7 a3 0) v5) = 0 → zW xs xl d cL_law 13 (some .boolean) false [] 1565 [zE a0, zR a1, zR a2, zR a3, zI a4, zI v3, zI v5, a7, a8] [] m7 Q) ∧ (¬ ((bCmp (mA m7 a3 0) v5) = 0) → Q (.inl (some (zI 0))) m7))))) ∧ (¬ (v8 = v3) → Q (.inl (some (zI 0))) m7)))))) : zW xs xl d cL_law 13 (some .boolean) false [] 1262 [zE a0, zR a1, zR a2, zR a3, zI a4, a5, a6, a7, a8] [] m Q := by
  refine (zq_aload_n dL_law_1262 rfl).mpr ?_
  refine (zq_aload_nE dL_law_1263 rfl).mpr ?_
  refine (zq_iload dL_law_1264 rfl).mpr ?_
  refine (zq_iconst (v := 1) dL_law_1266 (by decide)).mpr ?_
  refine (zq_iadd dL_law_1267).mpr ?_
  obtain ⟨g1, h⟩ := h
  refine (zq_ialdE dL_law_1268).mpr ⟨g1, ?_⟩
  refine (zq_aload_n dL_law_1269 rfl).mpr ?_
  refine zq_staticI (n := 3) dL_law_1270 mr_13_146 zn_240 rfl rfl (Nat.le_of_ble_eq_true rfl) (Nat.le_of_ble_eq_true rfl) ?_
  refine h.mono (fun r m2 h => ?_)
  obtain ⟨v3, rfl, h⟩ := h
  refine ⟨_, rfl, ?_⟩
  refine (zq_istore (l := [zE a0, zR a1, zR a2, zR a3, zI a4, zI v3, a6, a7, a8]) dL_law_1273 (Nat.le_of_ble_eq_true rfl) rfl).mpr ?_
  refine (zq_aload_n dL_law_1275 rfl).mpr ?_
  refine (zq_aload_nE dL_law_1276 rfl).mpr ?_
  refine (zq_iload dL_law_1277 rfl).mpr ?_
  refine (zq_iconst (v := 1) dL_law_1279 (by decide)).mpr ?_
  refine (zq_iadd dL_law_1280).mpr ?_
  refine (zq_ialdE dL_law_1281).mpr ⟨g1, ?_⟩
  obtain ⟨g6, h⟩ := h
  refine zq_virtualI (n := 1) dL_law_1282 mr_13_148 zn_202 rfl rfl rfl (zrcv_R zo_202 (by decide) g6) (Nat.le_of_ble_eq_true rfl) ?_
  refine h.mono (fun r m4 h => ?_)
  obtain ⟨v5, rfl, h⟩ := h
  refine ⟨_, rfl, ?_⟩
  refine (zq_istore (l := [zE a0, zR a1, zR a2, zR a3, zI a4, zI v3, zI v5, a7, a8]) dL_law_1285 (Nat.le_of_ble_eq_true rfl) rfl).mpr ?_
  refine (zq_aload_n dL_law_1287 rfl).mpr ?_
  obtain ⟨g9, h⟩ := h
  refine zq_virtualI (n := 0) dL_law_1288 mr_13_88 zn_161 rfl rfl rfl (zrcv_R zo_161 (by decide) g9) (Nat.le_of_ble_eq_true rfl) ?_
  refine h.mono (fun r m7 h => ?_)
  obtain ⟨v8, rfl, h⟩ := h
  refine ⟨_, rfl, ?_⟩
  refine (zq_iload dL_law_1291 rfl).mpr ?_
  refine (zq_icmp_eq (t := 1298) dL_law_1293 rfl).mpr ⟨fun c => ?_, fun c => ?_⟩
  · replace h := h.1 c
    refine (zq_iload dL_law_1298 rfl).mpr ?_
    refine (zq_if_ne (t := 1315) dL_law_1300 rfl).mpr ⟨fun c => ?_, fun c => ?_⟩
    · replace h := h.1 c
      refine (zq_goto (t := 1565) dL_law_1315 rfl).mpr ?_
      exact h
    · replace h := h.2 c
      refine (zq_aload_n dL_law_1303 rfl).mpr ?_
      refine (zq_iconst (v := 0) dL_law_1304 (by decide)).mpr ?_
      obtain ⟨g10, h⟩ := h
      obtain ⟨g11, h⟩ := h
      refine (zq_lald2 (v := (mA m7 a3 0)) dL_law_1305 (by first | rfl | simp only [zm_Is, zm_Rs, zm_As, zm_Os, zm_In0, zm_Rn0])).mpr ⟨⟨g10, ⟨by decide, g11⟩⟩, ?_⟩
      refine (zq_iload dL_law_1306 rfl).mpr ?_
      refine (zq_i2l dL_law_1308).mpr ?_
      refine (zq_lcmp dL_law_1309).mpr ?_
      refine (zq_if_eq (t := 1315) dL_law_1310 rfl).mpr ⟨fun c => ?_, fun c => ?_⟩
      · replace h := h.1 c
        refine (zq_goto (t := 1565) dL_law_1315 rfl).mpr ?_
        exact h
      · replace h := h.2 c
        refine (zq_iconst (v := 0) dL_law_1313 (by decide)).mpr ?_
        exact (zq_iret dL_law_1314 rfl).mpr ⟨Or.inl rfl, h⟩
  · replace h := h.2 c
    refine (zq_iconst (v := 0) dL_law_1296 (by decide)).mpr ?_
    exact (zq_iret dL_law_1297 rfl).mpr ⟨Or.inl rfl, h⟩
theorem bL_law_1318 {a0 : Nat} {a1 : Nat} {a2 : Nat} {a3 : Nat} {a4 : Int} {a5 : zV} {a6 : zV} {a7 : zV} {a8 : zV} (h : (zXk a0 = 1 ∧ 0 ≤ (wr (a4 + 1)) ∧ (wr (a4 + 1)) < zXN xl a0) ∧ zC xs xl d 241 [zR a1, zI (zXI xs a0 ((wr (a4 + 1))).toNat), zR a3] m (fun r m2 => ∃ v3 : Int, r = .inl (some (zI v3)) ∧ (mC m2 a2 = 13) ∧ zC xs xl d 203 [zR a2, zI (zXI xs a0 ((wr (a4 + 1))).toNat)] m2 (fun r m4 => ∃ v5 : Int, r = .inl (some (zI v5)) ∧ (mC m4 a2 = 13) ∧ zC xs xl d 161 [zR a2] m4 (fun r m7 => ∃ v8 : Int, r = .inl (some (zI v8)) ∧ ((v8 = v3 → ((v3 ≠ 0 → zW xs xl d cL_law 13 (some .boolean) false [] 1565 [zE a0, zR a1, zR a2, zR a3, zI a4, zI v3, zI v5, a7, a8] [] m7 Q) ∧ (¬ (v3 ≠ 0) → (mC m7 a3 = 23) ∧ ((0 : Int) < mN m7 a3) ∧ (((bCmp (mA m7 a3 0) v5) = 0 → zW xs xl d cL_law 13 (some .boolean) false [] 1565 [zE a0, zR a1, zR a2, zR a3, zI a4, zI v3, zI v5, a7, a8] [] m7 Q) ∧ (¬ ((bCmp (mA m7 a3 0) v5) = 0) → Q (.inl (some (zI 0))) m7))))) ∧ (¬ (v8 = v3) → Q (.inl (some (zI 0))) m7)))))) : zW xs xl d cL_law 13 (some .boolean) false [] 1318 [zE a0, zR a1, zR a2, zR a3, zI a4, a5, a6, a7, a8] [] m Q := by
  refine (zq_aload_n dL_law_1318 rfl).mpr ?_
  refine (zq_aload_nE dL_law_1319 rfl).mpr ?_
  refine (zq_iload dL_law_1320 rfl).mpr ?_
  refine (zq_iconst (v := 1) dL_law_1322 (by decide)).mpr ?_
  refine (zq_iadd dL_law_1323).mpr ?_
  obtain ⟨g1, h⟩ := h
  refine (zq_ialdE dL_law_1324).mpr ⟨g1, ?_⟩
  refine (zq_aload_n dL_law_1325 rfl).mpr ?_
  refine zq_staticI (n := 3) dL_law_1326 mr_13_149 zn_241 rfl rfl (Nat.le_of_ble_eq_true rfl) (Nat.le_of_ble_eq_true rfl) ?_
  refine h.mono (fun r m2 h => ?_)
  obtain ⟨v3, rfl, h⟩ := h
  refine ⟨_, rfl, ?_⟩
  refine (zq_istore (l := [zE a0, zR a1, zR a2, zR a3, zI a4, zI v3, a6, a7, a8]) dL_law_1329 (Nat.le_of_ble_eq_true rfl) rfl).mpr ?_
  refine (zq_aload_n dL_law_1331 rfl).mpr ?_
  refine (zq_aload_nE dL_law_1332 rfl).mpr ?_
  refine (zq_iload dL_law_1333 rfl).mpr ?_
  refine (zq_iconst (v := 1) dL_law_1335 (by decide)).mpr ?_
  refine (zq_iadd dL_law_1336).mpr ?_
  refine (zq_ialdE dL_law_1337).mpr ⟨g1, ?_⟩
  obtain ⟨g6, h⟩ := h
  refine zq_virtualI (n := 1) dL_law_1338 mr_13_151 zn_203 rfl rfl rfl (zrcv_R zo_203 (by decide) g6) (Nat.le_of_ble_eq_true rfl) ?_
  refine h.mono (fun r m4 h => ?_)
  obtain ⟨v5, rfl, h⟩ := h
  refine ⟨_, rfl, ?_⟩
  refine (zq_istore (l := [zE a0, zR a1, zR a2, zR a3, zI a4, zI v3, zI v5, a7, a8]) dL_law_1341 (Nat.le_of_ble_eq_true rfl) rfl).mpr ?_
  refine (zq_aload_n dL_law_1343 rfl).mpr ?_
  obtain ⟨g9, h⟩ := h
  refine zq_virtualI (n := 0) dL_law_1344 mr_13_88 zn_161 rfl rfl rfl (zrcv_R zo_161 (by decide) g9) (Nat.le_of_ble_eq_true rfl) ?_
  refine h.mono (fun r m7 h => ?_)
  obtain ⟨v8, rfl, h⟩ := h
  refine ⟨_, rfl, ?_⟩
  refine (zq_iload dL_law_1347 rfl).mpr ?_
  refine (zq_icmp_eq (t := 1354) dL_law_1349 rfl).mpr ⟨fun c => ?_, fun c => ?_⟩
  · replace h := h.1 c
    refine (zq_iload dL_law_1354 rfl).mpr ?_
    refine (zq_if_ne (t := 1371) dL_law_1356 rfl).mpr ⟨fun c => ?_, fun c => ?_⟩
    · replace h := h.1 c
      refine (zq_goto (t := 1565) dL_law_1371 rfl).mpr ?_
      exact h
    · replace h := h.2 c
      refine (zq_aload_n dL_law_1359 rfl).mpr ?_
      refine (zq_iconst (v := 0) dL_law_1360 (by decide)).mpr ?_
      obtain ⟨g10, h⟩ := h
      obtain ⟨g11, h⟩ := h
      refine (zq_lald2 (v := (mA m7 a3 0)) dL_law_1361 (by first | rfl | simp only [zm_Is, zm_Rs, zm_As, zm_Os, zm_In0, zm_Rn0])).mpr ⟨⟨g10, ⟨by decide, g11⟩⟩, ?_⟩
      refine (zq_iload dL_law_1362 rfl).mpr ?_
      refine (zq_i2l dL_law_1364).mpr ?_
      refine (zq_lcmp dL_law_1365).mpr ?_
      refine (zq_if_eq (t := 1371) dL_law_1366 rfl).mpr ⟨fun c => ?_, fun c => ?_⟩
      · replace h := h.1 c
        refine (zq_goto (t := 1565) dL_law_1371 rfl).mpr ?_
        exact h
      · replace h := h.2 c
        refine (zq_iconst (v := 0) dL_law_1369 (by decide)).mpr ?_
        exact (zq_iret dL_law_1370 rfl).mpr ⟨Or.inl rfl, h⟩
  · replace h := h.2 c
    refine (zq_iconst (v := 0) dL_law_1352 (by decide)).mpr ?_
    exact (zq_iret dL_law_1353 rfl).mpr ⟨Or.inl rfl, h⟩
theorem bL_law_1374 {a0 : Nat} {a1 : Nat} {a2 : Nat} {a3 : Nat} {a4 : Int} {a5 : zV} {a6 : zV} {a7 : zV} {a8 : zV} (h : (zXk a0 = 1 ∧ 0 ≤ (wr (a4 + 1)) ∧ (wr (a4 + 1)) < zXN xl a0) ∧ (zXk a0 = 1 ∧ 0 ≤ (wr (a4 + 2)) ∧ (wr (a4 + 2)) < zXN xl a0) ∧ zC xs xl d 242 [zR a1, zI (zXI xs a0 ((wr (a4 + 1))).toNat), zI (zXI xs a0 ((wr (a4 + 2))).toNat), zR a3] m (fun r m3 => ∃ v4 : Int, r = .inl (some (zI v4)) ∧ (mC m3 a2 = 13) ∧ zC xs xl d 205 [zR a2, zI (zXI xs a0 ((wr (a4 + 1))).toNat), zI (zXI xs a0 ((wr (a4 + 2))).toNat)] m3 (fun r m5 => ∃ v6 : Int, r = .inl (some (zI v6)) ∧ (mC m5 a2 = 13) ∧ zC xs xl d 161 [zR a2] m5 (fun r m8 => ∃ v9 : Int, r = .inl (some (zI v9)) ∧ ((v9 = v4 → ((v4 ≠ 0 → zW xs xl d cL_law 13 (some .boolean) false [] 1565 [zE a0, zR a1, zR a2, zR a3, zI a4, zI v4, zI v6, a7, a8] [] m8 Q) ∧ (¬ (v4 ≠ 0) → (mC m8 a3 = 23) ∧ ((0 : Int) < mN m8 a3) ∧ (((bCmp (mA m8 a3 0) v6) = 0 → zW xs xl d cL_law 13 (some .boolean) false [] 1565 [zE a0, zR a1, zR a2, zR a3, zI a4, zI v4, zI v6, a7, a8] [] m8 Q) ∧ (¬ ((bCmp (mA m8 a3 0) v6) = 0) → Q (.inl (some (zI 0))) m8))))) ∧ (¬ (v9 = v4) → Q (.inl (some (zI 0))) m8)))))) : zW xs xl d cL_law 13 (some .boolean) false [] 1374 [zE a0, zR a1, zR a2, zR a3, zI a4, a5, a6, a7, a8] [] m Q := by
  refine (zq_aload_n dL_law_1374 rfl).mpr ?_
  refine (zq_aload_nE dL_law_1375 rfl).mpr ?_
  refine (zq_iload dL_law_1376 rfl).mpr ?_
  refine (zq_iconst (v := 1) dL_law_1378 (by decide)).mpr ?_
  refine (zq_iadd dL_law_1379).mpr ?_
  obtain ⟨g1, h⟩ := h
  refine (zq_ialdE dL_law_1380).mpr ⟨g1, ?_⟩
  refine (zq_aload_nE dL_law_1381 rfl).mpr ?_
  refine (zq_iload dL_law_1382 rfl).mpr ?_
  refine (zq_iconst (v := 2) dL_law_1384 (by decide)).mpr ?_
  refine (zq_iadd dL_law_1385).mpr ?_
  obtain ⟨g2, h⟩ := h
  refine (zq_ialdE dL_law_1386).mpr ⟨g2, ?_⟩
  refine (zq_aload_n dL_law_1387 rfl).mpr ?_
  refine zq_staticI (n := 4) dL_law_1388 mr_13_152 zn_242 rfl rfl (Nat.le_of_ble_eq_true rfl) (Nat.le_of_ble_eq_true rfl) ?_
  refine h.mono (fun r m3 h => ?_)
  obtain ⟨v4, rfl, h⟩ := h
  refine ⟨_, rfl, ?_⟩
  refine (zq_istore (l := [zE a0, zR a1, zR a2, zR a3, zI a4, zI v4, a6, a7, a8]) dL_law_1391 (Nat.le_of_ble_eq_true rfl) rfl).mpr ?_
  refine (zq_aload_n dL_law_1393 rfl).mpr ?_
  refine (zq_aload_nE dL_law_1394 rfl).mpr ?_
  refine (zq_iload dL_law_1395 rfl).mpr ?_
  refine (zq_iconst (v := 1) dL_law_1397 (by decide)).mpr ?_
  refine (zq_iadd dL_law_1398).mpr ?_
  refine (zq_ialdE dL_law_1399).mpr ⟨g1, ?_⟩
  refine (zq_aload_nE dL_law_1400 rfl).mpr ?_
  refine (zq_iload dL_law_1401 rfl).mpr ?_
  refine (zq_iconst (v := 2) dL_law_1403 (by decide)).mpr ?_
  refine (zq_iadd dL_law_1404).mpr ?_
  refine (zq_ialdE dL_law_1405).mpr ⟨g2, ?_⟩
  obtain ⟨g7, h⟩ := h
  refine zq_virtualI (n := 2) dL_law_1406 mr_13_154 zn_205 rfl rfl rfl (zrcv_R zo_205 (by decide) g7) (Nat.le_of_ble_eq_true rfl) ?_
  refine h.mono (fun r m5 h => ?_)
  obtain ⟨v6, rfl, h⟩ := h
  refine ⟨_, rfl, ?_⟩
  refine (zq_istore (l := [zE a0, zR a1, zR a2, zR a3, zI a4, zI v4, zI v6, a7, a8]) dL_law_1409 (Nat.le_of_ble_eq_true rfl) rfl).mpr ?_
  refine (zq_aload_n dL_law_1411 rfl).mpr ?_
  obtain ⟨g10, h⟩ := h
  refine zq_virtualI (n := 0) dL_law_1412 mr_13_88 zn_161 rfl rfl rfl (zrcv_R zo_161 (by decide) g10) (Nat.le_of_ble_eq_true rfl) ?_
  refine h.mono (fun r m8 h => ?_)
  obtain ⟨v9, rfl, h⟩ := h
  refine ⟨_, rfl, ?_⟩
  refine (zq_iload dL_law_1415 rfl).mpr ?_
  refine (zq_icmp_eq (t := 1422) dL_law_1417 rfl).mpr ⟨fun c => ?_, fun c => ?_⟩
  · replace h := h.1 c
    refine (zq_iload dL_law_1422 rfl).mpr ?_
    refine (zq_if_ne (t := 1439) dL_law_1424 rfl).mpr ⟨fun c => ?_, fun c => ?_⟩
    · replace h := h.1 c
      refine (zq_goto (t := 1565) dL_law_1439 rfl).mpr ?_
      exact h
    · replace h := h.2 c
      refine (zq_aload_n dL_law_1427 rfl).mpr ?_
      refine (zq_iconst (v := 0) dL_law_1428 (by decide)).mpr ?_
      obtain ⟨g11, h⟩ := h
      obtain ⟨g12, h⟩ := h
      refine (zq_lald2 (v := (mA m8 a3 0)) dL_law_1429 (by first | rfl | simp only [zm_Is, zm_Rs, zm_As, zm_Os, zm_In0, zm_Rn0])).mpr ⟨⟨g11, ⟨by decide, g12⟩⟩, ?_⟩
      refine (zq_iload dL_law_1430 rfl).mpr ?_
      refine (zq_i2l dL_law_1432).mpr ?_
      refine (zq_lcmp dL_law_1433).mpr ?_
      refine (zq_if_eq (t := 1439) dL_law_1434 rfl).mpr ⟨fun c => ?_, fun c => ?_⟩
      · replace h := h.1 c
        refine (zq_goto (t := 1565) dL_law_1439 rfl).mpr ?_
        exact h
      · replace h := h.2 c
        refine (zq_iconst (v := 0) dL_law_1437 (by decide)).mpr ?_
        exact (zq_iret dL_law_1438 rfl).mpr ⟨Or.inl rfl, h⟩
  · replace h := h.2 c
    refine (zq_iconst (v := 0) dL_law_1420 (by decide)).mpr ?_
    exact (zq_iret dL_law_1421 rfl).mpr ⟨Or.inl rfl, h⟩
theorem bL_law_1442 {a0 : Nat} {a1 : Nat} {a2 : Nat} {a3 : Nat} {a4 : Int} {a5 : zV} {a6 : zV} {a7 : zV} {a8 : zV} (h : (zXk a0 = 1 ∧ 0 ≤ (wr (a4 + 1)) ∧ (wr (a4 + 1)) < zXN xl a0) ∧ (zXk a0 = 1 ∧ 0 ≤ (wr (a4 + 2)) ∧ (wr (a4 + 2)) < zXN xl a0) ∧ zC xs xl d 243 [zR a1, zI (zXI xs a0 ((wr (a4 + 1))).toNat), zI (zXI xs a0 ((wr (a4 + 2))).toNat), zR a3] m (fun r m3 => ∃ v4 : Int, r = .inl (some (zI v4)) ∧ (mC m3 a2 = 13) ∧ zC xs xl d 206 [zR a2, zI (zXI xs a0 ((wr (a4 + 1))).toNat), zI (zXI xs a0 ((wr (a4 + 2))).toNat)] m3 (fun r m5 => ∃ v6 : Int, r = .inl (some (zI v6)) ∧ (mC m5 a2 = 13) ∧ zC xs xl d 161 [zR a2] m5 (fun r m8 => ∃ v9 : Int, r = .inl (some (zI v9)) ∧ ((v9 = v4 → ((v4 ≠ 0 → zW xs xl d cL_law 13 (some .boolean) false [] 1565 [zE a0, zR a1, zR a2, zR a3, zI a4, zI v4, zI v6, a7, a8] [] m8 Q) ∧ (¬ (v4 ≠ 0) → (mC m8 a3 = 23) ∧ ((0 : Int) < mN m8 a3) ∧ (((bCmp (mA m8 a3 0) v6) = 0 → zW xs xl d cL_law 13 (some .boolean) false [] 1565 [zE a0, zR a1, zR a2, zR a3, zI a4, zI v4, zI v6, a7, a8] [] m8 Q) ∧ (¬ ((bCmp (mA m8 a3 0) v6) = 0) → Q (.inl (some (zI 0))) m8))))) ∧ (¬ (v9 = v4) → Q (.inl (some (zI 0))) m8)))))) : zW xs xl d cL_law 13 (some .boolean) false [] 1442 [zE a0, zR a1, zR a2, zR a3, zI a4, a5, a6, a7, a8] [] m Q := by
  refine (zq_aload_n dL_law_1442 rfl).mpr ?_
  refine (zq_aload_nE dL_law_1443 rfl).mpr ?_
  refine (zq_iload dL_law_1444 rfl).mpr ?_
  refine (zq_iconst (v := 1) dL_law_1446 (by decide)).mpr ?_
  refine (zq_iadd dL_law_1447).mpr ?_
  obtain ⟨g1, h⟩ := h
  refine (zq_ialdE dL_law_1448).mpr ⟨g1, ?_⟩
  refine (zq_aload_nE dL_law_1449 rfl).mpr ?_
  refine (zq_iload dL_law_1450 rfl).mpr ?_
  refine (zq_iconst (v := 2) dL_law_1452 (by decide)).mpr ?_
  refine (zq_iadd dL_law_1453).mpr ?_
  obtain ⟨g2, h⟩ := h
  refine (zq_ialdE dL_law_1454).mpr ⟨g2, ?_⟩
  refine (zq_aload_n dL_law_1455 rfl).mpr ?_
  refine zq_staticI (n := 4) dL_law_1456 mr_13_155 zn_243 rfl rfl (Nat.le_of_ble_eq_true rfl) (Nat.le_of_ble_eq_true rfl) ?_
  refine h.mono (fun r m3 h => ?_)
  obtain ⟨v4, rfl, h⟩ := h
  refine ⟨_, rfl, ?_⟩
  refine (zq_istore (l := [zE a0, zR a1, zR a2, zR a3, zI a4, zI v4, a6, a7, a8]) dL_law_1459 (Nat.le_of_ble_eq_true rfl) rfl).mpr ?_
  refine (zq_aload_n dL_law_1461 rfl).mpr ?_
  refine (zq_aload_nE dL_law_1462 rfl).mpr ?_
  refine (zq_iload dL_law_1463 rfl).mpr ?_
  refine (zq_iconst (v := 1) dL_law_1465 (by decide)).mpr ?_
  refine (zq_iadd dL_law_1466).mpr ?_
  refine (zq_ialdE dL_law_1467).mpr ⟨g1, ?_⟩
  refine (zq_aload_nE dL_law_1468 rfl).mpr ?_
  refine (zq_iload dL_law_1469 rfl).mpr ?_
  refine (zq_iconst (v := 2) dL_law_1471 (by decide)).mpr ?_
  refine (zq_iadd dL_law_1472).mpr ?_
  refine (zq_ialdE dL_law_1473).mpr ⟨g2, ?_⟩
  obtain ⟨g7, h⟩ := h
  refine zq_virtualI (n := 2) dL_law_1474 mr_13_157 zn_206 rfl rfl rfl (zrcv_R zo_206 (by decide) g7) (Nat.le_of_ble_eq_true rfl) ?_
  refine h.mono (fun r m5 h => ?_)
  obtain ⟨v6, rfl, h⟩ := h
  refine ⟨_, rfl, ?_⟩
  refine (zq_istore (l := [zE a0, zR a1, zR a2, zR a3, zI a4, zI v4, zI v6, a7, a8]) dL_law_1477 (Nat.le_of_ble_eq_true rfl) rfl).mpr ?_
  refine (zq_aload_n dL_law_1479 rfl).mpr ?_
  obtain ⟨g10, h⟩ := h
  refine zq_virtualI (n := 0) dL_law_1480 mr_13_88 zn_161 rfl rfl rfl (zrcv_R zo_161 (by decide) g10) (Nat.le_of_ble_eq_true rfl) ?_
  refine h.mono (fun r m8 h => ?_)
  obtain ⟨v9, rfl, h⟩ := h
  refine ⟨_, rfl, ?_⟩
  refine (zq_iload dL_law_1483 rfl).mpr ?_
  refine (zq_icmp_eq (t := 1490) dL_law_1485 rfl).mpr ⟨fun c => ?_, fun c => ?_⟩
  · replace h := h.1 c
    refine (zq_iload dL_law_1490 rfl).mpr ?_
    refine (zq_if_ne (t := 1507) dL_law_1492 rfl).mpr ⟨fun c => ?_, fun c => ?_⟩
    · replace h := h.1 c
      refine (zq_goto (t := 1565) dL_law_1507 rfl).mpr ?_
      exact h
    · replace h := h.2 c
      refine (zq_aload_n dL_law_1495 rfl).mpr ?_
      refine (zq_iconst (v := 0) dL_law_1496 (by decide)).mpr ?_
      obtain ⟨g11, h⟩ := h
      obtain ⟨g12, h⟩ := h
      refine (zq_lald2 (v := (mA m8 a3 0)) dL_law_1497 (by first | rfl | simp only [zm_Is, zm_Rs, zm_As, zm_Os, zm_In0, zm_Rn0])).mpr ⟨⟨g11, ⟨by decide, g12⟩⟩, ?_⟩
      refine (zq_iload dL_law_1498 rfl).mpr ?_
      refine (zq_i2l dL_law_1500).mpr ?_
      refine (zq_lcmp dL_law_1501).mpr ?_
      refine (zq_if_eq (t := 1507) dL_law_1502 rfl).mpr ⟨fun c => ?_, fun c => ?_⟩
      · replace h := h.1 c
        refine (zq_goto (t := 1565) dL_law_1507 rfl).mpr ?_
        exact h
      · replace h := h.2 c
        refine (zq_iconst (v := 0) dL_law_1505 (by decide)).mpr ?_
        exact (zq_iret dL_law_1506 rfl).mpr ⟨Or.inl rfl, h⟩
  · replace h := h.2 c
    refine (zq_iconst (v := 0) dL_law_1488 (by decide)).mpr ?_
    exact (zq_iret dL_law_1489 rfl).mpr ⟨Or.inl rfl, h⟩
theorem bL_law_1510 {a0 : Nat} {a1 : Nat} {a2 : Nat} {a3 : Nat} {a4 : Int} {a5 : zV} {a6 : zV} {a7 : zV} {a8 : zV} (h : (mC m a1 = 11) ∧ zC xs xl d 124 [zR a1] m (fun r m1 => ∃ v2 : UInt64, r = .inl (some (zD v2)) ∧ (mC m1 a2 = 13) ∧ zC xs xl d 207 [zR a2] m1 (fun r m4 => ∃ v5 : UInt64, r = .inl (some (zD v5)) ∧ (((bDcmp v2 v5 .l) = 0 → zW xs xl d cL_law 13 (some .boolean) false [] 1565 [zE a0, zR a1, zR a2, zR a3, zI a4, zD v2, zU, zD v5, zU] [] m4 Q) ∧ (¬ ((bDcmp v2 v5 .l) = 0) → (((bDcmp v2 v2 .l) = 0 → Q (.inl (some (zI 0))) m4) ∧ (¬ ((bDcmp v2 v2 .l) = 0) → (((bDcmp v5 v5 .l) ≠ 0 → zW xs xl d cL_law 13 (some .boolean) false [] 1565 [zE a0, zR a1, zR a2, zR a3, zI a4, zD v2, zU, zD v5, zU] [] m4 Q) ∧ (¬ ((bDcmp v5 v5 .l) ≠ 0) → Q (.inl (some (zI 0))) m4))))))))) : zW xs xl d cL_law 13 (some .boolean) false [] 1510 [zE a0, zR a1, zR a2, zR a3, zI a4, a5, a6, a7, a8] [] m Q := by
  refine (zq_aload_n dL_law_1510 rfl).mpr ?_
  obtain ⟨g3, h⟩ := h
  refine zq_virtualD (n := 0) dL_law_1511 mr_13_158 zn_124 rfl rfl rfl (zrcv_R zo_124 (by decide) g3) (Nat.le_of_ble_eq_true rfl) ?_
  refine h.mono (fun r m1 h => ?_)
  obtain ⟨v2, rfl, h⟩ := h
  refine ⟨_, rfl, ?_⟩
  refine (zq_dstore (l := [zE a0, zR a1, zR a2, zR a3, zI a4, zD v2, zU, a7, a8]) dL_law_1514 (Nat.le_of_ble_eq_true rfl) rfl).mpr ?_
  refine (zq_aload_n dL_law_1516 rfl).mpr ?_
  obtain ⟨g6, h⟩ := h
  refine zq_virtualD (n := 0) dL_law_1517 mr_13_162 zn_207 rfl rfl rfl (zrcv_R zo_207 (by decide) g6) (Nat.le_of_ble_eq_true rfl) ?_
  refine h.mono (fun r m4 h => ?_)
  obtain ⟨v5, rfl, h⟩ := h
  refine ⟨_, rfl, ?_⟩
  refine (zq_dstore (l := [zE a0, zR a1, zR a2, zR a3, zI a4, zD v2, zU, zD v5, zU]) dL_law_1520 (Nat.le_of_ble_eq_true rfl) rfl).mpr ?_
  refine (zq_dload dL_law_1522 rfl).mpr ?_
  refine (zq_dload dL_law_1524 rfl).mpr ?_
  refine (zq_dcmp dL_law_1526).mpr ?_
  refine (zq_if_eq (t := 1548) dL_law_1527 rfl).mpr ⟨fun c => ?_, fun c => ?_⟩
  · replace h := h.1 c
    refine (zq_goto (t := 1565) dL_law_1548 rfl).mpr ?_
    exact h
  · replace h := h.2 c
    refine (zq_dload dL_law_1530 rfl).mpr ?_
    refine (zq_dload dL_law_1532 rfl).mpr ?_
    refine (zq_dcmp dL_law_1534).mpr ?_
    refine (zq_if_eq (t := 1546) dL_law_1535 rfl).mpr ⟨fun c => ?_, fun c => ?_⟩
    · replace h := h.1 c
      refine (zq_iconst (v := 0) dL_law_1546 (by decide)).mpr ?_
      exact (zq_iret dL_law_1547 rfl).mpr ⟨Or.inl rfl, h⟩
    · replace h := h.2 c
      refine (zq_dload dL_law_1538 rfl).mpr ?_
      refine (zq_dload dL_law_1540 rfl).mpr ?_
      refine (zq_dcmp dL_law_1542).mpr ?_
      refine (zq_if_ne (t := 1548) dL_law_1543 rfl).mpr ⟨fun c => ?_, fun c => ?_⟩
      · replace h := h.1 c
        refine (zq_goto (t := 1565) dL_law_1548 rfl).mpr ?_
        exact h
      · replace h := h.2 c
        refine (zq_iconst (v := 0) dL_law_1546 (by decide)).mpr ?_
        exact (zq_iret dL_law_1547 rfl).mpr ⟨Or.inl rfl, h⟩
theorem bL_law_1551 {a0 : Nat} {a1 : Nat} {a2 : Nat} {a3 : Nat} {a4 : Int} {a5 : zV} {a6 : zV} {a7 : zV} {a8 : zV} (h : (mC m a1 = 11) ∧ zC xs xl d 125 [zR a1] m (fun r m1 => ∃ v2 : Int, r = .inl (some (zL v2)) ∧ (mC m1 a2 = 13) ∧ zC xs xl d 208 [zR a2] m1 (fun r m4 => ∃ v5 : Int, r = .inl (some (zL v5)) ∧ (((bCmp v2 v5) = 0 → zW xs xl d cL_law 13 (some .boolean) false [] 1565 [zE a0, zR a1, zR a2, zR a3, zI a4, a5, a6, a7, a8] [] m4 Q) ∧ (¬ ((bCmp v2 v5) = 0) → Q (.inl (some (zI 0))) m4))))) : zW xs xl d cL_law 13 (some .boolean) false [] 1551 [zE a0, zR a1, zR a2, zR a3, zI a4, a5, a6, a7, a8] [] m Q := by
  refine (zq_aload_n dL_law_1551 rfl).mpr ?_
  obtain ⟨g3, h⟩ := h
  refine zq_virtualL (n := 0) dL_law_1552 mr_13_163 zn_125 rfl rfl rfl (zrcv_R zo_125 (by decide) g3) (Nat.le_of_ble_eq_true rfl) ?_
  refine h.mono (fun r m1 h => ?_)
  obtain ⟨v2, rfl, h⟩ := h
  refine ⟨_, rfl, ?_⟩
  refine (zq_aload_n dL_law_1555 rfl).mpr ?_
  obtain ⟨g6, h⟩ := h
  refine zq_virtualL (n := 0) dL_law_1556 mr_13_167 zn_208 rfl rfl rfl (zrcv_R zo_208 (by decide) g6) (Nat.le_of_ble_eq_true rfl) ?_
  refine h.mono (fun r m4 h => ?_)
  obtain ⟨v5, rfl, h⟩ := h
  refine ⟨_, rfl, ?_⟩
  refine (zq_lcmp dL_law_1559).mpr ?_
  refine (zq_if_eq (t := 1565) dL_law_1560 rfl).mpr ⟨fun c => ?_, fun c => ?_⟩
  · replace h := h.1 c
    exact h
  · replace h := h.2 c
    refine (zq_iconst (v := 0) dL_law_1563 (by decide)).mpr ?_
    exact (zq_iret dL_law_1564 rfl).mpr ⟨Or.inl rfl, h⟩
theorem bL_law_1565 {a0 : Nat} {a1 : Nat} {a2 : Nat} {a3 : Nat} {a4 : Int} {a5 : zV} {a6 : zV} {a7 : zV} {a8 : zV} (h : zW xs xl d cL_law 13 (some .boolean) false [] 23 [zE a0, zR a1, zR a2, zR a3, zI (wr (a4 + 6)), a5, a6, a7, a8] [] m Q) : zW xs xl d cL_law 13 (some .boolean) false [] 1565 [zE a0, zR a1, zR a2, zR a3, zI a4, a5, a6, a7, a8] [] m Q := by
  refine (zq_iinc (l := [zE a0, zR a1, zR a2, zR a3, zI (wr (a4 + 6)), a5, a6, a7, a8]) dL_law_1565 rfl rfl).mpr ?_
  refine (zq_goto (t := 23) dL_law_1568 rfl).mpr ?_
  exact h
end ZB10
