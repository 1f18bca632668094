/-! the tables' words, by their places -/
def ztb (k : Nat) : List Jvm.Cond := match k with
  | 0 => k2_sels lw_privs
  | 1 => tables_1_1
  | 2 => tables_1_2
  | 3 => tables_1_3
  | 4 => tables_1_4
  | 5 => tables_1_5
  | 6 => tables_1_6
  | 7 => tables_1_7
  | 8 => tables_1_8
  | _ => []
theorem ztb_in {k : Nat} {w : Jvm.Cond} (h : w ∈ ztb k) : w ∈ lw_tbl := by
  have ht : (w ∈ tables_1_1 ∨ w ∈ tables_1_2 ∨ w ∈ tables_1_3 ∨ w ∈ tables_1_4 ∨ w ∈ tables_1_5 ∨ w ∈ tables_1_6 ∨ w ∈ tables_1_7 ∨ w ∈ tables_1_8) → w ∈ lw_tbl := fun h => by
    refine List.mem_append_right _ ?_
    show w ∈ tables_1_1 ++ (tables_1_2 ++ (tables_1_3 ++ (tables_1_4 ++ (tables_1_5 ++ (tables_1_6 ++ (tables_1_7 ++ tables_1_8))))))
    simp only [List.mem_append]
    exact h
  match k, h with
  | 0, h => exact List.mem_append_left _ h
  | 1, h => exact ht (Or.inl h)
  | 2, h => exact ht (Or.inr (Or.inl h))
  | 3, h => exact ht (Or.inr (Or.inr (Or.inl h)))
  | 4, h => exact ht (Or.inr (Or.inr (Or.inr (Or.inl h))))
  | 5, h => exact ht (Or.inr (Or.inr (Or.inr (Or.inr (Or.inl h)))))
  | 6, h => exact ht (Or.inr (Or.inr (Or.inr (Or.inr (Or.inr (Or.inl h))))))
  | 7, h => exact ht (Or.inr (Or.inr (Or.inr (Or.inr (Or.inr (Or.inr (Or.inl h)))))))
  | 8, h => exact ht (Or.inr (Or.inr (Or.inr (Or.inr (Or.inr (Or.inr (Or.inr h)))))))
  | _ + 9, h => exact absurd h List.not_mem_nil
def zp0 (k i : Nat) (w : Jvm.Cond) : Bool := goodWord w && decide ((ztb k)[i]? = some w)
def zp1 (k i : Nat) (w : Jvm.Cond) : Bool := zng w && decide ((ztb k)[i]? = some w)
theorem zp0_in {k i : Nat} {w : Jvm.Cond} (h : zp0 k i w = true) : w ∈ zT0 := by
  simp only [zp0, Bool.and_eq_true, decide_eq_true_eq] at h
  exact List.mem_filter.mpr ⟨ztb_in (List.mem_of_getElem? h.2), h.1⟩
theorem zp1_in {k i : Nat} {w : Jvm.Cond} (h : zp1 k i w = true) : w ∈ zT1 := by
  simp only [zp1, Bool.and_eq_true, decide_eq_true_eq] at h
  exact List.mem_filter.mpr ⟨ztb_in (List.mem_of_getElem? h.2), h.1⟩
theorem zlk_mem {α : Type} : ∀ {l : List (Nat × Nat × α)} {c k : Nat} {v : α}, zlk l c k = some v → (c, k, v) ∈ l
  | [], _, _, _, h => by cases h
  | q :: l, c, k, v, h => by
    unfold zlk at h
    split at h
    · rename_i hq
      cases h
      rw [← hq.1, ← hq.2]
      exact List.mem_cons_self
    · exact List.mem_cons_of_mem _ (zlk_mem h)
theorem zcl_at {ci : Nat} (h : ci < 13) : vwCl[ci]? = some (zcn ci, zT ci, zN ci) := by
  match ci, h with
  | 0, _ => rfl
  | 1, _ => rfl
  | 2, _ => rfl
  | 3, _ => rfl
  | 4, _ => rfl
  | 5, _ => rfl
  | 6, _ => rfl
  | 7, _ => rfl
  | 8, _ => rfl
  | 9, _ => rfl
  | 10, _ => rfl
  | 11, _ => rfl
  | 12, _ => rfl
theorem zty_ok {ci : Nat} (h : ci < 13) : ∀ k, k < zN ci → parseFieldDescriptor (zT ci k).2.2.1 = some (zty ci k) := by
  match ci, h with
  | 0, _ => exact tyX0_ok
  | 1, _ => exact tyX1_ok
  | 2, _ => exact tyX2_ok
  | 3, _ => exact tyX3_ok
  | 4, _ => exact tyX4_ok
  | 5, _ => exact tyX5_ok
  | 6, _ => exact tyX6_ok
  | 7, _ => exact tyX7_ok
  | 8, _ => exact tyX8_ok
  | 9, _ => exact tyX9_ok
  | 10, _ => exact tyX10_ok
  | 11, _ => exact tyX11_ok
  | 12, _ => exact tyX12_ok
theorem znm_ok {ci : Nat} (h : ci < 13) : ∀ a, a < zN ci → ∀ b, b < zN ci → a ≠ b → (zT ci a).2.1 ≠ (zT ci b).2.1 := by
  match ci, h with
  | 0, _ => exact nmX0
  | 1, _ => exact nmX1
  | 2, _ => exact nmX2
  | 3, _ => exact nmX3
  | 4, _ => exact nmX4
  | 5, _ => exact nmX5
  | 6, _ => exact nmX6
  | 7, _ => exact nmX7
  | 8, _ => exact nmX8
  | 9, _ => exact nmX9
  | 10, _ => exact nmX10
  | 11, _ => exact nmX11
  | 12, _ => exact nmX12
/-- the classes' own words (lays, laysFinal), by their places -/
def zUP : List (List (Nat × Nat)) := [[(4, 46), (4, 48), (4, 50), (4, 52)], [(1, 97), (1, 99), (1, 101), (1, 103), (1, 105), (1, 107), (1, 109), (1, 111), (1, 113), (1, 115), (1, 117)], [(1, 206), (1, 208), (1, 210), (1, 212), (1, 214), (1, 216), (1, 218)], [(2, 94), (2, 96), (2, 98), (2, 100), (2, 102)], [(1, 152), (1, 154), (1, 156), (1, 158), (1, 160)], [(1, 73), (1, 75), (1, 77), (1, 79), (1, 81)], [(2, 10), (2, 12), (2, 14), (2, 16), (2, 18), (2, 20), (2, 22), (2, 24), (2, 26), (2, 28), (2, 30), (2, 32), (2, 34), (2, 36), (2, 38), (2, 40)], [(1, 171), (1, 173), (1, 175)], [(1, 47), (1, 49)], [(2, 61), (2, 63), (2, 65), (2, 67), (2, 69), (2, 71), (2, 73), (2, 75), (2, 77)], [(2, 110), (2, 112), (2, 114), (2, 116), (2, 118)], [(6, 10), (6, 12), (6, 14), (6, 16), (6, 18), (6, 20), (6, 22), (6, 24), (6, 26), (6, 28), (6, 30), (6, 32), (6, 34), (6, 36), (6, 38), (6, 40), (6, 42), (6, 44), (6, 46), (6, 48), (6, 50), (6, 52), (6, 54), (6, 56), (6, 58), (6, 60), (6, 62), (6, 64), (6, 66), (6, 68), (6, 70), (6, 72), (6, 74), (6, 76), (6, 78), (6, 80)], [(6, 102), (6, 104), (6, 106), (6, 108), (6, 110), (6, 112), (6, 114), (6, 116), (6, 118), (6, 120), (6, 122), (6, 124), (6, 126), (6, 128), (6, 130), (6, 132), (6, 134), (6, 136)]]
set_option maxRecDepth 100000 in
theorem zu_in0 : ((List.range 13).all fun ci => (List.range (zN ci)).all fun k => zp0 ((zUP.getD ci []).getD k (99, 0)).1 ((zUP.getD ci []).getD k (99, 0)).2 (u_lay (zcn ci) (zT ci) k)) = true := by decide +kernel
theorem zu_in {ci : Nat} (h : ci < 13) : ∀ w ∈ u_ws (zcn ci) (zT ci) (zN ci), w ∈ zT0 := fun w hw => by
  obtain ⟨k, hk, rfl⟩ := List.mem_map.mp hw
  have h1 := List.all_eq_true.mp zu_in0 ci (List.mem_range.mpr h)
  exact zp0_in (List.all_eq_true.mp h1 k hk)
/-- the links of fields -/
def zfl (q : Nat × Nat × Nat × Nat × Nat × Nat × Nat) : Bool := match q with
  | (o, k, ci, j, md, a, b) => if ci < 13 then decide (j < zN ci) && decide ((zT ci j).1 = zcn ci) && (match md with
      | 0 => zp0 a b (Jvm.Cond.fieldLink (zcn o) k (zcn ci) (zT ci j).2.1 (zT ci j).2.2.1)
      | 1 => decide (o ≠ ci) && zp1 a b (Jvm.Cond.fieldLinkNest (zcn o) k (zcn ci) (zT ci j).2.1 (zT ci j).2.2.1 "BendYard")
      | _ => decide (o ≠ ci) && zp1 a b (Jvm.Cond.fieldLinkNest (zcn o) k (zcn ci) (zT ci j).2.1 (zT ci j).2.2.1 "BendYardModel"))
    else decide (ci = 14) && (match j with
      | 0 => zp0 a b (Jvm.Cond.fieldLink (zcn o) k "java/lang/String" "value" "[B")
      | _ => zp0 a b (Jvm.Cond.fieldLink (zcn o) k "java/lang/String" "coder" "B"))
set_option maxRecDepth 100000 in
theorem zfl_all : zFL.all zfl = true := by decide +kernel
theorem zFR_in {o k ci j : Nat} (h : zFR o k = some (ci, j)) : ∃ md a b, zfl (o, k, ci, j, md, a, b) = true := by
  unfold zFR at h
  cases hz : zlk zFL o k with
  | none => rw [hz] at h; cases h
  | some v =>
    obtain ⟨ci', j', md, a, b⟩ := v
    rw [hz] at h
    cases h
    exact ⟨md, a, b, List.all_eq_true.mp zfl_all _ (zlk_mem hz)⟩
theorem zFR_ok {o k ci j : Nat} (h : zFR o k = some (ci, j)) (hc : ci < 13) : j < zN ci ∧ (zT ci j).1 = zcn ci ∧ (Jvm.Cond.fieldLink (zcn o) k (zcn ci) (zT ci j).2.1 (zT ci j).2.2.1 ∈ zT0 ∨ (o ≠ ci ∧ ∃ host : String, Jvm.Cond.fieldLinkNest (zcn o) k (zcn ci) (zT ci j).2.1 (zT ci j).2.2.1 host ∈ zT1)) := by
  obtain ⟨md, a, b, h2⟩ := zFR_in h
  simp only [zfl, if_pos hc, Bool.and_eq_true, decide_eq_true_eq] at h2
  refine ⟨h2.1.1, h2.1.2, ?_⟩
  match md, h2.2 with
  | 0, g => exact Or.inl (zp0_in g)
  | 1, g => exact Or.inr ⟨of_decide_eq_true (Bool.and_eq_true_iff.mp g).1, _, zp1_in (Bool.and_eq_true_iff.mp g).2⟩
  | _ + 2, g => exact Or.inr ⟨of_decide_eq_true (Bool.and_eq_true_iff.mp g).1, _, zp1_in (Bool.and_eq_true_iff.mp g).2⟩
theorem zFR_str {o k ci j : Nat} (h : zFR o k = some (ci, j)) (hc : ci = 14) : (j = 0 ∧ Jvm.Cond.fieldLink (zcn o) k "java/lang/String" "value" "[B" ∈ zT0) ∨ (j ≠ 0 ∧ Jvm.Cond.fieldLink (zcn o) k "java/lang/String" "coder" "B" ∈ zT0) := by
  obtain ⟨md, a, b, h2⟩ := zFR_in h
  subst hc
  simp only [zfl, if_neg (by decide : ¬ (14 : Nat) < 13), Bool.and_eq_true] at h2
  match j, h2.2 with
  | 0, g => exact Or.inl ⟨rfl, zp0_in g⟩
  | _ + 1, g => exact Or.inr ⟨by omega, zp0_in g⟩
