section ZPF
variable {xs : Nat → Int} {xl d : Nat} {m : zM} {Q : zRes → zM → Prop}
theorem C_spring1 {a j : Nat} {x : Nat → Int} {c : Int} (h : Pc m a x) (hx : pcOk x) (hb : pbOk x) (hc : 0 ≤ c ∧ c ≤ 1000) (hj : j = 0 ∨ j = 1 ∨ j = 2) (hQ : ∀ m', Pc m' a (up1 x (20 + j) (springB x (20 + j))) → Fr (rg a (a + 3)) 0 0 m m' → zW xs xl d cX2_springBack 2 (some .int) false [] 4 [zR a, zI (c + absF (x (23 + j) - springB x (20 + j))), zI ((j + 1 : Nat) : Int)] [] m' Q) : zW xs xl d cX2_springBack 2 (some .int) false [] 4 [zR a, zI c, zI (j : Int)] [] m Q := by
  have g0 := h
  unfold Pc at g0
  obtain ⟨⟨g1, g2, g3, g4, g5, g6, g7⟩, i0, ⟨b0, b1, b2⟩, t0, t1, t2⟩ := g0
  have hk : 0 ≤ x (20 + j) ∧ x (20 + j) ≤ 40 := hb _ (by omega) (by omega)
  have hy : 0 ≤ x (23 + j) ∧ x (23 + j) ≤ 40 := hb _ (by omega) (by omega)
  have hs := springB_in hx hb (k := 20 + j) (by omega) (by omega)
  have eb : mA m (a + 1) j = x (20 + j) := by rcases hj with rfl | rfl | rfl <;> assumption
  have et : ∀ v, mA (sA m (a + 1) j v) (a + 2) j = x (23 + j) := fun v => by
    rw [zm_Aa (by omega)]
    rcases hj with rfl | rfl | rfl <;> assumption
  have hx' := hx
  unfold pcOk at hx'
  have p0 : 0 ≤ x (20 + j) * x 6 := Int.mul_nonneg hk.1 hx'.1.1
  have p1 : x (20 + j) * x 6 ≤ x (20 + j) * 100 := Int.mul_le_mul_of_nonneg_left hx'.1.2 hk.1
  have e1 : wr (x (20 + j) * x 6) = x (20 + j) * x 6 := wr_id (by omega) (by omega)
  have p2 : 0 ≤ Int.tdiv (x (20 + j) * x 6) 200 ∧ Int.tdiv (x (20 + j) * x 6) 200 ≤ 40 := by
    rw [Int.tdiv_eq_ediv_of_nonneg p0]
    omega
  have e2 : wr (Int.tdiv (x (20 + j) * x 6) 200) = Int.tdiv (x (20 + j) * x 6) 200 := wr_id (by omega) (by omega)
  have e3 : wr (x (20 + j) - Int.tdiv (x (20 + j) * x 6) 200) = springB x (20 + j) := by unfold springB at *; exact wr_id (by omega) (by omega)
  have e4 : wr (x (23 + j) - springB x (20 + j)) = x (23 + j) - springB x (20 + j) := wr_id (by omega) (by omega)
  have e5 : wr (0 - (x (23 + j) - springB x (20 + j))) = -(x (23 + j) - springB x (20 + j)) := by rw [wr_id (by omega) (by omega)]; omega
  refine bX2_springBack_4 ⟨fun c => absurd c (by omega), fun _ => ⟨g1, by rw [g2]; exact g4, by rw [g2, g6]; omega, by rw [g3]; exact g5, by rw [g3, g7]; omega, ?_⟩⟩
  rw [g2, g3, Int.toNat_natCast, eb, i0.2.2.1, e1, e2, e3, et, e4, e5]
  have e6 : wr (c + (if 0 ≤ x (23 + j) - springB x (20 + j) then x (23 + j) - springB x (20 + j) else -(x (23 + j) - springB x (20 + j)))) = c + absF (x (23 + j) - springB x (20 + j)) := by
    unfold absF
    rw [wr_id] <;> split <;> omega
  have e7 : wr ((j : Int) + 1) = ((j + 1 : Nat) : Int) := by rw [wr_id (by omega) (by omega)]; omega
  rw [e6, e7]
  refine hQ _ ?_ (Fr.rfl.sA (by unfold rg; omega))
  unfold Pc
  rcases hj with rfl | rfl | rfl <;> simp [zget, up1, g1, g2, g3, g4, g5, g6, g7, i0, b0, b1, b2, t0, t1, t2]
theorem absF_in {a : Int} (h : -40 ≤ a ∧ a ≤ 40) : 0 ≤ absF a ∧ absF a ≤ 40 := by unfold absF; split <;> omega
theorem C_springBack {a : Nat} {x : Nat → Int} (h : Pc m a x) (hx : pcOk x) (hb : pbOk x) (hQ : ∀ m', Pc m' a (springF x) → Fr (rg a (a + 3)) 0 0 m m' → Q (.inl (some (zI (springS x)))) m') : zC xs xl (d + 1) 29 [zR a] m Q := by
  have hs : ∀ k, 20 ≤ k → k ≤ 22 → 0 ≤ springB x k ∧ springB x k ≤ 40 := fun k h1 h2 => springB_in hx hb h1 (by omega)
  have hy : ∀ k, 20 ≤ k → k ≤ 22 → -40 ≤ x (3 + k) - springB x k ∧ x (3 + k) - springB x k ≤ 40 := fun k h1 h2 => by
    have := hs k h1 h2
    have := hb (3 + k) (by omega) (by omega)
    omega
  have s0 := absF_in (hy 20 (by omega) (by omega))
  have s1 := absF_in (hy 21 (by omega) (by omega))
  refine bX2_springBack_0 (C_spring1 (j := 0) h hx hb (by omega) (by omega) (fun m1 h1 f1 => ?_))
  have e1 : up1 x (20 + 0) (springB x (20 + 0)) = up1 x 20 (springB x 20) := rfl
  rw [e1] at h1
  have hx1 : pcOk (up1 x 20 (springB x 20)) := by unfold pcOk at *; simpa [up1] using hx
  have hb1 : pbOk (up1 x 20 (springB x 20)) := fun k k1 k2 => by
    unfold up1
    split
    · exact hs 20 (by omega) (by omega)
    · exact hb k k1 k2
  refine C_spring1 (j := 1) h1 hx1 hb1 (by show 0 ≤ (0 : Int) + absF (x (3 + 20) - springB x 20) ∧ (0 : Int) + absF (x (3 + 20) - springB x 20) ≤ 1000; omega) (by omega) (fun m2 h2 f2 => ?_)
  have e2 : up1 (up1 x 20 (springB x 20)) (20 + 1) (springB (up1 x 20 (springB x 20)) (20 + 1)) = up1 (up1 x 20 (springB x 20)) 21 (springB x 21) := by simp [up1, springB]
  rw [e2] at h2
  have hx2 : pcOk (up1 (up1 x 20 (springB x 20)) 21 (springB x 21)) := by unfold pcOk at *; simpa [up1] using hx
  have hb2 : pbOk (up1 (up1 x 20 (springB x 20)) 21 (springB x 21)) := fun k k1 k2 => by
    unfold up1
    split
    · exact hs 21 (by omega) (by omega)
    · split
      · exact hs 20 (by omega) (by omega)
      · exact hb k k1 k2
  have q1 : up1 x 20 (springB x 20) (23 + 1) - springB (up1 x 20 (springB x 20)) (20 + 1) = x (3 + 21) - springB x 21 := by simp [up1, springB]
  have q0 : x (23 + 0) - springB x (20 + 0) = x (3 + 20) - springB x 20 := rfl
  rw [q0, q1]
  refine C_spring1 (j := 2) h2 hx2 hb2 (by omega) (by omega) (fun m3 h3 f3 => ?_)
  have e3 : up1 (up1 (up1 x 20 (springB x 20)) 21 (springB x 21)) (20 + 2) (springB (up1 (up1 x 20 (springB x 20)) 21 (springB x 21)) (20 + 2)) = springF x := by simp [up1, springB, springF]
  rw [e3] at h3
  have q2 : up1 (up1 x 20 (springB x 20)) 21 (springB x 21) (23 + 2) - springB (up1 (up1 x 20 (springB x 20)) 21 (springB x 21)) (20 + 2) = x (3 + 22) - springB x 22 := by simp [up1, springB]
  rw [q2]
  refine bX2_springBack_4 ⟨fun _ => ?_, fun c => absurd (by decide) c⟩
  have e : (0 : Int) + absF (x (3 + 20) - springB x 20) + absF (x (3 + 21) - springB x 21) + absF (x (3 + 22) - springB x 22) = springS x := by unfold springS; simp
  rw [e]
  exact hQ _ h3 ((f1.tr0 f2).tr0 f3)
/-- a piece becomes another one's copy -/
theorem C_pcCopy {a b : Nat} {x y : Nat → Int} (h : Pc m a x) (g : Pc m b y) (hab : a + 3 ≤ b ∨ b + 3 ≤ a) (h5 : y 5 = 0 ∨ y 5 = 1) (hQ : ∀ m', Pc m' a y → Fr (rg a (a + 3)) 0 0 m m' → Q (.inl none) m') : zC xs xl (d + 1) 30 [zR a, zR b] m Q := by
  have h0 := h
  have k0 := g
  unfold Pc at h0 k0
  obtain ⟨⟨h1, h2, h3, h4, h6, h7, h8⟩, -⟩ := h0
  obtain ⟨⟨g1, g2, g3, g4, g6, g7, g8⟩, ⟨i0, i1, i2, i3, i4⟩, ⟨b0, b1, b2⟩, t0, t1, t2⟩ := k0
  have hr : rg a (a + 3) a := by unfold rg; omega
  refine bX2_copyFrom_0 ⟨g1, h1, by rw [i0]; exact h5, ?_⟩
  rw [g2, g3, h2, h3, i0, i1, i2, i3, i4]
  refine ⟨⟨by omega, by omega, by omega, by rw [g7]; decide, by rw [h7]; decide, by rw [g4, h4], Or.inl g4, by omega⟩, ⟨by omega, by omega, by omega, by rw [g8]; decide, by rw [h8]; decide, by rw [g6, h6], Or.inl g6, by omega⟩, ?_⟩
  refine hQ _ ?_ (((((((Fr.rfl.sI hr).sI hr).sI hr).sI hr).sI hr).cpA (by unfold rg; omega)).cpA (by unfold rg; omega))
  have n1 : ¬ b + 1 = a + 1 := by omega
  have n2 : ¬ b + 2 = a + 1 := by omega
  have n3 : ¬ b + 2 = a + 2 := by omega
  have n4 : ¬ b = a := by omega
  unfold Pc
  simp [zget, h1, h2, h3, h4, h6, h7, h8, b0, b1, b2, t0, t1, t2, n1, n2, n3, n4]
end ZPF
