/-! filling an array -/
def flA (m : zM) (a : Nat) (v : Int) (n : Nat) : zM := (mI m, mR m, fun p q => if p = a ∧ q < n then v else mA m p q, mO m, mC m, mN m, mz m, mc m, mu m)
theorem flA_0 {m : zM} {a : Nat} {v : Int} : flA m a v 0 = m := by
  have e : (fun p q => if p = a ∧ q < 0 then v else mA m p q) = mA m := by funext p q; exact if_neg (fun h => by omega)
  unfold flA
  rw [e]
  rfl
theorem flA_s {m : zM} {a j : Nat} {v : Int} : sA (flA m a v j) a j v = flA m a v (j + 1) := by
  have e : up2 (mA (flA m a v j)) a j v = fun p q => if p = a ∧ q < j + 1 then v else mA m p q := by
    funext p q
    show (if p = a ∧ q = j then v else if p = a ∧ q < j then v else mA m p q) = _
    by_cases h1 : p = a ∧ q = j
    · rw [if_pos h1, if_pos ⟨h1.1, by omega⟩]
    · rw [if_neg h1]
      by_cases h2 : p = a ∧ q < j
      · rw [if_pos h2, if_pos ⟨h2.1, by omega⟩]
      · rw [if_neg h2, if_neg (fun h => by by_cases e : q = j; exact h1 ⟨h.1, e⟩; exact h2 ⟨h.1, by omega⟩)]
  unfold sA
  rw [e]
  rfl
theorem zgetF : (∀ (m : zM) (a : Nat) (v : Int) (n : Nat), mI (flA m a v n) = mI m) ∧ (∀ (m : zM) (a : Nat) (v : Int) (n : Nat), mR (flA m a v n) = mR m) ∧ (∀ (m : zM) (a : Nat) (v : Int) (n : Nat), mO (flA m a v n) = mO m) ∧ (∀ (m : zM) (a : Nat) (v : Int) (n : Nat), mC (flA m a v n) = mC m) ∧ (∀ (m : zM) (a : Nat) (v : Int) (n : Nat), mN (flA m a v n) = mN m) ∧ (∀ (m : zM) (a : Nat) (v : Int) (n : Nat), mz (flA m a v n) = mz m) ∧ (∀ (m : zM) (a : Nat) (v : Int) (n : Nat), mc (flA m a v n) = mc m) ∧ (∀ (m : zM) (a : Nat) (v : Int) (n : Nat), mu (flA m a v n) = mu m) ∧ (∀ (m : zM) (a : Nat) (v : Int) (n p q : Nat), mA (flA m a v n) p q = if p = a ∧ q < n then v else mA m p q) :=
  ⟨fun _ _ _ _ => rfl, fun _ _ _ _ => rfl, fun _ _ _ _ => rfl, fun _ _ _ _ => rfl, fun _ _ _ _ => rfl, fun _ _ _ _ => rfl, fun _ _ _ _ => rfl, fun _ _ _ _ => rfl, fun _ _ _ _ _ _ => rfl⟩
theorem Fr.flA {S : Nat → Prop} {k u : Nat} {m m1 : zM} {a n : Nat} {v : Int} (h : Fr S k u m m1) (ha : S a) : Fr S k u m (flA m1 a v n) := ⟨fun b hb hs => (h.1 b hb hs).tr ⟨fun _ => Eq.refl _, fun _ => Eq.refl _, fun g => if_neg (fun q : b = a ∧ g < n => hs (by rw [q.1]; exact ha)), fun _ => Eq.refl _, Eq.refl _, Eq.refl _⟩, h.2⟩
section ZPC
variable {xs : Nat → Int} {xl d : Nat} {m : zM} {Q : zRes → zM → Prop}
theorem C_fill {a n : Nat} {v : Int} (hC : mC m a = 20) (hN : mN m a = n) (hn : n < 2147483648) (hQ : Q (.inl none) (flA m a v n)) : zC xs xl (d + 1) 221 [zR a, zI v] m Q := by
  have hl : ∀ (k j : Nat), j + k = n → zW xs xl d cJ7_fill_53178 19 (none) false [] 5 [zR a, zI v, zI j, zI n] [] (flA m a v j) Q := by
    intro k
    induction k with
    | zero =>
      intro j hj
      refine bJ7_fill_53178_5 ⟨fun _ => ?_, fun c => absurd ?_ c⟩
      · have : j = n := by omega
        rw [this]; exact hQ
      · omega
    | succ k ih =>
      intro j hj
      refine bJ7_fill_53178_5 ⟨fun c => absurd c (by omega), fun _ => ⟨⟨by omega, ?_⟩, hC, ?_⟩⟩
      · show (j : Int) < mN m a
        omega
      · have e1 : wr ((j : Int) + 1) = ((j + 1 : Nat) : Int) := by rw [wr_id (by omega) (by omega)]; omega
        rw [e1, Int.toNat_natCast, flA_s]
        exact ih (j + 1) (by omega)
  refine bJ7_fill_53178_0 ⟨by omega, ?_⟩
  rw [hN, wr_id (by omega) (by omega)]
  have := hl n 0 (by omega)
  rw [flA_0] at this
  exact this
theorem C_isBelow {a b : Int} (hQ : Q (.inl (some (zI (if 0 ≤ a ∧ a < b then 1 else 0)))) m) : zC xs xl (d + 1) 127 [zI a, zI b] m Q := by
  refine bX10_isBelow_0 ⟨fun c => ?_, fun c => ⟨fun c2 => ?_, fun c2 => ?_⟩⟩
  · rwa [if_neg (by omega)] at hQ
  · rwa [if_neg (by omega)] at hQ
  · rwa [if_pos (by omega)] at hQ
/-- nearer, where nothing overflows -/
def nearF (a b c : Int) : Int := if (if 0 ≤ b - a then b - a else a - b) ≤ c then b else if a < b then a + c else a - c
theorem C_nearer {a b c : Int} (ha : -1000000 ≤ a ∧ a ≤ 1000000) (hb : -1000000 ≤ b ∧ b ≤ 1000000) (hc : -1000000 ≤ c ∧ c ≤ 1000000) (hQ : Q (.inl (some (zI (nearF a b c)))) m) : zC xs xl (d + 1) 128 [zI a, zI b, zI c] m Q := by
  have e1 : wr (b - a) = b - a := wr_id (by omega) (by omega)
  have e2 : wr (0 - (b - a)) = a - b := by rw [wr_id (by omega) (by omega)]; omega
  have e3 : wr (a - c) = a - c := wr_id (by omega) (by omega)
  have e4 : wr (a + c) = a + c := wr_id (by omega) (by omega)
  unfold nearF at hQ
  refine bX10_nearer_0 ⟨fun k => ⟨fun k2 => ?_, fun k2 => ?_⟩, fun k => ?_⟩
  · rw [e1, e2] at k
    rw [if_neg (by omega), if_neg (by omega)] at hQ
    rw [e3]; exact hQ
  · rw [e1, e2] at k
    rw [if_neg (by omega), if_pos (by omega)] at hQ
    rw [e4]; exact hQ
  · rw [e1, e2] at k
    rw [if_pos (by omega)] at hQ
    exact hQ
/-! the piece: its place is a, its bends a + 1, its targets a + 2 -/
def Pc (m : zM) (a : Nat) (x : Nat → Int) : Prop := (mC m a = 3 ∧ mR m 133 a = a + 1 ∧ mR m 134 a = a + 2 ∧ mC m (a + 1) = 20 ∧ mC m (a + 2) = 20 ∧ mN m (a + 1) = 3 ∧ mN m (a + 2) = 3) ∧ (mI m 128 a = x 5 ∧ mI m 129 a = x 18 ∧ mI m 130 a = x 6 ∧ mI m 131 a = x 7 ∧ mI m 132 a = x 8) ∧ (mA m (a + 1) 0 = x 20 ∧ mA m (a + 1) 1 = x 21 ∧ mA m (a + 1) 2 = x 22) ∧ (mA m (a + 2) 0 = x 23 ∧ mA m (a + 2) 1 = x 24 ∧ mA m (a + 2) 2 = x 25)
theorem Pc.mv {m m' : zM} {a : Nat} {x : Nat → Int} (h : Pc m a x) (e0 : Eqv m m' a) (e1 : Eqv m m' (a + 1)) (e2 : Eqv m m' (a + 2)) : Pc m' a x := by
  unfold Pc
  simp only [e0.1, e0.2.1, e0.2.2.2.2.1, e1.2.2.1, e1.2.2.2.2.1, e1.2.2.2.2.2, e2.2.2.1, e2.2.2.2.2.1, e2.2.2.2.2.2]
  exact h
def pcOk (x : Nat → Int) : Prop := (0 ≤ x 6 ∧ x 6 ≤ 100) ∧ (0 ≤ x 7 ∧ x 7 ≤ 200)
def coolF (x : Nat → Int) (b : Int) : Nat → Int := up1 x 7 (if 20 < x 7 - b then x 7 - b else 20)
def dryF (x : Nat → Int) (b : Int) : Nat → Int := up1 x 6 (if 0 < x 6 - b then x 6 - b else 0)
def soakF (x : Nat → Int) : Nat → Int := coolF (up1 x 6 (if x 6 + 8 < 100 then x 6 + 8 else 100)) 10
def warmF (x : Nat → Int) : Nat → Int := dryF (up1 x 7 (if x 7 + 25 < 200 then x 7 + 25 else 200)) 3
def settleF (x : Nat → Int) : Nat → Int := coolF (dryF x 4) 15
def appearF (x : Nat → Int) (w t : Int) : Nat → Int := up1 (up1 (up1 (up1 x 5 1) 18 w) 6 t) 7 20
def vanishF (x : Nat → Int) : Nat → Int := fun k => if (5 ≤ k ∧ k ≤ 8) ∨ k = 18 ∨ (20 ≤ k ∧ k ≤ 25) then 0 else x k
theorem C_cool {a : Nat} {x : Nat → Int} {b : Int} (h : Pc m a x) (hx : pcOk x) (hb : 0 ≤ b ∧ b ≤ 100) (hQ : ∀ m', Pc m' a (coolF x b) → Fr (rg a (a + 3)) 0 0 m m' → Q (.inl none) m') : zC xs xl (d + 1) 24 [zR a, zI b] m Q := by
  refine bX2_cool_0 ⟨h.1.1, hQ _ ?_ (Fr.rfl.sI (by unfold rg; omega))⟩
  have e : wr (mI m 131 a - b) = x 7 - b := by rw [h.2.1.2.2.2.1]; unfold pcOk at hx; exact wr_id (by omega) (by omega)
  rw [e]
  unfold Pc at h ⊢
  simp [zget, coolF, up1, h]
theorem C_dry {a : Nat} {x : Nat → Int} {b : Int} (h : Pc m a x) (hx : pcOk x) (hb : 0 ≤ b ∧ b ≤ 100) (hQ : ∀ m', Pc m' a (dryF x b) → Fr (rg a (a + 3)) 0 0 m m' → Q (.inl none) m') : zC xs xl (d + 1) 25 [zR a, zI b] m Q := by
  refine bX2_dry_0 ⟨h.1.1, hQ _ ?_ (Fr.rfl.sI (by unfold rg; omega))⟩
  have e : wr (mI m 130 a - b) = x 6 - b := by rw [h.2.1.2.2.1]; unfold pcOk at hx; exact wr_id (by omega) (by omega)
  rw [e]
  unfold Pc at h ⊢
  simp [zget, dryF, up1, h]
theorem coolF_ok {x : Nat → Int} {b : Int} (h : pcOk x) (hb : 0 ≤ b) : pcOk (coolF x b) := by
  unfold pcOk coolF up1 at *
  simp
  split <;> omega
theorem dryF_ok {x : Nat → Int} {b : Int} (h : pcOk x) (hb : 0 ≤ b) : pcOk (dryF x b) := by
  unfold pcOk dryF up1 at *
  simp
  split <;> omega
theorem C_soak {a : Nat} {x : Nat → Int} (h : Pc m a x) (hx : pcOk x) (hQ : ∀ m', Pc m' a (soakF x) → Fr (rg a (a + 3)) 0 0 m m' → Q (.inl none) m') : zC xs xl (d + 2) 20 [zR a] m Q := by
  refine bX2_soak_0 ⟨h.1.1, C_cool (x := up1 x 6 (if x 6 + 8 < 100 then x 6 + 8 else 100)) ?_ ?_ (by omega) (fun m' h1 h2 => ⟨rfl, hQ m' h1 ?_⟩)⟩
  · have e : wr (mI m 130 a + 8) = x 6 + 8 := by rw [h.2.1.2.2.1]; unfold pcOk at hx; exact wr_id (by omega) (by omega)
    rw [e]
    unfold Pc at h ⊢
    simp [zget, up1, h]
  · unfold pcOk up1 at *
    simp
    split <;> omega
  · exact (Fr.rfl.sI (by unfold rg; omega)).tr0 h2
theorem C_warm {a : Nat} {x : Nat → Int} (h : Pc m a x) (hx : pcOk x) (hQ : ∀ m', Pc m' a (warmF x) → Fr (rg a (a + 3)) 0 0 m m' → Q (.inl none) m') : zC xs xl (d + 2) 21 [zR a] m Q := by
  refine bX2_warm_0 ⟨h.1.1, C_dry (x := up1 x 7 (if x 7 + 25 < 200 then x 7 + 25 else 200)) ?_ ?_ (by omega) (fun m' h1 h2 => ⟨rfl, hQ m' h1 ?_⟩)⟩
  · have e : wr (mI m 131 a + 25) = x 7 + 25 := by rw [h.2.1.2.2.2.1]; unfold pcOk at hx; exact wr_id (by omega) (by omega)
    rw [e]
    unfold Pc at h ⊢
    simp [zget, up1, h]
  · unfold pcOk up1 at *
    simp
    split <;> omega
  · exact (Fr.rfl.sI (by unfold rg; omega)).tr0 h2
theorem C_settle {a : Nat} {x : Nat → Int} (h : Pc m a x) (hx : pcOk x) (hQ : ∀ m', Pc m' a (settleF x) → Fr (rg a (a + 3)) 0 0 m m' → Q (.inl none) m') : zC xs xl (d + 2) 23 [zR a] m Q :=
  bX2_settle_0 ⟨h.1.1, C_dry h hx (by omega) (fun m1 h1 f1 => ⟨rfl, h1.1.1, C_cool h1 (dryF_ok hx (by omega)) (by omega) (fun m2 h2 f2 => ⟨rfl, hQ m2 h2 (f1.tr0 f2)⟩)⟩)⟩
theorem C_isBurning {a : Nat} {x : Nat → Int} (h : Pc m a x) (hQ : Q (.inl (some (zI (if 150 < x 7 ∧ x 6 < 10 then 1 else 0)))) m) : zC xs xl (d + 1) 22 [zR a] m Q := by
  rw [← h.2.1.2.2.2.1, ← h.2.1.2.2.1] at hQ
  refine bX2_isBurning_0 ⟨h.1.1, fun c => ?_, fun c => ⟨fun c2 => ?_, fun c2 => ?_⟩⟩
  · rwa [if_neg (by omega)] at hQ
  · rwa [if_neg (by omega)] at hQ
  · rwa [if_pos (by omega)] at hQ
theorem C_appear {a : Nat} {x : Nat → Int} {w t : Int} (h : Pc m a x) (hQ : ∀ m', Pc m' a (appearF x w t) → Fr (rg a (a + 3)) 0 0 m m' → Q (.inl none) m') : zC xs xl (d + 1) 18 [zR a, zI w, zI t] m Q := by
  have hr : rg a (a + 3) a := by unfold rg; omega
  refine bX2_appear_0 ⟨h.1.1, hQ _ ?_ ((((Fr.rfl.sI hr).sI hr).sI hr).sI hr)⟩
  unfold Pc at h ⊢
  simp [zget, appearF, up1, h]
theorem C_vanish {a : Nat} {x : Nat → Int} (h : Pc m a x) (hQ : ∀ m', Pc m' a (vanishF x) → Fr (rg a (a + 3)) 0 0 m m' → Q (.inl none) m') : zC xs xl (d + 2) 19 [zR a] m Q := by
  have hr : rg a (a + 3) a := by unfold rg; omega
  have g := h
  unfold Pc at g
  obtain ⟨⟨g1, g2, g3, g4, g5, g6, g7⟩, -⟩ := g
  refine bX2_vanish_0 ⟨h.1.1, ?_⟩
  rw [g2]
  refine C_fill (n := 3) (by simpa [zget] using g4) (by simpa [zget] using g6) (by omega) ⟨rfl, by simpa [zget, zgetF] using g1, ?_⟩
  have e : mR (flA (sI (sI (sI (sI (sI m 128 a 0) 129 a 0) 130 a 0) 131 a 0) 132 a 0) (a + 1) 0 3) 134 a = a + 2 := g3
  rw [e]
  refine C_fill (n := 3) (by simpa [zget, zgetF] using g5) (by simpa [zget, zgetF] using g7) (by omega) ⟨rfl, hQ _ ?_ ?_⟩
  · unfold Pc
    simp [zget, zgetF, vanishF, g1, g2, g3, g4, g5, g6, g7]
  · exact ((((((Fr.rfl.sI hr).sI hr).sI hr).sI hr).sI hr).flA (by unfold rg; omega)).flA (by unfold rg; omega)
end ZPC
