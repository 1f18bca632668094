/-! the piece: bending, springing back, copying -/
def pbOk (x : Nat → Int) : Prop := ∀ k, 20 ≤ k → k ≤ 25 → 0 ≤ x k ∧ x k ≤ 40
def stiffF (w : Int) : Int := if w = 0 then 8 else if w = 1 then 6 else if w = 2 then 5 else 4
abbrev meantF (x : Nat → Int) : Prop := x 20 = x 23 ∧ x 21 = x 24 ∧ x 22 = x 25
def tgtF (x : Nat → Int) (f s t : Int) : Nat → Int := up1 (up1 (up1 x 23 f) 24 s) 25 t
def stepF (x : Nat → Int) : Int := Int.tdiv (x 7 * (x 6 + 20)) (100 * stiffF (x 18))
def nearB (x : Nat → Int) (g : Int) : Nat → Int := up1 (up1 (up1 x 20 (nearF (x 20) (x 23) g)) 21 (nearF (x 21) (x 24) g)) 22 (nearF (x 22) (x 25) g)
/-- what bending comes to: 2 the piece is lost; else the piece after the tick -/
def bendR (x : Nat → Int) (f s t : Int) : Int × (Nat → Int) :=
  if stepF x = 0 ∧ ¬ meantF (tgtF x f s t) then
    (if x 8 + 1 < 3 then ((if meantF (tgtF x f s t) then 1 else 0), dryF (coolF (up1 (tgtF x f s t) 8 (x 8 + 1)) 10) 1) else (2, up1 (tgtF x f s t) 8 (x 8 + 1)))
  else ((if meantF (nearB (tgtF x f s t) (stepF x)) then 1 else 0), dryF (coolF (nearB (tgtF x f s t) (stepF x)) 10) 1)
theorem nearF_in {a b c : Int} (ha : 0 ≤ a ∧ a ≤ 40) (hb : 0 ≤ b ∧ b ≤ 40) (hc : 0 ≤ c) : 0 ≤ nearF a b c ∧ nearF a b c ≤ 40 := by
  unfold nearF
  split <;> split <;> (try split) <;> omega
theorem tdiv_in {a b n : Int} (ha : 0 ≤ a ∧ a ≤ n) (hb : 0 < b) : 0 ≤ Int.tdiv a b ∧ Int.tdiv a b ≤ n := by
  rw [Int.tdiv_eq_ediv_of_nonneg ha.1]
  refine ⟨Int.ediv_nonneg ha.1 (by omega), ?_⟩
  exact Int.le_trans (Int.ediv_le_self _ ha.1) ha.2
theorem stiffF_in (w : Int) : 4 ≤ stiffF w ∧ stiffF w ≤ 8 := by
  unfold stiffF
  split
  · omega
  · split
    · omega
    · split <;> omega
theorem pcmul {x : Nat → Int} (hx : pcOk x) : 0 ≤ x 7 * (x 6 + 20) ∧ x 7 * (x 6 + 20) ≤ 24000 := by
  unfold pcOk at hx
  refine ⟨Int.mul_nonneg hx.2.1 (by omega), ?_⟩
  have h1 : x 7 * (x 6 + 20) ≤ 200 * (x 6 + 20) := Int.mul_le_mul_of_nonneg_right hx.2.2 (by omega)
  omega
theorem stepF_in {x : Nat → Int} (hx : pcOk x) : 0 ≤ stepF x ∧ stepF x ≤ 24000 := tdiv_in (pcmul hx) (by have := stiffF_in (x 18); omega)
section ZPD
variable {xs : Nat → Int} {xl d : Nat} {m : zM} {Q : zRes → zM → Prop}
theorem C_stiffness {a : Nat} {x : Nat → Int} (h : Pc m a x) (hQ : Q (.inl (some (zI (stiffF (x 18))))) m) : zC xs xl (d + 1) 27 [zR a] m Q := by
  rw [← h.2.1.2.1] at hQ
  unfold stiffF at hQ
  refine bX2_stiffness_0 ⟨h.1.1, fun c => ?_, fun c => ⟨fun c2 => ?_, fun c2 => ⟨fun c3 => ?_, fun c3 => ?_⟩⟩⟩
  · rwa [if_pos c] at hQ
  · rwa [if_neg c, if_pos c2] at hQ
  · rwa [if_neg c, if_neg c2, if_pos c3] at hQ
  · rwa [if_neg c, if_neg c2, if_neg c3] at hQ
theorem C_isAsMeant {a : Nat} {x : Nat → Int} (h : Pc m a x) (hQ : Q (.inl (some (zI (if meantF x then 1 else 0)))) m) : zC xs xl (d + 1) 28 [zR a] m Q := by
  have g := h
  unfold Pc at g
  obtain ⟨⟨g1, g2, g3, g4, g5, g6, g7⟩, -, ⟨b0, b1, b2⟩, t0, t1, t2⟩ := g
  have e1 : wr (0 + 1) = 1 := by decide
  have e2 : wr (1 + 1) = 2 := by decide
  have e3 : wr (2 + 1) = 3 := by decide
  refine bX2_isAsMeant_0 (bX2_isAsMeant_2 ⟨fun c => absurd c (by decide), fun _ => ⟨g1, by rw [g2]; exact g4, by rw [g2, g6]; decide, by rw [g3]; exact g5, by rw [g3, g7]; decide, ?_⟩⟩)
  rw [g2, g3, show Int.toNat 0 = 0 from rfl, b0, t0, e1]
  refine ⟨fun q0 => bX2_isAsMeant_2 ⟨fun c => absurd c (by decide), fun _ => ⟨g1, by rw [g2]; exact g4, by rw [g2, g6]; decide, by rw [g3]; exact g5, by rw [g3, g7]; decide, ?_⟩⟩, fun q0 => ?_⟩
  · rw [g2, g3, show Int.toNat 1 = 1 from rfl, b1, t1, e2]
    refine ⟨fun q1 => bX2_isAsMeant_2 ⟨fun c => absurd c (by decide), fun _ => ⟨g1, by rw [g2]; exact g4, by rw [g2, g6]; decide, by rw [g3]; exact g5, by rw [g3, g7]; decide, ?_⟩⟩, fun q1 => ?_⟩
    · rw [g2, g3, show Int.toNat 2 = 2 from rfl, b2, t2, e3]
      refine ⟨fun q2 => bX2_isAsMeant_2 ⟨fun _ => ?_, fun c => absurd (by decide) c⟩, fun q2 => ?_⟩
      · rwa [if_pos ⟨q0, q1, q2⟩] at hQ
      · rwa [if_neg (fun q => q2 q.2.2)] at hQ
    · rwa [if_neg (fun q => q1 q.2.1)] at hQ
  · rwa [if_neg (fun q => q0 q.1)] at hQ
/-- one of the three bends comes nearer -/
theorem C_bend1 {a ac j : Nat} {x : Nat → Int} {g : Int} (h : Pc m a x) (hb : pbOk x) (hg : 0 ≤ g ∧ g ≤ 24000) (hj : j = 0 ∨ j = 1 ∨ j = 2) (hQ : ∀ m', Pc m' a (up1 x (20 + j) (nearF (x (20 + j)) (x (23 + j)) g)) → Fr (rg a (a + 3)) 0 0 m m' → zW xs xl (d + 1) cX2_bendTowards 2 (some .int) false [] 84 [zR a, zR ac, zI g, zI ((j + 1 : Nat) : Int)] [] m' Q) : zW xs xl (d + 1) cX2_bendTowards 2 (some .int) false [] 84 [zR a, zR ac, zI g, zI (j : Int)] [] m Q := by
  have g0 := h
  unfold Pc at g0
  obtain ⟨⟨g1, g2, g3, g4, g5, g6, g7⟩, i0, ⟨b0, b1, b2⟩, t0, t1, t2⟩ := g0
  have hx : 0 ≤ x (20 + j) ∧ x (20 + j) ≤ 40 := hb _ (by omega) (by omega)
  have hy : 0 ≤ x (23 + j) ∧ x (23 + j) ≤ 40 := hb _ (by omega) (by omega)
  have eb : mA m (a + 1) j = x (20 + j) := by rcases hj with rfl | rfl | rfl <;> assumption
  have et : mA m (a + 2) j = x (23 + j) := by rcases hj with rfl | rfl | rfl <;> assumption
  refine bX2_bendTowards_84 ⟨fun c => absurd c (by omega), fun _ => ⟨g1, by rw [g2]; exact g4, by rw [g2, g6]; omega, by rw [g3]; exact g5, by rw [g3, g7]; omega, ?_⟩⟩
  rw [g2, g3, Int.toNat_natCast, eb, et]
  refine C_nearer (by omega) (by omega) (by omega) ⟨_, rfl, by rw [g6]; omega, g4, ?_⟩
  have e1 : wr ((j : Int) + 1) = ((j + 1 : Nat) : Int) := by rw [wr_id (by omega) (by omega)]; omega
  rw [e1]
  refine hQ _ ?_ (Fr.rfl.sA (by unfold rg; omega))
  unfold Pc
  rcases hj with rfl | rfl | rfl <;> simp [zget, up1, g1, g2, g3, g4, g5, g6, g7, i0, b0, b1, b2, t0, t1, t2]
end ZPD
