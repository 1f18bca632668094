/-! constructors: the small ones -/
def x0F : Nat → Int := fun k => if k = 1 ∨ k = 9 ∨ k = 10 ∨ k = 14 then -1 else 0
def Y0 : zY := (fun _ => 0, 0, fun _ => (0, 0, 0, []), 0, fun _ => x0F, fun _ => [], fun _ => 0, fun _ => 0, fun _ _ => 0)
def B0 : zB := (Y0, fun _ => [], 0, fun _ => 0, -1)
theorem sl0_ok {l : List zAc} : slOk x0F l := by
  refine ⟨?_, ⟨by decide, by decide⟩, fun k h1 h2 => ?_, by decide, by decide, by decide, by decide, fun z => absurd rfl z, ⟨fun _ => ⟨rfl, rfl, rfl, fun k h1 h2 => ?_⟩, fun z => absurd rfl z⟩, fun _ => ⟨rfl, rfl, rfl, rfl⟩, fun z => absurd rfl z⟩
  · unfold flagOk; decide
  · have e : x0F k = 0 := if_neg (by omega)
    rw [e]; decide
  · exact if_neg (by omega)
theorem Y0_ok : yOk Y0 ∧ eN Y0 := by
  refine ⟨⟨⟨fun i hi => absurd hi (Nat.not_lt_zero _), Nat.zero_le _⟩, ⟨Nat.zero_le _, fun i _ => sl0_ok, fun i _ _ => rfl⟩, fun j hj => ⟨⟨Int.le_refl _, (show (0 : Int) ≤ 4 by decide)⟩, rfl⟩, Int.le_refl _⟩, fun j _ => Int.le_refl _⟩
abbrev up (a : Nat) : Nat → Prop := fun b => a ≤ b
section ZCN
variable {xs : Nat → Int} {xl d : Nat} {m : zM} {Q : zRes → zM → Prop}
theorem C_newPlank {a : Nat} (hC : mC m a = 5) (hz : mz m = a + 1) (h0 : a ≠ 0) (hQ : ∀ m', Pk m' a (0, 0, 0, []) → mz m' = a + 2 → Fr (up a) 1 8 m m' → mC m' a = 5 → Q (.inl none) m') : zC xs xl (d + 1) 35 [zR a] m Q := by
  refine bX4_init_0 ⟨h0, hC, fun m3 e3 => ?_⟩
  subst e3
  refine ⟨by simp [zget, hz, hC, Nat.add_assoc], hQ _ ⟨⟨?_, ?_, ?_, ?_, ?_⟩, ⟨?_, ?_, ?_, ?_⟩, Nat.zero_le _, fun i k hk => absurd hk (by simp)⟩ ?_ ?_ ?_⟩
  all_goals first | (simp [zget, hz, hC, Nat.add_assoc]; done) | skip
  exact ((((((Fr.rfl (k := 0) (u := 0)).sI (Nat.le_refl _)).sI (Nat.le_refl _)).sI (Nat.le_refl _)).sI (Nat.le_refl _)).nwA).sR (Nat.le_refl _)
theorem C_newPiece {a : Nat} (hC : mC m a = 3) (hz : mz m = a + 1) (h0 : a ≠ 0) (hQ : ∀ m', Pc m' a x0F → mz m' = a + 3 → Fr (up a) 2 6 m m' → Q (.inl none) m') : zC xs xl (d + 1) 17 [zR a] m Q := by
  refine bX2_init_0 ⟨h0, hC, fun m3 e3 => ?_⟩
  subst e3
  refine ⟨by simp [zget, hz, hC, Nat.add_assoc], fun m5 e5 => ?_⟩
  subst e5
  refine ⟨by simp [zget, hz, hC, Nat.add_assoc], hQ _ ⟨⟨?_, ?_, ?_, ?_, ?_, ?_, ?_⟩, ⟨?_, ?_, ?_, ?_, ?_⟩, ⟨?_, ?_, ?_⟩, ⟨?_, ?_, ?_⟩⟩ ?_ ?_⟩
  all_goals first | (simp [zget, hz, hC, x0F, Nat.add_assoc]; done) | skip
  exact (((((((((Fr.rfl (k := 0) (u := 0)).sI (Nat.le_refl _)).sI (Nat.le_refl _)).sI (Nat.le_refl _)).sI (Nat.le_refl _)).sI (Nat.le_refl _)).nwA).sR (Nat.le_refl _)).nwA).sR (Nat.le_refl _)
theorem C_newSlip {a : Nat} (hC : mC m a = 7) (hz : mz m = a + 1) (h0 : a ≠ 0) (hQ : ∀ m', Sl m' a 0 x0F → mz m' = a + 4 → Fr (up a) 3 13 m m' → Q (.inl none) m') : zC xs xl (d + 2) 57 [zR a] m Q := by
  refine bX6_init_0 ⟨h0, hC, fun m3 e3 => ?_⟩
  subst e3
  have ez : mz (sI (sI (sI (sI (sI (sI (sI (sI (sI (sR (sI m 384 a 0) 385 a 0) 386 a (-1)) 387 a 0) 388 a (-1)) 389 a 0) 390 a 0) 391 a 0) 392 a 0) 393 a 0) 394 a 0) = a + 1 := hz
  have ez2 : mz m ≠ 0 := by omega
  have f1 : Fr (up a) 1 7 m (nwO (sI (sI (sI (sI (sI (sI (sI (sI (sI (sR (sI m 384 a 0) 385 a 0) 386 a (-1)) 387 a 0) 388 a (-1)) 389 a 0) 390 a 0) 391 a 0) 392 a 0) 393 a 0) 394 a 0) 2 7) := ((((((((((((Fr.rfl (k := 0) (u := 0)).sI (Nat.le_refl _)).sR (Nat.le_refl _)).sI (Nat.le_refl _)).sI (Nat.le_refl _)).sI (Nat.le_refl _)).sI (Nat.le_refl _)).sI (Nat.le_refl _)).sI (Nat.le_refl _)).sI (Nat.le_refl _)).sI (Nat.le_refl _)).sI (Nat.le_refl _)).nwO
  have g1 : mC (nwO (sI (sI (sI (sI (sI (sI (sI (sI (sI (sR (sI m 384 a 0) 385 a 0) 386 a (-1)) 387 a 0) 388 a (-1)) 389 a 0) 390 a 0) 391 a 0) 392 a 0) 393 a 0) 394 a 0) 2 7) (a + 1) = 3 ∧ mz (nwO (sI (sI (sI (sI (sI (sI (sI (sI (sI (sR (sI m 384 a 0) 385 a 0) 386 a (-1)) 387 a 0) 388 a (-1)) 389 a 0) 390 a 0) 391 a 0) 392 a 0) 393 a 0) 394 a 0) 2 7) = a + 2 := by simp [zget, hz]
  have g2 : mC (nwO (sI (sI (sI (sI (sI (sI (sI (sI (sI (sR (sI m 384 a 0) 385 a 0) 386 a (-1)) 387 a 0) 388 a (-1)) 389 a 0) 390 a 0) 391 a 0) 392 a 0) 393 a 0) 394 a 0) 2 7) a = 7 ∧ mR (nwO (sI (sI (sI (sI (sI (sI (sI (sI (sI (sR (sI m 384 a 0) 385 a 0) 386 a (-1)) 387 a 0) 388 a (-1)) 389 a 0) 390 a 0) 391 a 0) 392 a 0) 393 a 0) 394 a 0) 2 7) 385 a = 0 ∧ (∀ f, 384 ≤ f → f ≤ 394 → f ≠ 385 → mI (nwO (sI (sI (sI (sI (sI (sI (sI (sI (sI (sR (sI m 384 a 0) 385 a 0) 386 a (-1)) 387 a 0) 388 a (-1)) 389 a 0) 390 a 0) 391 a 0) 392 a 0) 393 a 0) 394 a 0) 2 7) f a = if f = 386 ∨ f = 388 then -1 else 0) := by
    refine ⟨by simp [zget, hz, hC, Nat.add_assoc], by simp [zget, hz], fun f h1 h2 h3 => ?_⟩
    have hf : f = 384 ∨ f = 386 ∨ f = 387 ∨ f = 388 ∨ f = 389 ∨ f = 390 ∨ f = 391 ∨ f = 392 ∨ f = 393 ∨ f = 394 := by omega
    rcases hf with z | z | z | z | z | z | z | z | z | z <;> subst z <;> simp [zget, hz]
  refine ⟨ez2, ?_⟩
  rw [hz]
  generalize nwO (sI (sI (sI (sI (sI (sI (sI (sI (sI (sR (sI m 384 a 0) 385 a 0) 386 a (-1)) 387 a 0) 388 a (-1)) 389 a 0) 390 a 0) 391 a 0) 392 a 0) 393 a 0) 394 a 0) 2 7 = m1 at f1 g1 g2 ⊢
  refine C_newPiece g1.1 g1.2 (by omega) (fun m4 hP z4 f4 => ?_)
  have e0 := f4.1 a (by omega) (by omega)
  have f5 : Fr (up a) 3 13 m m4 := f1.tr (f4.sub (fun b (q : a + 1 ≤ b) => (show a ≤ b by omega))) (Nat.le_refl _) (Nat.le_refl _)
  refine ⟨rfl, e0.2.2.2.2.1.trans g2.1, hQ _ ⟨⟨e0.2.2.2.2.1.trans g2.1, ?_, ?_, ?_⟩, ⟨?_, ?_, ?_, ?_, ?_, ?_, ?_, ?_, ?_, ?_, ?_, ?_, ?_, ?_⟩, hP.mv ?_ ?_ ?_⟩ z4 (((((f5.sR (Nat.le_refl _)).sI (Nat.le_refl _)).sI (Nat.le_refl _)).sI (Nat.le_refl _)).sI (Nat.le_refl _))⟩
  · simp [zget]
  · simp [zget, e0.2.1, g2.2.1]
  · simp [zget, z4]
  · simp [zget, e0.1, g2.2.2, x0F]
  · simp [zget, e0.1, g2.2.2, x0F]
  · simp [zget, e0.1, g2.2.2, x0F]
  · simp [zget, e0.1, g2.2.2, x0F]
  · simp [zget, e0.1, g2.2.2, x0F]
  · simp [zget, e0.1, g2.2.2, x0F]
  · simp [zget, e0.1, g2.2.2, x0F]
  · simp [zget, e0.1, g2.2.2, x0F]
  · simp [zget, e0.1, g2.2.2, x0F]
  · simp [zget, e0.1, g2.2.2, x0F]
  · simp [zget, e0.1, g2.2.2, x0F]
  · simp [zget, e0.1, g2.2.2, x0F]
  · simp [zget, e0.1, g2.2.2, x0F]
  · simp [zget, e0.1, g2.2.2, x0F]
  · exact ⟨fun f => by simp [zget, Nat.add_assoc], fun f => by simp [zget, Nat.add_assoc], fun f => by simp [zget, Nat.add_assoc], fun f => by simp [zget, Nat.add_assoc], by simp [zget, Nat.add_assoc], by simp [zget, Nat.add_assoc]⟩
  · exact ⟨fun f => by simp [zget, Nat.add_assoc], fun f => by simp [zget, Nat.add_assoc], fun f => by simp [zget, Nat.add_assoc], fun f => by simp [zget, Nat.add_assoc], by simp [zget, Nat.add_assoc], by simp [zget, Nat.add_assoc]⟩
  · exact ⟨fun f => by simp [zget, Nat.add_assoc], fun f => by simp [zget, Nat.add_assoc], fun f => by simp [zget, Nat.add_assoc], fun f => by simp [zget, Nat.add_assoc], by simp [zget, Nat.add_assoc], by simp [zget, Nat.add_assoc]⟩
theorem C_newTape {a : Nat} (hC : mC m a = 9) (hz : mz m = a + 1) (h0 : a ≠ 0) (hQ : ∀ m', Tp m' a 0 (fun _ => 0) → mz m' = a + 2 → Fr (up a) 1 1000 m m' → Q (.inl none) m') : zC xs xl (d + 1) 81 [zR a] m Q := by
  refine bX8_init_0 ⟨h0, fun m3 e3 => ?_⟩
  subst e3
  refine ⟨by simp [zget, hz, hC, Nat.add_assoc], hQ _ ⟨⟨?_, ?_, ?_, ?_, ?_⟩, ⟨?_, Nat.zero_le _⟩, fun i hi => absurd hi (Nat.not_lt_zero _)⟩ ?_ ?_⟩
  all_goals first | (simp [zget, hz, hC, Nat.add_assoc]; done) | skip
  exact (((Fr.rfl (k := 0) (u := 0)).nwA).sR (Nat.le_refl _)).sI (Nat.le_refl _)
theorem C_newScanner {a tp : Nat} (hC : mC m a = 6) (h0 : a ≠ 0) (hQ : ∀ m', Sc m' a tp 0 46 0 0 → mz m' = mz m → Fr (up a) 0 0 m m' → Q (.inl none) m') : zC xs xl (d + 1) 45 [zR a, zR tp] m Q := by
  refine bX5_init_0 ⟨h0, hC, hQ _ ⟨?_, ?_, ?_, ?_, ?_, ?_⟩ rfl ?_⟩
  all_goals first | (simp [zget, hC]; done) | skip
  exact (((((Fr.rfl (k := 0) (u := 0)).sI (Nat.le_refl _)).sI (Nat.le_refl _)).sI (Nat.le_refl _)).sI (Nat.le_refl _)).sR (Nat.le_refl _)
theorem C_newPlan {a : Nat} (hC : mC m a = 4) (hz : mz m = a + 1) (h0 : a ≠ 0) (hQ : ∀ m', (mC m' a = 4 ∧ mI m' 193 a = ((([] : List zAc).length : Nat) : Int) ∧ mI m' 194 a = cutsL [] ∧ mI m' 195 a = lensL [] ∧ mI m' 196 a = leastL []) → mz m' = a + 2 → Fr (up a) 1 60 m m' → Q (.inl none) m') : zC xs xl (d + 1) 31 [zR a] m Q := by
  refine bX3_init_0 ⟨h0, fun m3 e3 => ?_⟩
  subst e3
  refine ⟨by simp [zget, hz, hC, Nat.add_assoc], hQ _ ⟨?_, ?_, ?_, ?_, ?_⟩ ?_ ?_⟩
  all_goals first | (simp [zget, hz, hC, cutsL, lensL, leastL]; done) | skip
  exact ((((((Fr.rfl (k := 0) (u := 0)).nwA).sR (Nat.le_refl _)).sI (Nat.le_refl _)).sI (Nat.le_refl _)).sI (Nat.le_refl _)).sI (Nat.le_refl _)
end ZCN
