/-! what ticks keep -/
theorem slOk.B {x : Nat → Int} {l : List zAc} (h : slOk x l) : slB x l := ⟨h.1, h.2.1, h.2.2.1, h.2.2.2.1, h.2.2.2.2.1, fun c => (h.busy c).1.1⟩
theorem yOk.B {Y : zY} (h : yOk Y) : yB Y := ⟨h.1.1, fun i hi => (h.2.1.2.1 i (by have := h.2.1.1; omega)).B, h.2.2.2⟩
theorem grantR_g1 : ∀ (k : Nat) (Z : zY) (seen : Int), yG (grantR k Z seen) 1 = yG Z 1
  | 0, _, _ => rfl
  | k + 1, Z, seen => by
    unfold grantR
    split
    · rfl
    · rw [grantR_g1 k]
      unfold grant1
      split <;> rfl
theorem acts_yOk {Y : zY} (h : yOk Y) (hg : yG Y 1 < 1000000000) : ∀ k, k ≤ yS Y → yOk (actsF Y k) ∧ (yG Y 1 ≤ yG (actsF Y k) 1 ∧ yG (actsF Y k) 1 ≤ yG Y 1 + k) ∧ phiF Y ≤ phiF (actsF Y k)
  | 0, _ => ⟨h, ⟨Int.le_refl _, by show yG Y 1 ≤ yG Y 1 + 0; omega⟩, Nat.le_refl _⟩
  | k + 1, hk => by
    have h6 := h.2.1.1
    obtain ⟨g1, g2, g3⟩ := acts_yOk h hg k (by omega)
    have hS : yS (actsF Y k) = yS Y := actsF_S Y k
    have ha := act_yOk (i := k) g1 (by rw [hS]; omega) (by omega)
    have hp := actF_phi (Y := actsF Y k) (i := k) ⟨g1.2.2.2, by omega⟩
    refine ⟨ha, ⟨?_, ?_⟩, ?_⟩
    · show _ ≤ yG (actF (actsF Y k) k) 1; omega
    · show yG (actF (actsF Y k) k) 1 ≤ yG Y 1 + ((k + 1 : Nat) : Int); omega
    · show _ ≤ phiF (actF (actsF Y k) k); omega
theorem dry_yOk {Y : zY} (h : yOk Y) : yOk (dryY Y) := by
  unfold dryY
  split
  · exact h
  · exact ⟨⟨fun i hi => wetF_ok (h.1.1 i hi), h.1.2⟩, h.2.1, h.2.2.1, h.2.2.2⟩
theorem dry_g1 {Y : zY} : yG (dryY Y) 1 = yG Y 1 := by
  unfold dryY
  split <;> rfl
theorem beat_yOk {Y : zY} (h : yOk Y) : yOk (beatF Y) := h.g0 (by decide)
theorem tick_yOk {Y : zY} (h : yOk Y) (hg : yG Y 1 < 1000000000) : ∀ k, k ≤ yS Y → yOk (actsF (grantR (yS Y) (beatF Y) 0) k) ∧ (yG Y 1 ≤ yG (actsF (grantR (yS Y) (beatF Y) 0) k) 1 ∧ yG (actsF (grantR (yS Y) (beatF Y) 0) k) 1 ≤ yG Y 1 + k) := by
  intro k hk
  have hgr := grantR_yOk (yS Y) (seen := 0) (beat_yOk h)
  have e1 : yG (grantR (yS Y) (beatF Y) 0) 1 = yG Y 1 := grantR_g1 _ _ _
  have hS : yS (grantR (yS Y) (beatF Y) 0) = yS Y := grantR_S _ _ _
  obtain ⟨a1, a2, a3⟩ := acts_yOk hgr (by rw [e1]; exact hg) k (by rw [hS]; exact hk)
  rw [e1] at a2
  exact ⟨a1, a2⟩
theorem pass_yOk {Y : zY} (h : yOk Y) (hg : yG Y 1 < 1000000000) : yOk (passF Y) ∧ yG Y 1 ≤ yG (passF Y) 1 ∧ yG (passF Y) 1 ≤ yG Y 1 + 6 := by
  obtain ⟨a1, a2⟩ := tick_yOk h hg (yS Y) (Nat.le_refl _)
  have h6 := h.2.1.1
  refine ⟨dry_yOk a1, ?_, ?_⟩
  · show _ ≤ yG (dryY _) 1
    rw [dry_g1]; exact a2.1
  · show yG (dryY _) 1 ≤ _
    rw [dry_g1]; omega
theorem passN_yOk {Y : zY} (h : yOk Y) (hg : yG Y 1 < 900000000) : ∀ k, k ≤ 1000000 → yOk (passN k Y) ∧ yG Y 1 ≤ yG (passN k Y) 1 ∧ yG (passN k Y) 1 ≤ yG Y 1 + 6 * k
  | 0, _ => ⟨h, Int.le_refl _, by show yG Y 1 ≤ yG Y 1 + 6 * ((0 : Nat) : Int); omega⟩
  | k + 1, hk => by
    obtain ⟨g1, g2, g3⟩ := passN_yOk h hg k (by omega)
    obtain ⟨p1, p2, p3⟩ := pass_yOk g1 (by omega)
    refine ⟨p1, ?_, ?_⟩
    · show _ ≤ yG (passF (passN k Y)) 1; omega
    · show yG (passF (passN k Y)) 1 ≤ yG Y 1 + 6 * ((k + 1 : Nat) : Int); omega
theorem yOk.W {Y : zY} (h : yOk Y) (hg : yG Y 1 < 1000000000) : yW Y := fun k hk => (tick_yOk h hg k hk).1.B
section ZRK
variable {xs : Nat → Int} {xl d : Nat} {m : zM} {Q : zRes → zM → Prop}
theorem R_passY {b : Nat} {Y : zY} (h : RSt m b Y) (hy : yOk Y) (hg : yG Y 1 < 1000000000) (hQ : ∀ m', RSt m' b (passF Y) → Fr (rg b (b + 31)) (1 + (phiF (passF Y) - phiF Y)) (6 + 6 * (phiF (passF Y) - phiF Y)) m m' → phiF Y ≤ phiF (passF Y) → Q (.inl none) m') : zC xs xl (d + 6) 147 [zR b] m Q := by
  have h6 := hy.2.1.1
  exact R_pass h (beat_yOk hy).gOk (fun k hk => ⟨(tick_yOk hy hg k hk).1, by have := (tick_yOk hy hg k hk).2; omega⟩) hQ
end ZRK
