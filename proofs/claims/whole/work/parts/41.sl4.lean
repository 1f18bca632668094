def flagOk (x : Nat → Int) : Prop := (x 0 = 0 ∨ x 0 = 1) ∧ (x 5 = 0 ∨ x 5 = 1) ∧ (x 11 = 0 ∨ x 11 = 1)
section ZSO
variable {xs : Nat → Int} {xl d : Nat} {m : zM} {Q : zRes → zM → Prop}
theorem C_slTell {a p : Nat} {x : Nat → Int} {k : Nat} (h : Sl m a p x) (hf : flagOk x) (hk : k < 15) (hQ : Q (.inl (some (zI (x k)))) m) : zC xs xl (d + 1) 72 [zR a, zI k] m Q := by
  have g := h
  unfold Sl Pc at g
  obtain ⟨⟨g1, g2, g3, -⟩, ⟨i0, i1, i15, i14, i2, i16, i17, i3, i4, i13, i12, i9, i10, i11⟩, ⟨p1, -⟩, ⟨p5, p18, p6, p7, p8⟩, -⟩ := g
  have h0 : ∀ v : Int, (v = 0 ∨ v = 1) → (v = 0 → (0 : Int) = v) ∧ (¬ v = 0 → (1 : Int) = v) := fun v hv => ⟨fun q => q.symm, fun q => by omega⟩
  have hc : k = 0 ∨ k = 1 ∨ k = 2 ∨ k = 3 ∨ k = 4 ∨ k = 5 ∨ k = 6 ∨ k = 7 ∨ k = 8 ∨ k = 9 ∨ k = 10 ∨ k = 11 ∨ k = 12 ∨ k = 13 ∨ k = 14 := by omega
  refine bX6_tell_0 ?_
  rcases hc with rfl | rfl | rfl | rfl | rfl | rfl | rfl | rfl | rfl | rfl | rfl | rfl | rfl | rfl | rfl
  all_goals simp only [Int.natCast_ofNat_eq, show ((0 : Nat) : Int) = 0 from rfl, show ((1 : Nat) : Int) = 1 from rfl, show ((2 : Nat) : Int) = 2 from rfl, show ((3 : Nat) : Int) = 3 from rfl]
  all_goals sorry
end ZSO
