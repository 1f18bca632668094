/-! the reference's answers that only tell -/
theorem Md.s8 {m : zM} {x : Nat} {B : zB} (h : Md m x B) : mR m 784 x = x + 8 := h.1.2.2.1.2.2.2.2.2.2.2.1
theorem Md.s9 {m : zM} {x : Nat} {B : zB} (h : Md m x B) : mR m 785 x = x + 39 := h.1.2.2.1.2.2.2.2.2.2.2.2
theorem Md.t0 {m m' : zM} {x k u : Nat} {v : Int} {B : zB} (h : Md m x B) (f : Fr (rg 0 0) k u (sI m 768 x v) m') : mI m' 768 x = v := by
  rw [(f.1 x (by have := h.1.2.1; show x < mz m; omega) (fun z => by unfold rg at z; omega)).1 768]; exact th0
theorem wr_6s {r j : Nat} (hr : r < 40) (hj : j < 6) : wr (wr (6 * (r : Int)) + (j : Int)) = ((6 * r + j : Nat) : Int) := by
  rw [wr_id (x := 6 * (r : Int)) (by omega) (by omega), wr_id (by omega) (by omega)]; omega
section ZME
variable {xs : Nat → Int} {xl d : Nat} {m : zM} {Q : zRes → zM → Prop}
theorem M_isSlip {x : Nat} {B : zB} {i : Int} (h : Md m x B) (hT : inF i (yS (bY B)) → Q (.inl (some (zI 1))) m) (hF : ¬ inF i (yS (bY B)) → Q (.inl (some (zI 0))) m) : zC xs xl (d + 2) 196 [zR x, zI i] m Q := by
  have e := h.2.2.2.2.1.2.1.2.2.1
  have h6 := h.2.2.2.2.1.2.1.2.2.2.2.2.2.2
  refine bX12_isSlip_0 ⟨h.1.1, ?_⟩
  rw [h.s8, e, wr_id (x := (yS (bY B) : Int) - 1) (by omega) (by omega)]
  exact ⟨h.2.2.2.2.1.1.1, M_in (fun c => ⟨1, rfl, Or.inr rfl, hT ⟨by omega, by omega⟩⟩) (fun c => ⟨0, rfl, Or.inl rfl, hF (fun z => c ⟨z.1, by have := z.2; omega⟩)⟩)⟩
theorem M_isPlank {x : Nat} {B : zB} {i : Int} (h : Md m x B) (hT : inF i (yN (bY B)) → Q (.inl (some (zI 1))) m) (hF : ¬ inF i (yN (bY B)) → Q (.inl (some (zI 0))) m) : zC xs xl (d + 2) 187 [zR x, zI i] m Q := by
  have e := h.2.2.2.2.1.2.1.2.1
  have h6 := h.2.2.2.2.1.2.1.2.2.2.2.2.2.1
  refine bX12_isPlank_0 ⟨h.1.1, ?_⟩
  rw [h.s8, e, wr_id (x := (yN (bY B) : Int) - 1) (by omega) (by omega)]
  exact ⟨h.2.2.2.2.1.1.1, M_in (fun c => ⟨1, rfl, Or.inr rfl, hT ⟨by omega, by omega⟩⟩) (fun c => ⟨0, rfl, Or.inl rfl, hF (fun z => c ⟨z.1, by have := z.2; omega⟩)⟩)⟩
theorem M_slip {x : Nat} {B : zB} {i k : Int} (h : Md m x B) (hy : yOk (bY B)) (hQ : eM m x 1 15 (aSlip B i k) B Q) : zC xs xl (d + 3) 199 [zR x, zI i, zI k] m Q := by
  have h6 := hy.2.1.1
  have no : ¬ (inF i (yS (bY B)) ∧ inF k 15) → zC xs xl (d + 2) 162 [zR x, zI 1] (sI m 768 x 0) (fun r m4 => ∃ v5 : Int, r = .inl (some (zI v5)) ∧ Q (.inl (some (zI v5))) m4) := fun c => by
    rw [show aSlip B i k = (1, 0) from if_neg c] at hQ
    exact eM.no (n := 1) (by decide) h hQ thF h.th
  refine bX12_slip_0 ⟨h.1.1, M_isSlip h.th (fun c => ⟨1, rfl, fun z => absurd z (by decide), fun _ => ?_⟩) (fun c => ⟨0, rfl, fun _ => ⟨h.1.1, no (fun z => c z.1)⟩, fun z => absurd rfl z⟩)⟩
  refine M_in (fun c2 => ⟨1, rfl, fun z => absurd z (by decide), fun _ => ?_⟩) (fun c2 => ⟨0, rfl, fun _ => ⟨h.1.1, no (fun z => c2 ⟨z.2.1, by have := z.2.2; omega⟩)⟩, fun z => absurd rfl z⟩)
  rw [show aSlip B i k = (0, yX (bY B) i.toNat k.toNat) from if_pos ⟨c, c2.1, by omega⟩] at hQ
  obtain ⟨a, ha⟩ := Int.eq_ofNat_of_zero_le c.1
  obtain ⟨n, hn⟩ := Int.eq_ofNat_of_zero_le c2.1
  subst ha hn
  have ha6 : a < 6 := by have := c.2; omega
  have hS := (h.th (v := 0)).s8
  rw [hS]
  exact ⟨h.1.1, h.2.2.2.2.1.1.1, R_slip h.th.2.2.2.2.1 ha6 (hy.2.1.2.1 a ha6).1 (by omega) (fun m' f => ⟨_, rfl, hQ m' _ (h.th.fr f (Or.inr (Nat.zero_le _))) (h.t0 f) (fun _ => rfl) (fr_to thF f (Or.inl rfl))⟩)⟩
theorem M_bend {x : Nat} {B : zB} {i j p : Int} (h : Md m x B) (hQ : eM m x 0 0 (aBend B i j p) B Q) : zC xs xl (d + 3) 200 [zR x, zI i, zI j, zI p] m Q := by
  have h6 := h.2.2.2.2.1.2.1.2.2.2.2.2.2.2
  have no : ¬ (inF i (yS (bY B)) ∧ inF j 3) → zC xs xl (d + 2) 162 [zR x, zI 1] (sI m 768 x 0) (fun r m4 => ∃ v5 : Int, r = .inl (some (zI v5)) ∧ Q (.inl (some (zI v5))) m4) := fun c => by
    rw [show aBend B i j p = (1, 0) from if_neg c] at hQ
    exact eM.no (n := 1) (by decide) h hQ thF h.th
  refine bX12_bend_0 ⟨h.1.1, M_isSlip h.th (fun c => ⟨1, rfl, fun z => absurd z (by decide), fun _ => ?_⟩) (fun c => ⟨0, rfl, fun _ => ⟨h.1.1, no (fun z => c z.1)⟩, fun z => absurd rfl z⟩)⟩
  refine M_in (fun c2 => ⟨1, rfl, fun _ => ?_, fun z => absurd (by decide) z⟩) (fun c2 => ⟨0, rfl, fun z => absurd rfl z, fun _ => ⟨h.1.1, no (fun z => c2 ⟨z.2.1, by have := z.2.2; omega⟩)⟩⟩)
  rw [show aBend B i j p = (0, if p = 0 then yX (bY B) i.toNat (20 + j.toNat) else yX (bY B) i.toNat (23 + j.toNat)) from if_pos ⟨c, c2.1, by omega⟩] at hQ
  obtain ⟨a, ha⟩ := Int.eq_ofNat_of_zero_le c.1
  obtain ⟨n, hn⟩ := Int.eq_ofNat_of_zero_le c2.1
  subst ha hn
  have ha6 : a < 6 := by have := c.2; omega
  have hS := (h.th (v := 0)).s8
  have hR := (h.th (v := 0)).2.2.2.2.1
  obtain ⟨r1, k1, n1⟩ := hR.1.at (by decide : (734, 28, 20, 18) ∈ rTab)
  obtain ⟨r2, k2, n2⟩ := hR.1.at (by decide : (735, 29, 20, 18) ∈ rTab)
  have hx := (hR.2.2.2.2.1 a ha6).2.2 n (by omega)
  rw [hS, r1, k1, n1, r2, k2, n2, wr_3s ha6 (by omega), Int.toNat_natCast, hx.1, hx.2]
  refine ⟨fun z => ⟨h.1.1, hR.1.1, rfl, by omega, hQ _ _ h.th th0 (fun _ => ?_) thF⟩, fun z => ⟨h.1.1, hR.1.1, rfl, by omega, hQ _ _ h.th th0 (fun _ => ?_) thF⟩⟩
  · exact (if_pos z).symm
  · exact (if_neg z).symm
theorem M_hull {x : Nat} {B : zB} {i k : Int} (h : Md m x B) (hg : 0 ≤ yG (bY B) 1 ∧ yG (bY B) 1 < 2000000000) (hQ : eM m x 0 0 (aHull B i k) B Q) : zC xs xl (d + 3) 205 [zR x, zI i, zI k] m Q := by
  have no : ¬ (inF i (keptF (bY B)) ∧ inF k 6) → zC xs xl (d + 2) 162 [zR x, zI 1] (sI m 768 x 0) (fun r m4 => ∃ v5 : Int, r = .inl (some (zI v5)) ∧ Q (.inl (some (zI v5))) m4) := fun c => by
    rw [show aHull B i k = (1, 0) from if_neg c] at hQ
    exact eM.no (n := 1) (by decide) h hQ thF h.th
  have hS := (h.th (v := 0)).s8
  have hR := (h.th (v := 0)).2.2.2.2.1
  have eG : mI (sI m 768 x 0) 736 (x + 8) = yG (bY B) 1 := hR.2.1.2.2.2.1
  refine bX12_hull_0 ⟨h.1.1, bX12_kept_0 ⟨h.1.1, ?_⟩⟩
  rw [hS, eG]
  have ek : (if yG (bY B) 1 < 40 then yG (bY B) 1 else 40) = keptF (bY B) := by
    unfold keptF
    split <;> split <;> omega
  have hk40 : 0 ≤ keptF (bY B) ∧ keptF (bY B) ≤ 40 := by
    unfold keptF
    split <;> omega
  rw [ek]
  refine ⟨hR.1.1, _, rfl, ?_⟩
  rw [wr_id (x := keptF (bY B) - 1) (by omega) (by omega)]
  refine M_in (fun c => ⟨1, rfl, fun z => absurd z (by decide), fun _ => ?_⟩) (fun c => ⟨0, rfl, fun _ => ⟨h.1.1, no (fun z => c ⟨z.1.1, by have := z.1.2; omega⟩)⟩, fun z => absurd rfl z⟩)
  refine M_in (fun c2 => ⟨1, rfl, fun z => absurd z (by decide), fun _ => ?_⟩) (fun c2 => ⟨0, rfl, fun _ => ⟨h.1.1, no (fun z => c2 ⟨z.2.1, by have := z.2.2; omega⟩)⟩, fun z => absurd rfl z⟩)
  rw [show aHull B i k = (0, yH (bY B) i.toNat k.toNat) from if_pos ⟨⟨c.1, by omega⟩, c2.1, by omega⟩] at hQ
  obtain ⟨a, ha⟩ := Int.eq_ofNat_of_zero_le c.1
  obtain ⟨n, hn⟩ := Int.eq_ofNat_of_zero_le c2.1
  subst ha hn
  obtain ⟨r1, k1, n1⟩ := hR.1.at (by decide : (739, 30, 20, 240) ∈ rTab)
  rw [hS, r1, k1, n1, wr_6s (by omega) (by omega), Int.toNat_natCast, hR.2.2.2.2.2.2 a n (by omega) (by omega)]
  exact ⟨h.1.1, hR.1.1, rfl, by omega, hQ _ _ h.th th0 (fun _ => rfl) thF⟩
theorem M_stuck {x : Nat} {B : zB} (h : Md m x B) (hy : yOk (bY B)) (he : eN (bY B)) (hQ : eM m x 0 0 (0, stuckF (bY B)) B Q) : zC xs xl (d + 3) 201 [zR x] m Q := by
  refine bX12_stuck_0 ⟨h.1.1, ?_⟩
  rw [h.s8]
  exact ⟨h.2.2.2.2.1.1.1, R_stuck h.th.2.2.2.2.1 hy he ⟨_, rfl, hQ _ _ h.th th0 (fun _ => rfl) thF⟩⟩
end ZME
