/-! the reference's answers about frames and planks -/
theorem Md.t1 {m m' : zM} {x k u lo hi : Nat} {v : Int} {B : zB} (h : Md m x B) (f : Fr (rg lo hi) k u (sI m 768 x v) m') (hl : x < lo) : mI m' 768 x = v := by
  rw [(f.1 x (by have := h.1.2.1; show x < mz m; omega) (fun z => by unfold rg at z; omega)).1 768]; exact th0
theorem Md.st1 {m m' : zM} {x k u : Nat} {B : zB} {Y : zY} (h : Md m x B) (f : Fr (rg (x + 8) (x + 39)) k u m m') (hY : RSt m' (x + 8) Y) : Md m' x (Y, B.2) := h.stq f (Or.inl (Nat.le_refl _)) (Or.inl (Nat.le_refl _)) hY
theorem Md.f1 {m m' : zM} {x k u : Nat} {v : Int} {B : zB} (h : Md m x B) (f : Fr (rg (x + 8) (x + 39)) k u (sI m 768 x v) m') : Fr (rg x (x + 70)) k u m m' := fr_to thF f (Or.inr ⟨by omega, by omega⟩)
theorem insF_perm {l kl : List Int} {p : Int} (hp : kl.Perm l) (hn : p ∉ l) : (kl ++ [p]).Perm (l.filter (fun k => decide (k < p)) ++ p :: l.filter (fun k => decide (p < k))) := by
  have e : l.filter (fun k => decide (p < k)) = l.filter (fun k => !decide (k < p)) := by
    apply List.filter_congr
    intro k hk
    have hne : k ≠ p := fun z => hn (by rw [← z]; exact hk)
    by_cases c : k < p
    · simp [c]; omega
    · simp [c]; omega
  rw [e]
  have h1 := List.filter_append_perm (fun k => decide (k < p)) l
  have h2 : (kl ++ [p]).Perm (p :: l) := (List.perm_append_comm (l₁ := kl) (l₂ := [p])).trans (List.Perm.cons p hp)
  exact h2.trans ((List.Perm.cons p h1.symm).trans List.perm_middle.symm)
theorem sI_n {m : zM} {f g a b : Nat} {v : Int} (h : f ≠ g) : mI (sI m g a v) f b = mI m f b := if_neg (fun z => h z.1)
section ZMF
variable {xs : Nat → Int} {xl d : Nat} {m : zM} {Q : zRes → zM → Prop}
theorem M_frames {x : Nat} {B : zB} {j k : Int} (h : Md m x B) (hy : yOk (bY B)) (hQ : eM m x 0 0 (aFrames B j k) B Q) : zC xs xl (d + 3) 194 [zR x, zI j, zI k] m Q := by
  have no : ¬ (inF j 5 ∧ inF k 3) → zC xs xl (d + 2) 162 [zR x, zI 1] (sI m 768 x 0) (fun r m4 => ∃ v5 : Int, r = .inl (some (zI v5)) ∧ Q (.inl (some (zI v5))) m4) := fun c => by
    rw [show aFrames B j k = (1, 0) from if_neg c] at hQ
    exact eM.no (n := 1) (by decide) h hQ thF h.th
  refine bX12_frames_0 ⟨h.1.1, M_in (fun c => ⟨1, rfl, fun z => absurd z (by decide), fun _ => ?_⟩) (fun c => ⟨0, rfl, fun _ => ⟨h.1.1, no (fun z => c ⟨z.1.1, by have := z.1.2; omega⟩)⟩, fun z => absurd rfl z⟩)⟩
  refine M_in (fun c2 => ⟨1, rfl, fun z => absurd z (by decide), fun _ => ?_⟩) (fun c2 => ⟨0, rfl, fun _ => ⟨h.1.1, no (fun z => c2 ⟨z.2.1, by have := z.2.2; omega⟩)⟩, fun z => absurd rfl z⟩)
  rw [show aFrames B j k = (0, frT (bY B) j.toNat k.toNat) from if_pos ⟨⟨c.1, by omega⟩, c2.1, by omega⟩] at hQ
  obtain ⟨a, ha⟩ := Int.eq_ofNat_of_zero_le c.1
  subst ha
  have hS := (h.th (v := 0)).s8
  have hR := (h.th (v := 0)).2.2.2.2.1
  obtain ⟨r1, k1, n1⟩ := hR.1.at (by decide : (711, 6, 20, 5) ∈ rTab)
  rw [Int.toNat_natCast] at hQ
  have fin : ∀ v, v = frT (bY B) a k.toNat → Q (.inl (some (zI v))) (sI m 768 x 0) := fun v hv => hQ _ v h.th th0 (fun _ => hv) thF
  refine ⟨h.1.1, bX12_frameTold_0 ?_⟩
  rw [hS, r1, k1, n1, Int.toNat_natCast]
  refine ⟨fun z => ⟨fun z2 => ⟨h.1.1, hR.1.1, R_waiting hR ⟨_, rfl, _, rfl, fin _ ?_⟩⟩, fun z2 => ⟨h.1.1, hR.1.1, R_free hR (by omega) ⟨_, rfl, _, rfl, fin _ ?_⟩⟩⟩, fun z => ⟨h.1.1, hR.1.1, rfl, by omega, _, rfl, fin _ ?_⟩⟩
  · rw [waitR_f (by omega)]
    exact ((if_neg (by omega)).trans (if_neg (by omega))).symm
  · rw [free_eq hy.2.2.1 hy.2.1.1 (fun i hi => (hy.2.1.2.1 i hi).2.2.2.2.2.2.1) (by omega)]
    exact ((if_neg (by omega)).trans (if_pos (by omega))).symm
  · rw [hR.2.2.2.1 a (by omega)]
    exact (if_pos (by omega)).symm
theorem M_plank {x : Nat} {B : zB} {j k : Int} (h : Md m x B) (hy : yOk (bY B)) (hQ : eM m x 0 0 (aPlank B j k) B Q) : zC xs xl (d + 4) 190 [zR x, zI j, zI k] m Q := by
  have h60 := hy.1.2
  have no : ¬ (inF j (yN (bY B)) ∧ inF k 5) → zC xs xl (d + 3) 162 [zR x, zI 1] (sI m 768 x 0) (fun r m4 => ∃ v5 : Int, r = .inl (some (zI v5)) ∧ Q (.inl (some (zI v5))) m4) := fun c => by
    rw [show aPlank B j k = (1, 0) from if_neg c] at hQ
    exact eM.no (n := 1) (by decide) h hQ thF h.th
  refine bX12_plank_0 ⟨h.1.1, M_isPlank h.th (fun c => ⟨1, rfl, fun z => absurd z (by decide), fun _ => ?_⟩) (fun c => ⟨0, rfl, fun _ => ⟨h.1.1, no (fun z => c z.1)⟩, fun z => absurd rfl z⟩)⟩
  refine M_in (fun c2 => ⟨1, rfl, fun z => absurd z (by decide), fun _ => ?_⟩) (fun c2 => ⟨0, rfl, fun _ => ⟨h.1.1, no (fun z => c2 ⟨z.2.1, by have := z.2.2; omega⟩)⟩, fun z => absurd rfl z⟩)
  rw [show aPlank B j k = (0, pkT (yY (bY B) j.toNat) k.toNat) from if_pos ⟨c, c2.1, by omega⟩] at hQ
  obtain ⟨a, ha⟩ := Int.eq_ofNat_of_zero_le c.1
  subst ha
  have haN : a < yN (bY B) := by have := c.2; omega
  have hS := (h.th (v := 0)).s8
  have hR := (h.th (v := 0)).2.2.2.2.1
  obtain ⟨r1, k1, n1⟩ := hR.1.at (by decide : (706, 1, 20, 60) ∈ rTab)
  obtain ⟨r2, k2, n2⟩ := hR.1.at (by decide : (707, 2, 20, 60) ∈ rTab)
  obtain ⟨r3, k3, n3⟩ := hR.1.at (by decide : (708, 3, 20, 60) ∈ rTab)
  obtain ⟨r4, k4, n4⟩ := hR.1.at (by decide : (709, 4, 20, 60) ∈ rTab)
  have hp := hR.2.2.1 a haN
  obtain ⟨⟨p1, p2, p3, p4, p5⟩, -⟩ := id hp
  rw [Int.toNat_natCast] at hQ
  have fin : ∀ v, v = pkT (yY (bY B) a) k.toNat → Q (.inl (some (zI v))) (sI m 768 x 0) := fun v hv => hQ _ v h.th th0 (fun _ => hv) thF
  refine ⟨h.1.1, bX12_plankTold_0 ?_⟩
  rw [hS, r1, k1, n1, r2, k2, n2, r3, k3, n3, r4, k4, n4, Int.toNat_natCast, p1, p2, p3, p4]
  refine ⟨fun z => ⟨fun z2 => ⟨fun z3 => ⟨fun z4 => ⟨h.1.1, hR.1.1, R_clearM hR.1 hp (by omega) (hy.1.1 a haN) ⟨_, rfl, _, rfl, fin _ ?_⟩⟩, fun z4 => ⟨h.1.1, hR.1.1, rfl, by omega, _, rfl, fin _ ?_⟩⟩, fun z3 => ⟨h.1.1, hR.1.1, rfl, by omega, _, rfl, fin _ ?_⟩⟩, fun z2 => ⟨h.1.1, hR.1.1, rfl, by omega, _, rfl, fin _ ?_⟩⟩, fun z => ⟨h.1.1, hR.1.1, rfl, by omega, _, rfl, fin _ ?_⟩⟩
  · exact ((if_neg (by omega)).trans ((if_neg (by omega)).trans ((if_neg (by omega)).trans (if_neg (by omega))))).symm
  · exact ((if_neg (by omega)).trans ((if_neg (by omega)).trans ((if_neg (by omega)).trans (if_pos (by omega))))).symm
  · exact ((if_neg (by omega)).trans ((if_neg (by omega)).trans (if_pos (by omega)))).symm
  · exact ((if_neg (by omega)).trans (if_pos (by omega))).symm
  · exact (if_pos (by omega)).symm
theorem M_find {x : Nat} {B : zB} {w l p : Int} (h : Md m x B) (hy : yOk (bY B)) (hQ : eM m x 0 0 (aFind B w l p) B Q) : zC xs xl (d + 4) 191 [zR x, zI w, zI l, zI p] m Q := by
  have h60 := hy.1.2
  have no : ¬ (inF w 4 ∧ (10 ≤ l ∧ l ≤ 200)) → zC xs xl (d + 3) 162 [zR x, zI 1] (sI m 768 x 0) (fun r m4 => ∃ v5 : Int, r = .inl (some (zI v5)) ∧ Q (.inl (some (zI v5))) m4) := fun c => by
    rw [show aFind B w l p = (1, 0) from if_pos c] at hQ
    exact eM.no (n := 1) (by decide) h hQ thF h.th
  refine bX12_find_0 ⟨h.1.1, M_in (fun c => ⟨1, rfl, fun z => absurd z (by decide), fun _ => ?_⟩) (fun c => ⟨0, rfl, fun _ => ⟨h.1.1, no (fun z => c ⟨z.1.1, by have := z.1.2; omega⟩)⟩, fun z => absurd rfl z⟩)⟩
  refine M_in (fun c2 => ⟨1, rfl, fun _ => ?_, fun z => absurd (by decide) z⟩) (fun c2 => ⟨0, rfl, fun z => absurd rfl z, fun _ => ⟨h.1.1, no (fun z => c2 z.2)⟩⟩)
  have hS := (h.th (v := 0)).s8
  have hR := (h.th (v := 0)).2.2.2.2.1
  have hb := bestF_in (yY (bY B)) w l (yN (bY B))
  have ea : aFind B w l p = if bestF (yY (bY B)) w l (yN (bY B)) < 0 ∨ p = 0 then (0, bestF (yY (bY B)) w l (yN (bY B))) else (0, clearL (yY (bY B) (bestF (yY (bY B)) w l (yN (bY B))).toNat).2.1 l 0 (yY (bY B) (bestF (yY (bY B)) w l (yN (bY B))).toNat).2.2.2) := if_neg (fun z => z ⟨⟨c.1, by omega⟩, c2⟩)
  rw [ea] at hQ
  rw [hS]
  refine ⟨h.1.1, hR.1.1, R_find hR.1 ⟨hR.2.1.2.1, h60⟩ hR.2.2.1 hy.1.1 (by omega) ⟨_, rfl, fun z => ?_, fun z => ⟨fun z2 => ⟨h.1.1, ?_⟩, fun z2 => ?_⟩⟩⟩
  · rw [if_pos (Or.inl (by omega))] at hQ
    exact hQ _ _ h.th th0 (fun _ => rfl) thF
  · generalize bestF (yY (bY B)) w l (yN (bY B)) = f at *
    obtain ⟨a, ha⟩ := Int.eq_ofNat_of_zero_le (show 0 ≤ f by omega)
    subst ha
    rw [if_neg (fun q => by omega), Int.toNat_natCast] at hQ
    rw [hS]
    refine ⟨hR.1.1, ?_⟩
    refine R_place hR.1 (hR.2.2.1 a (by omega)) (by omega) (hy.1.1 a (by omega)) (by omega) ⟨_, rfl, hQ _ _ h.th th0 (fun _ => rfl) thF⟩
  · rw [if_pos (Or.inr (by omega))] at hQ
    exact hQ _ _ h.th th0 (fun _ => rfl) thF
theorem M_addSlip {x : Nat} {B : zB} (h : Md m x B) (hQ : eM m x 0 0 (aAddSlip B).1 (aAddSlip B).2 Q) : zC xs xl (d + 2) 195 [zR x] m Q := by
  have h6 := h.2.2.2.2.1.2.1.2.2.2.2.2.2.2
  have eS := h.2.2.2.2.1.2.1.2.2.1
  refine bX12_addSlip_0 ⟨h.1.1, ?_⟩
  rw [h.s8, eS, wr_s (i := yS (bY B)) (by omega), wr_id (x := ((yS (bY B) + 1 : Nat) : Int) - 1) (by omega) (by omega)]
  refine ⟨h.2.2.2.2.1.1.1, fun c => ?_, fun c => ?_⟩
  · have e : aAddSlip B = ((0, (yS (bY B) : Int)), (ysn (bY B) (yS (bY B) + 1), B.2)) := if_neg (by omega)
    rw [e] at hQ
    have hR := (h.th (v := 0)).2.2.2.2.1
    have f : Fr (rg (x + 8) (x + 39)) 0 0 (sI m 768 x 0) (sI (sI m 768 x 0) 712 (x + 8) ((yS (bY B) + 1 : Nat) : Int)) := Fr.rfl.sI (by unfold rg; omega)
    obtain ⟨g1, g2, g3, g4, g5, g6, g7, g8⟩ := hR.2.1
    have r' : RSt (sI (sI m 768 x 0) 712 (x + 8) ((yS (bY B) + 1 : Nat) : Int)) (x + 8) (ysn (bY B) (yS (bY B) + 1)) := by
      refine hR.up (hR.1.mv rfl rfl rfl rfl) ⟨?_, ?_, if_pos ⟨rfl, rfl⟩, ?_, ?_, ?_, g7, by show yS (bY B) + 1 ≤ 6; omega⟩ (Or.inr ⟨rfl, rfl, fun _ _ _ => rfl⟩) hR.2.2.2.1 hR.2.2.2.2.1 hR.2.2.2.2.2.1 hR.2.2.2.2.2.2
      · exact (sI_n (by decide)).trans g1
      · exact (sI_n (by decide)).trans g2
      · exact (sI_n (by decide)).trans g4
      · exact (sI_n (by decide)).trans g5
      · exact (sI_n (by decide)).trans g6
    exact hQ _ _ (h.th.st1 f r') (h.t1 f (by omega)) (fun _ => by show ((yS (bY B) + 1 : Nat) : Int) - 1 = (yS (bY B) : Int); omega) (h.f1 f)
  · have e : aAddSlip B = ((1, 0), B) := if_pos (by omega)
    rw [e] at hQ
    exact eM.no (n := 1) (by decide) h hQ thF h.th
theorem M_addFrame {x : Nat} {B : zB} {j : Int} (h : Md m x B) (hy : yOk (bY B)) (hQ : eM m x 0 0 (aAddFrame B j).1 (aAddFrame B j).2 Q) : zC xs xl (d + 2) 192 [zR x, zI j] m Q := by
  refine bX12_addFrame_0 ⟨h.1.1, M_in (fun c => ⟨1, rfl, fun _ => ?_, fun z => absurd (by decide) z⟩) (fun c => ⟨0, rfl, fun z => absurd rfl z, fun _ => ⟨h.1.1, ?_⟩⟩)⟩
  · obtain ⟨a, ha⟩ := Int.eq_ofNat_of_zero_le c.1
    subst ha
    have hS := (h.th (v := 0)).s8
    have hR := (h.th (v := 0)).2.2.2.2.1
    have hF := (hy.2.2.1 a (by omega)).1
    obtain ⟨r1, k1, n1⟩ := hR.1.at (by decide : (711, 6, 20, 5) ∈ rTab)
    rw [hS, r1, k1, n1, Int.toNat_natCast, hR.2.2.2.1 a (by omega)]
    refine ⟨h.1.1, hR.1.1, rfl, by omega, fun c2 => ?_, fun c2 => ?_⟩
    · have e : aAddFrame B (a : Int) = ((0, wr (yF (bY B) a + 1)), (ye (yf (bY B) a (wr (yF (bY B) a + 1))) a (wr (yE (bY B) a + 1)), B.2)) := by
        unfold aAddFrame
        rw [if_neg (fun z => z ⟨c.1, by omega⟩), Int.toNat_natCast, if_neg (by omega)]
      rw [e] at hQ
      have f : Fr (rg (x + 8) (x + 39)) 0 0 (sI m 768 x 0) (sA (sI m 768 x 0) (x + 8 + 6) a (wr (yF (bY B) a + 1))) := Fr.rfl.sA (by unfold rg; omega)
      have eA : ∀ b j, b ≠ x + 8 + 6 → mA (sA (sI m 768 x 0) (x + 8 + 6) a (wr (yF (bY B) a + 1))) b j = mA (sI m 768 x 0) b j := fun b j hb => (Eqv.nA hb).2.2.1 j
      have r' : RSt (sA (sI m 768 x 0) (x + 8 + 6) a (wr (yF (bY B) a + 1))) (x + 8) (ye (yf (bY B) a (wr (yF (bY B) a + 1))) a (wr (yE (bY B) a + 1))) := by
        refine hR.up (hR.1.mv rfl rfl rfl rfl) hR.2.1 (Or.inr ⟨rfl, rfl, fun b j z => eA b j (by omega)⟩) (fun i hi => ?_) (fun i hi => (hR.2.2.2.2.1 i hi).mv (fun b j z => eA b j (by unfold slC at z; omega))) (fun i hi z => (hR.2.2.2.2.2.1 i hi z).mv (fun b j z => eA b j (by omega))) (fun r j hr hj => ?_)
        · by_cases ci : i = a
          · subst ci
            rw [zm_As]; exact (if_pos rfl).symm
          · rw [zm_An ci, hR.2.2.2.1 i hi]; exact (if_neg ci).symm
        · rw [eA _ _ (by omega)]; exact hR.2.2.2.2.2.2 r j hr hj
      exact hQ _ _ (h.th.st1 f r') (h.t1 f (by omega)) (fun _ => rfl) (h.f1 f)
    · have e : aAddFrame B (a : Int) = ((2, 0), B) := by
        unfold aAddFrame
        rw [if_neg (fun z => z ⟨c.1, by omega⟩), Int.toNat_natCast, if_pos (by omega)]
      rw [e] at hQ
      exact eM.no (n := 2) (by decide) h hQ thF h.th
  · have e : aAddFrame B j = ((1, 0), B) := if_pos (fun z => c ⟨z.1, by have := z.2; omega⟩)
    rw [e] at hQ
    exact eM.no (n := 1) (by decide) h hQ thF h.th
end ZMF
