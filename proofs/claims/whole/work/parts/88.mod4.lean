/-! the reference's planks, lending, running -/
section ZMG
variable {xs : Nat → Int} {xl d : Nat} {m : zM} {Q : zRes → zM → Prop}
theorem M_addPlank {x : Nat} {B : zB} {w l t : Int} (h : Md m x B) (hQ : eM m x 0 0 (aAddPlank B w l t).1 (aAddPlank B w l t).2 Q) : zC xs xl (d + 2) 186 [zR x, zI w, zI l, zI t] m Q := by
  have no : ¬ (inF w 4 ∧ (10 ≤ l ∧ l ≤ 300) ∧ (0 ≤ t ∧ t ≤ 100)) → zC xs xl (d + 1) 162 [zR x, zI 1] (sI m 768 x 0) (fun r m4 => ∃ v5 : Int, r = .inl (some (zI v5)) ∧ Q (.inl (some (zI v5))) m4) := fun c => by
    rw [show aAddPlank B w l t = ((1, 0), B) from if_pos c] at hQ
    exact eM.no (n := 1) (by decide) h hQ thF h.th
  refine bX12_addPlank_0 ⟨h.1.1, M_in (fun c => ⟨1, rfl, fun z => absurd z (by decide), fun _ => ?_⟩) (fun c => ⟨0, rfl, fun _ => ⟨h.1.1, no (fun z => c ⟨z.1.1, by have := z.1.2; omega⟩)⟩, fun z => absurd rfl z⟩)⟩
  refine M_in (fun c2 => ⟨1, rfl, fun z => absurd z (by decide), fun _ => ?_⟩) (fun c2 => ⟨0, rfl, fun _ => ⟨h.1.1, no (fun z => c2 z.2.1)⟩, fun z => absurd rfl z⟩)
  refine M_in (fun c3 => ⟨1, rfl, fun _ => ?_, fun z => absurd (by decide) z⟩) (fun c3 => ⟨0, rfl, fun z => absurd rfl z, fun _ => ⟨h.1.1, no (fun z => c3 z.2.2)⟩⟩)
  have e0 : aAddPlank B w l t = if 60 ≤ yN (bY B) then ((2, 0), B) else ((0, (yN (bY B) : Int)), (yst (bY B) (yG (bY B) 3) (yN (bY B) + 1) (up1 (yY (bY B)) (yN (bY B)) (w, l, t, [])), B.2)) := if_neg (fun z => z ⟨⟨c.1, by omega⟩, c2, c3⟩)
  rw [e0] at hQ
  have hS := (h.th (v := 0)).s8
  have hR := (h.th (v := 0)).2.2.2.2.1
  have h60 := hR.2.1.2.2.2.2.2.2.1
  rw [hS, hR.2.1.2.1]
  refine ⟨h.1.1, hR.1.1, fun z => ?_, fun z => ?_⟩
  · rw [if_neg (by omega)] at hQ
    refine R_add hR.1 hR.2.1.2.1 (by omega) (fun m' p1 p2 p3 f => ⟨_, rfl, ?_⟩)
    have fM : Fr (rg (x + 8) (x + 8 + 31)) 0 0 (sI m 768 x 0) m' := f.fr (fun a j z => by unfold pC at z; omega)
    have f' : Fr (rg (x + 8) (x + 39)) 0 0 (sI m 768 x 0) m' := fM
    have r' : RSt m' (x + 8) (yst (bY B) (yG (bY B) 3) (yN (bY B) + 1) (up1 (yY (bY B)) (yN (bY B)) (w, l, t, []))) := by
      refine hR.pk (f.mono (fun _ z => z) (fun _ _ z => pC_s z)) (fun i hi => ?_) p2 (p3.trans hR.2.1.2.2.2.2.2.1) (by omega)
      by_cases ci : i = yN (bY B)
      · subst ci
        rw [show up1 (yY (bY B)) (yN (bY B)) (w, l, t, []) (yN (bY B)) = (w, l, t, []) from if_pos rfl]; exact p1
      · rw [show up1 (yY (bY B)) (yN (bY B)) (w, l, t, []) i = yY (bY B) i from if_neg ci]
        exact (hR.2.2.1 i (by omega)).mv (fun a j q => f.2.2 a j (fun q2 => by unfold pC at q q2; omega))
    exact hQ _ _ (h.th.st1 f' r') (h.t1 f' (by omega)) (fun _ => rfl) (h.f1 f')
  · rw [if_pos (by omega)] at hQ
    exact eM.no (n := 2) (by decide) h hQ thF h.th
theorem M_addKnot {x : Nat} {B : zB} {k p : Int} (h : Md m x B) (hy : yOk (bY B)) (hQ : eM m x 0 0 (aAddKnot B k p).1 (aAddKnot B k p).2 Q) : zC xs xl (d + 3) 188 [zR x, zI k, zI p] m Q := by
  have h60 := hy.1.2
  have hS := (h.th (v := 0)).s8
  have hR := (h.th (v := 0)).2.2.2.2.1
  refine bX12_addKnot_0 ⟨h.1.1, M_isPlank h.th (fun c => ⟨1, rfl, fun _ => ?_, fun z => absurd (by decide) z⟩) (fun c => ⟨0, rfl, fun z => absurd rfl z, fun _ => ⟨h.1.1, ?_⟩⟩)⟩
  · obtain ⟨a, ha⟩ := Int.eq_ofNat_of_zero_le c.1
    subst ha
    have haN : a < yN (bY B) := by have := c.2; omega
    obtain ⟨r2, k2, n2⟩ := hR.1.at (by decide : (707, 2, 20, 60) ∈ rTab)
    obtain ⟨r4, k4, n4⟩ := hR.1.at (by decide : (709, 4, 20, 60) ∈ rTab)
    have hp := hR.2.2.1 a haN
    obtain ⟨⟨p1, p2, p3, p4, p5⟩, kl, kp, kk⟩ := id hp
    have hok := hy.1.1 a haN
    obtain ⟨o1, o2, o3, o4, o5⟩ := hok
    rw [hS, r2, k2, n2, Int.toNat_natCast, p2, wr_id (x := (yY (bY B) a).2.1 - 1) (by omega) (by omega)]
    refine ⟨h.1.1, hR.1.1, rfl, by omega, M_in (fun c2 => ⟨1, rfl, fun _ => ⟨h.1.1, ?_⟩, fun z => absurd (by decide) z⟩) (fun c2 => ⟨0, rfl, fun z => absurd rfl z, fun _ => ⟨h.1.1, ?_⟩⟩)⟩
    · have e0 : aAddKnot B (a : Int) p = if 8 ≤ (yY (bY B) a).2.2.2.length ∨ p ∈ (yY (bY B) a).2.2.2 then ((3, 0), B) else ((0, (((yY (bY B) a).2.2.2.length + 1 : Nat) : Int)), (yst (bY B) (yG (bY B) 3) (yN (bY B)) (up1 (yY (bY B)) a (insF (yY (bY B) a) p)), B.2)) := by
        unfold aAddKnot
        rw [if_neg (fun z => z c), Int.toNat_natCast, if_neg (fun z => z ⟨c2.1, by omega⟩)]
      rw [e0] at hQ
      rw [hS]
      refine ⟨hR.1.1, R_isKnot hR.1 hp (by omega) ⟨_, rfl, fun z => ?_, fun z => ⟨h.1.1, ?_⟩⟩⟩
      · have hk : p ∈ (yY (bY B) a).2.2.2 := Decidable.byContradiction (fun w => z (if_neg w))
        rw [if_pos (Or.inr hk)] at hQ
        exact ⟨h.1.1, eM.no (n := 3) (by decide) h hQ thF h.th⟩
      · have hk : p ∉ (yY (bY B) a).2.2.2 := fun w => z (by rw [if_pos w]; decide)
        rw [hS, r4, k4, n4, p4]
        refine ⟨hR.1.1, rfl, by omega, fun z2 => ?_, fun z2 => ?_⟩
        · have h8 : (yY (bY B) a).2.2.2.length < 8 := by omega
          rw [if_neg (fun w => w.elim (fun w => by omega) hk)] at hQ
          have hkl := kp.length_eq
          refine R_addKnot (y := yY (bY B) a) (kl := kl) hR.1 ⟨p1, p2, p3, by rw [p4, hkl]⟩ kk (by omega) (by omega) (fun m' q1 q2 f => ?_)
          have fM : Fr (rg (x + 8) (x + 8 + 31)) 0 0 (sI m 768 x 0) m' := f.fr (fun a j z => by unfold pC at z; omega)
          have f' : Fr (rg (x + 8) (x + 39)) 0 0 (sI m 768 x 0) m' := fM
          have hlen : (insF (yY (bY B) a) p).2.2.2.length = (yY (bY B) a).2.2.2.length + 1 := by
            have := (insF_perm kp hk).length_eq
            rw [List.length_append] at this
            show ((yY (bY B) a).2.2.2.filter (fun k => decide (k < p)) ++ p :: (yY (bY B) a).2.2.2.filter (fun k => decide (p < k))).length = _
            rw [← this, hkl]; rfl
          have hl2 : (kl ++ [p]).length = (yY (bY B) a).2.2.2.length + 1 := by rw [List.length_append, hkl]; rfl
          have r' : RSt m' (x + 8) (yst (bY B) (yG (bY B) 3) (yN (bY B)) (up1 (yY (bY B)) a (insF (yY (bY B) a) p))) := by
            refine hR.pk (f.mono (fun _ z => absurd z (fun w => w)) (fun _ _ z => pC_s z)) (fun i hi => ?_) ((f.1 705 _ (fun z => z.2)).trans hR.2.1.2.1) ((f.1 738 _ (fun z => z.2)).trans hR.2.1.2.2.2.2.2.1) h60
            by_cases ci : i = a
            · subst ci
              rw [show up1 (yY (bY B)) i (insF (yY (bY B) i) p) i = insF (yY (bY B) i) p from if_pos rfl]
              exact ⟨⟨q1.1, q1.2.1, q1.2.2.1, by rw [hlen, q1.2.2.2, hl2], by omega⟩, kl ++ [p], insF_perm kp hk, q2⟩
            · rw [show up1 (yY (bY B)) a (insF (yY (bY B) a) p) i = yY (bY B) i from if_neg ci]
              exact (hR.2.2.1 i hi).mv (fun a j q => f.2.2 a j (fun q2 => by unfold pC at q q2; omega))
          have hMd := h.th.st1 f' r'
          have hR' := hMd.2.2.2.2.1
          obtain ⟨r4', k4', n4'⟩ := hR'.1.at (by decide : (709, 4, 20, 60) ∈ rTab)
          rw [hMd.s8, r4', k4', n4', q1.2.2.2, hl2]
          exact ⟨rfl, hMd.1.1, hR'.1.1, rfl, by omega, hQ _ _ hMd (h.t1 f' (by omega)) (fun _ => rfl) (h.f1 f')⟩
        · rw [if_pos (Or.inl (by omega))] at hQ
          exact eM.no (n := 3) (by decide) h hQ thF h.th
    · have e0 : aAddKnot B (a : Int) p = ((2, 0), B) := by
        unfold aAddKnot
        rw [if_neg (fun z => z c), Int.toNat_natCast, if_pos (fun z => c2 ⟨z.1, by have := z.2; omega⟩)]
      rw [e0] at hQ
      exact eM.no (n := 2) (by decide) h hQ thF h.th
  · have e : aAddKnot B k p = ((1, 0), B) := if_pos c
    rw [e] at hQ
    exact eM.no (n := 1) (by decide) h hQ thF h.th
theorem M_run {x : Nat} {B : zB} {k : Int} (h : Md m x B) (hy : yOk (bY B)) (hg : yG (bY B) 1 < 800000000) (hQ : eM m x (200 + (phiF (bY (aRun B k).2) - phiF (bY B))) (1200 + 6 * (phiF (bY (aRun B k).2) - phiF (bY B))) (aRun B k).1 (aRun B k).2 Q) : zC xs xl (d + 7) 202 [zR x, zI k] m Q := by
  refine bX12_run_0 ⟨h.1.1, M_in (fun c => ⟨1, rfl, fun _ => ⟨h.1.1, ?_⟩, fun z => absurd (by decide) z⟩) (fun c => ⟨0, rfl, fun z => absurd rfl z, fun _ => ⟨h.1.1, ?_⟩⟩)⟩
  · have e : aRun B k = ((0, wr (yG (passN k.toNat (bY B)) 1 - yG (bY B) 1)), (passN k.toNat (bY B), B.2)) := if_neg (fun z => z c)
    rw [e] at hQ
    have hS := (h.th (v := 0)).s8
    have hR := (h.th (v := 0)).2.2.2.2.1
    rw [hS, hR.2.1.2.2.2.1]
    refine ⟨hR.1.1, ?_⟩
    obtain ⟨n, hn⟩ := Int.eq_ofNat_of_zero_le (show 0 ≤ k by omega)
    subst hn
    rw [Int.toNat_natCast] at hQ
    have lp : ∀ (r i : Nat) (m' : zM), i + r = n → RSt m' (x + 8) (passN i (bY B)) → Fr (rg (x + 8) (x + 39)) (i + (phiF (passN i (bY B)) - phiF (bY B))) (6 * i + 6 * (phiF (passN i (bY B)) - phiF (bY B))) (sI m 768 x 0) m' → phiF (bY B) ≤ phiF (passN i (bY B)) → zW xs xl (d + 6) cX12_run 12 (some .int) false [] 32 [zR x, zI (n : Int), zI (yG (bY B) 1), zI (i : Int)] [] m' Q := by
      intro r
      induction r with
      | zero =>
        intro i m' ei g1 g2 g3
        have ei' : i = n := by omega
        subst ei'
        have hMd := h.th.st1 g2 g1
        refine bX12_run_32 ⟨fun _ => ⟨hMd.1.1, ?_⟩, fun z => absurd (Int.le_refl _) z⟩
        rw [hMd.s8, g1.2.1.2.2.2.1]
        refine ⟨g1.1.1, hQ _ _ hMd (h.t1 g2 (by omega)) (fun _ => rfl) ((h.f1 g2).mono (fun _ _ z => z) ?_ ?_)⟩
        · show i + (phiF (passN i (bY B)) - phiF (bY B)) ≤ 200 + (phiF (passN i (bY B)) - phiF (bY B)); omega
        · show 6 * i + 6 * (phiF (passN i (bY B)) - phiF (bY B)) ≤ 1200 + 6 * (phiF (passN i (bY B)) - phiF (bY B)); omega
      | succ r ih =>
        intro i m' ei g1 g2 g3
        have hMd := h.th.st1 g2 g1
        have hp := passN_yOk hy (by omega) i (by omega)
        refine bX12_run_32 ⟨fun z => absurd z (by omega), fun _ => ⟨hMd.1.1, ?_⟩⟩
        rw [hMd.s8, wr_s (i := i) (by omega)]
        refine ⟨g1.1.1, R_passY g1 hp.1 (by omega) (fun m2 q1 q2 q3 => ⟨rfl, ih (i + 1) m2 (by omega) q1 ?_ ?_⟩)⟩
        · have q2' : Fr (rg (x + 8) (x + 39)) (1 + (phiF (passF (passN i (bY B))) - phiF (passN i (bY B)))) (6 + 6 * (phiF (passF (passN i (bY B))) - phiF (passN i (bY B)))) m' m2 := q2
          refine g2.tr q2' ?_ ?_
          · show _ ≤ (i + 1) + (phiF (passF (passN i (bY B))) - phiF (bY B)); omega
          · show _ ≤ 6 * (i + 1) + 6 * (phiF (passF (passN i (bY B))) - phiF (bY B)); omega
        · show phiF (bY B) ≤ phiF (passF (passN i (bY B))); omega
    exact lp n 0 _ (by omega) hR (Fr.rfl.mono (fun _ _ z => z) (Nat.zero_le _) (Nat.zero_le _)) (Nat.le_refl _)
  · have e : aRun B k = ((1, 0), B) := if_pos c
    rw [e] at hQ
    refine M_no h.th (fun m' g1 g2 g3 => ⟨0, rfl, hQ m' 0 g1 g2 (fun z : (1 : Nat) = 0 => absurd z (by decide)) ((thF.tr0 g3).mono (fun _ _ z => z) (Nat.zero_le _) (Nat.zero_le _))⟩)
end ZMG
