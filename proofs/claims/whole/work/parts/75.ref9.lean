theorem wr_own {s n : Nat} (hs : s < 6) (hn : n ≤ 60) : wr (4 * wr (wr (60 * (s : Int)) + (n : Int))) = ((4 * (60 * s + n) : Nat) : Int) := by
  rw [wr_id (x := 60 * (s : Int)) (by omega) (by omega), wr_id (x := 60 * (s : Int) + (n : Int)) (by omega) (by omega), wr_id (by omega) (by omega)]
  omega
theorem wr_p2 {o : Nat} (h : o < 100000) : wr ((o : Int) + 2) = ((o + 2 : Nat) : Int) := by rw [wr_id (by omega) (by omega)]; omega
theorem bendR_o {x : Nat → Int} {f s t : Int} : (bendR x f s t).1 = 0 ∨ (bendR x f s t).1 = 1 ∨ (bendR x f s t).1 = 2 := by
  have hi : ∀ (p : Prop) [Decidable p], (if p then (1 : Int) else 0) = 0 ∨ (if p then (1 : Int) else 0) = 1 ∨ (if p then (1 : Int) else 0) = 2 := fun p _ => by
    by_cases c : p
    · rw [if_pos c]; exact Or.inr (Or.inl rfl)
    · rw [if_neg c]; exact Or.inl rfl
  unfold bendR
  by_cases c : stepF x = 0 ∧ ¬ meantF (tgtF x f s t)
  · rw [if_pos c]
    by_cases c2 : x 8 + 1 < 3
    · rw [if_pos c2]; exact hi _
    · rw [if_neg c2]; exact Or.inr (Or.inr rfl)
  · rw [if_neg c]; exact hi _
section ZRI
variable {xs : Nat → Int} {xl d : Nat} {m : zM} {Q : zRes → zM → Prop}
theorem R_act {b i : Nat} {Y : zY} (h : RSt m b Y) (hi : i < yS Y) (ho : stOk (yN Y) (yY Y)) (hs : slOk (yX Y i) (yL Y i)) (h0 : yX Y i 0 ≠ 0) (h11 : yX Y i 11 = 0) (hg : 0 ≤ yG Y 1 ∧ yG Y 1 < 2000000000) (hQ : ∀ m', RSt m' b (actF Y i) → Fr (rg b (b + 31)) (phiF (actF Y i) - phiF Y) (6 * (phiF (actF Y i) - phiF Y)) m m' → Q (.inl none) m') : zC xs xl (d + 5) 148 [zR b, zI (i : Int)] m Q := by
  have hS6 := h.2.1.2.2.2.2.2.2.2
  have hi6 : i < 6 := by omega
  obtain ⟨hfl, hpc, hpb, hcr, h2r, h9r, h12r, h11w, hpi, -, hbz⟩ := hs
  obtain ⟨hpl, hdn, hhp, hgo, hca, hhe, hwt⟩ := hbz h0
  obtain ⟨D, hD⟩ := Int.eq_ofNat_of_zero_le hdn.1
  rw [hD] at hdn
  rw [hD, Int.toNat_natCast] at hhp hgo hhe hwt
  have hDl : D < (yL Y i).length := by omega
  obtain ⟨q, hq⟩ : ∃ q, (yL Y i)[D]? = some q := ⟨_, List.getElem?_eq_getElem hDl⟩
  have hqm : q ∈ yL Y i := List.mem_of_getElem? hq
  obtain ⟨o1, o2, o3, o4, o5⟩ := hpl.1 q hqm
  have hpq := hpl.2.2.1 D q hq
  have hl60 := hpl.2.1.1
  have ra := h.2.2.2.2.2.1 i hi6 h0
  obtain ⟨c0, c1, c2, c3⟩ := ra.2.2 D q hq
  have hact : actP (yX Y i) (yL Y i) = some q := by
    unfold actP
    rw [if_pos h0, hD, Int.toNat_natCast]; exact hq
  have hwk : workR Y i = workQ Y i q := by
    unfold workR
    rw [hact]
  have hac : actF Y i = setR (workQ Y i q).2 i (workQ Y i q).1 := by
    unfold actF
    rw [if_neg (fun z => z h11), hwk]
  have hx := h.2.2.2.2.1 i hi6
  obtain ⟨a1, a2, a3⟩ := h.1.at (by decide : (718, 12, 20, 6) ∈ rTab)
  obtain ⟨b1, b2, b3⟩ := h.1.at (by decide : (717, 11, 20, 1440) ∈ rTab)
  obtain ⟨e1, e2, e3⟩ := h.1.at (by decide : (725, 19, 20, 6) ∈ rTab)
  obtain ⟨g1, g2, g3⟩ := h.1.at (by decide : (726, 20, 20, 6) ∈ rTab)
  have v2 : mA m (b + 12) i = (D : Int) := (hx.1 2 (by omega)).trans hD
  have v12 : mA m (b + 19) i = yX Y i 12 := hx.1 12 (by omega)
  have v9 : mA m (b + 20) i = yX Y i 9 := hx.1 9 (by omega)
  have t0 : ∀ (m2 : zM) (u1 u2 u3 : Int), RSt m2 b (actF Y i) → Fr (rg b (b + 31)) 0 0 m m2 → zW xs xl (d + 4) cX11_act 11 (none) false [] 176 [zR b, zI (i : Int), zI u1, zI u2, zI u3, zI 0] [] m2 Q := fun m2 u1 u2 u3 g f => bX11_act_176 ⟨fun z => absurd rfl z, fun _ => hQ m2 g (f.mono (fun _ _ z => z) (Nat.zero_le _) (Nat.zero_le _))⟩
  have t1 : ∀ (m2 : zM) (Y2 : zY) (u1 u2 u3 : Int), workQ Y i q = (1, Y2) → RSt m2 b Y2 → yX Y2 i 0 ≠ 0 → yX Y2 i 2 = (D : Int) → yL Y2 i = yL Y i → yG Y2 1 = yG Y 1 → Fr (rg b (b + 31)) 0 0 m m2 → zW xs xl (d + 4) cX11_act 11 (none) false [] 176 [zR b, zI (i : Int), zI u1, zI u2, zI u3, zI 1] [] m2 Q := by
    intro m2 Y2 u1 u2 u3 hw g y0 y2 yl yg1 f
    rw [hac, hw] at hQ
    have hQ' : ∀ m', RSt m' b (setR Y2 i 1) → Fr (rg b (b + 31)) (phiF (setR Y2 i 1) - phiF Y) (6 * (phiF (setR Y2 i 1) - phiF Y)) m m' → Q (.inl none) m' := hQ
    have hse : setR Y2 i 1 = if actP (goOnF (yX Y2 i)) (yL Y2 i) = none then finF (yx Y2 i (goOnF (yX Y2 i))) i else yx Y2 i (goOnF (yX Y2 i)) := (if_neg (by decide)).trans (if_pos rfl)
    obtain ⟨a1, a2, a3⟩ := g.1.at (by decide : (718, 12, 20, 6) ∈ rTab)
    obtain ⟨b1, b2, b3⟩ := g.1.at (by decide : (720, 14, 20, 6) ∈ rTab)
    obtain ⟨e1, e2, e3⟩ := g.1.at (by decide : (716, 10, 20, 6) ∈ rTab)
    have v2 : mA m2 (b + 12) i = (D : Int) := ((g.2.2.2.2.1 i hi6).1 2 (by omega)).trans y2
    have vm : mA m2 (b + 10) i = (yL Y i).length := by rw [← yl]; exact (g.2.2.2.2.2.1 i hi6 y0).1
    have f3 : SF b i (mI m2 737 b) m2 (sA (sA m2 (b + 12) i ((D + 1 : Nat) : Int)) (b + 14) i 0) := ((SF.rfl rfl).w (slC_k (k := 2) (by omega))).w (slC_k (k := 16) (by omega))
    have x3 : RX (sA (sA m2 (b + 12) i ((D + 1 : Nat) : Int)) (b + 14) i 0) b i (goOnF (yX Y2 i)) := by
      have q3 := ((g.2.2.2.2.1 i hi6).set (k := 2) (v := ((D + 1 : Nat) : Int)) (by omega) (fun z => absurd z (by omega))).set (k := 16) (v := 0) (by omega) (fun z => absurd z (by omega))
      unfold goOnF
      rw [y2, wr_s (by omega)]
      exact q3
    have r3 := g.sf0 f3 hi6 x3 (fun c => c)
    have eA : actP (goOnF (yX Y2 i)) (yL Y2 i) = (yL Y i)[D + 1]? := by
      unfold actP
      rw [if_pos (show goOnF (yX Y2 i) 0 ≠ 0 from y0), yl, show goOnF (yX Y2 i) 2 = ((D + 1 : Nat) : Int) by show wr (yX Y2 i 2 + 1) = _; rw [y2, wr_s (by omega)], Int.toNat_natCast]
    rw [hse, eA] at hQ'
    refine bX11_act_176 ⟨fun _ => ⟨g.1.1, ?_⟩, fun z => absurd (by decide) z⟩
    rw [a1, a2, a3, b1, b2, b3, e1, e2, e3, Int.toNat_natCast, v2, wr_s (by omega), (Eqv.nA (show b + 12 ≠ b + 14 by omega)).2.2.1, zm_As, (Eqv.nA (show b + 10 ≠ b + 14 by omega)).2.2.1, (Eqv.nA (show b + 10 ≠ b + 12 by omega)).2.2.1, vm]
    refine ⟨rfl, by omega, by omega, rfl, rfl, by omega, fun c => ?_, fun c => ?_⟩
    · have hne : (yL Y i)[D + 1]? ≠ none := fun z => by
        have := List.getElem?_eq_none_iff.mp z
        omega
      rw [if_neg hne] at hQ'
      exact hQ' _ r3 ((f.tr0 f3.fr).mono (fun _ _ z => z) (Nat.zero_le _) (Nat.zero_le _))
    · have hne : (yL Y i)[D + 1]? = none := List.getElem?_eq_none (by omega)
      rw [if_pos hne] at hQ'
      have hgg : yG (yx Y2 i (goOnF (yX Y2 i))) 1 = yG Y 1 := yg1
      have hph : phiF (yx Y2 i (goOnF (yX Y2 i))) = phiF Y := by unfold phiF; rw [hgg]
      refine R_finish r3 hi6 (by rw [hgg]; exact hg) (fun m4 g4 f4 => ⟨rfl, ?_⟩)
      rw [hph] at f4
      exact hQ' m4 g4 ((f.tr0 f3.fr).tr f4 (by omega) (by omega))
  have hstep : ∀ (m2 : zM) (u1 u2 u3 : Int) (r : Int × (Nat → Int)), workQ Y i q = (r.1, yx Y i r.2) → (r.1 = 0 ∨ r.1 = 1 ∨ r.1 = 2) → r.2 0 = yX Y i 0 → r.2 2 = yX Y i 2 → RW m2 b i (outX r) → SF b i (outV r (mI m 737 b)) m m2 → zW xs xl (d + 4) cX11_act 11 (none) false [] 176 [zR b, zI (i : Int), zI u1, zI u2, zI u3, zI (outB r)] [] m2 Q := by
    intro m2 u1 u2 u3 r hw hr r0 r2 w2 f2
    have hL : mI m 737 b = yG Y 2 := h.2.1.2.2.2.2.1
    rcases hr with c | c | c
    · have eX : outX r = r.2 := if_neg (by omega)
      have eV : outV r (mI m 737 b) = mI m 737 b := if_neg (by omega)
      have eB : outB r = 0 := if_neg (by omega)
      rw [eX] at w2
      rw [eV] at f2
      rw [eB]
      have g := h.sf0 f2 hi6 w2.2.2 (fun z => by rwa [r0] at z)
      refine t0 m2 _ _ _ ?_ f2.fr
      rw [hac, hw, c]
      exact g
    · have eX : outX r = r.2 := if_neg (by omega)
      have eV : outV r (mI m 737 b) = mI m 737 b := if_neg (by omega)
      have eB : outB r = 1 := if_pos c
      rw [eX] at w2
      rw [eV] at f2
      rw [eB]
      have g := h.sf0 f2 hi6 w2.2.2 (fun z => by rwa [r0] at z)
      have eY : yX (yx Y i r.2) i = r.2 := if_pos rfl
      exact t1 m2 (yx Y i r.2) _ _ _ (by rw [hw, c]) g (by rw [eY, r0]; exact h0) (by rw [eY, r2]; exact hD) rfl rfl f2.fr
    · have eX : outX r = loseF r.2 := if_pos c
      have eV : outV r (mI m 737 b) = wr (mI m 737 b + 1) := if_pos c
      have eB : outB r = 0 := if_neg (by omega)
      rw [eX] at w2
      rw [eV] at f2
      rw [eB]
      have g := h.sf f2 hi6 w2.2.2 (fun z => by
        have : loseF r.2 0 = r.2 0 := rfl
        rwa [this, r0] at z)
      refine t0 m2 _ _ _ ?_ f2.fr
      rw [hac, hw, c]
      show RSt m2 b (yg (yx (yx Y i r.2) i (loseF (yX (yx Y i r.2) i))) 2 (wr (yG Y 2 + 1)))
      have eY : yX (yx Y i r.2) i = r.2 := if_pos rfl
      have e2 : yx (yx Y i r.2) i (loseF r.2) = yx Y i (loseF r.2) := by
        unfold yx
        have : up1 (up1 Y.2.2.2.2.1 i r.2) i (loseF r.2) = up1 Y.2.2.2.2.1 i (loseF r.2) := by
          funext k
          show (if k = i then loseF r.2 else if k = i then r.2 else Y.2.2.2.2.1 k) = (if k = i then loseF r.2 else Y.2.2.2.2.1 k)
          by_cases ck : k = i
          · rw [if_pos ck, if_pos ck]
          · rw [if_neg ck, if_neg ck, if_neg ck]
        rw [this]
      rw [eY, e2]
      rw [hL] at g
      exact g
  refine bX11_act_0 ?_
  rw [a1, a2, a3, b1, b2, b3, e1, e2, e3, g1, g2, g3, Int.toNat_natCast, v2, wr_own hi6 (by omega), wr_s (by omega), wr_p2 (by omega), Int.toNat_natCast, Int.toNat_natCast, Int.toNat_natCast, c0, c1, v12, v9]
  refine ⟨h.1.1, rfl, by omega, rfl, by omega, by omega, fun n0 => ⟨fun n1 => ⟨fun n2 => ⟨fun n5 => ⟨fun n7 => ?_, fun n7 => ?_⟩, fun n5 => ?_⟩, fun n2 => ⟨by omega, ?_⟩⟩, fun n1 => ⟨rfl, by omega, ?_⟩⟩, fun n0 => ⟨rfl, by omega, fun nb => ⟨rfl, by omega, fun nw => ?_, fun nw => ?_⟩, fun nb => ?_⟩⟩
  · -- wet, heat, hold
    have hq3 : q.1 = 3 ∨ q.1 = 4 ∨ q.1 = 6 := by omega
    have hq5 := o5 hq3
    have hg16 := hgo.2 q hq hq3
    have hw : workQ Y i q = ((treatR (yX Y i) q.1 q.2.1).1, yx Y i (treatR (yX Y i) q.1 q.2.1).2) := by
      unfold workQ
      rw [if_neg n0, if_neg n1, if_neg n2, if_neg n5, if_neg n7]
    refine R_treat (h.rw hi6) hpc hq3 ⟨hgo.1, hg16, hq5.2⟩ (fun m2 w2 f2 => ⟨_, rfl, hstep m2 _ _ _ _ hw ?_ treatR_0 ?_ w2 f2⟩)
    · unfold treatR
      split
      · exact Or.inr (Or.inr rfl)
      · show (if _ then (0 : Int) else 1) = 0 ∨ (if _ then (0 : Int) else 1) = 1 ∨ (if _ then (0 : Int) else 1) = 2
        split
        · exact Or.inl rfl
        · exact Or.inr (Or.inl rfl)
    · unfold treatR
      split
      · exact treatY_out (by omega)
      · exact (if_neg (by omega) : up1 (treatY (yX Y i) q.1) 16 (wr (yX Y i 16 + 1)) 2 = treatY (yX Y i) q.1 2).trans (treatY_out (by omega))
  · -- fit
    have n7' := Decidable.not_not.mp n7
    have hw : workQ Y i q = ((fitR (yX Y i)).1, yx Y i (fitR (yX Y i)).2) := by
      unfold workQ
      rw [if_neg n0, if_neg n1, if_neg n2, if_neg n5, if_pos n7']
    refine R_fit (h.rw hi6) hpc hpb (fun m2 w2 f2 => ⟨_, rfl, hstep m2 _ _ _ _ hw ?_ fitR_0 ?_ w2 f2⟩)
    · unfold fitR
      split
      · exact Or.inr (Or.inl rfl)
      · exact Or.inr (Or.inr rfl)
    · unfold fitR
      split <;> simp [up1, vanishF, springF]
  · -- bend
    have n5' := Decidable.not_not.mp n5
    have h5 : yX Y i 5 ≠ 0 := by rw [hhp, hpq.2.2 (by omega)]; decide
    have hv := o4 n5'
    have c2' := c2 (Or.inr n5')
    have c3' := c3 n5'
    have hw : workQ Y i q = ((bendR (yX Y i) q.2.1 q.2.2.1 q.2.2.2).1, yx Y i (bendR (yX Y i) q.2.1 q.2.2.1 q.2.2.2).2) := by
      unfold workQ
      rw [if_neg n0, if_neg n1, if_neg n2, if_pos n5']
    refine R_bend (v := fun j => if j = 0 then q.2.1 else if j = 1 then q.2.2.1 else q.2.2.2) (h.rw hi6) h5 (hpi.2 h5) hpc hpb hcr (by omega) (fun j hj => ?_) (fun m2 w2 f2 => ⟨_, rfl, hstep m2 _ _ _ _ hw ?_ (bendR_out (by omega)) (bendR_out (by omega)) w2 f2⟩)
    · have hj3 : j = 0 ∨ j = 1 ∨ j = 2 := by omega
      rcases hj3 with z | z | z <;> subst z
      · exact ⟨c1, hv.1.1, hv.1.2⟩
      · exact ⟨c2', hv.2.1.1, hv.2.1.2⟩
      · exact ⟨c3', hv.2.2.1, hv.2.2.2⟩
    · exact bendR_o
  · -- cut
    have n2' := Decidable.not_not.mp n2
    have h5 : yX Y i 5 = 0 := by rw [hhp, hpq.2.1 n2']
    have hz := hpi.1 h5
    have hv := o3 n2'
    have c2' := c2 (Or.inl n2')
    have hw : workQ Y i q = cutR Y i q.2.1 q.2.2.1 := by
      unfold workQ
      rw [if_neg n0, if_neg n1, if_pos n2']
    rw [c2']
    refine R_cut h hi6 ho hv.2 hv.1 ⟨hz.2.2.1, hz.2.2.2⟩ (fun m2 r2 f2 => ⟨_, rfl, ?_⟩)
    by_cases cb : bestF (yY Y) q.2.1 q.2.2.1 (yN Y) < 0
    · have ec : cutR Y i q.2.1 q.2.2.1 = (0, Y) := if_pos cb
      rw [ec] at r2 ⊢
      refine t0 m2 _ _ _ ?_ f2
      rw [hac, hw, ec]
      exact r2
    · have ec : (cutR Y i q.2.1 q.2.2.1).1 = 1 := by unfold cutR; rw [if_neg cb]
      rw [ec]
      have eX : yX (cutR Y i q.2.1 q.2.2.1).2 i = getPF (yX Y i) q.2.1 (yY Y (bestF (yY Y) q.2.1 q.2.2.1 (yN Y)).toNat).2.2.1 := by unfold cutR; rw [if_neg cb]; exact if_pos rfl
      exact t1 m2 _ _ _ _ (hw.trans (Prod.ext ec rfl)) r2 (by rw [eX]; exact h0) (by rw [eX]; exact hD) (by unfold cutR; rw [if_neg cb]; rfl) (by unfold cutR; rw [if_neg cb]; rfl) f2
  · -- give
    have n1' := Decidable.not_not.mp n1
    have hv := o2 (by omega)
    obtain ⟨f, hf⟩ := Int.eq_ofNat_of_zero_le hv.1
    have hw : workQ Y i q = giveR Y i q.2.1 := by
      unfold workQ
      rw [if_neg n0, if_pos n1']
    have f2 : SF b i (mI m 737 b) m (sA m (b + 19) i (bAnd (yX Y i 12) (bXor (bShl 1 q.2.1) (-1)))) := (SF.rfl rfl).w (slC_k (k := 12) (by omega))
    have x2 : RX (sA m (b + 19) i (bAnd (yX Y i 12) (bXor (bShl 1 q.2.1) (-1)))) b i (releaseF (yX Y i) q.2.1) := hx.set (k := 12) (by omega) (fun z => absurd z (by omega))
    have r2 := h.sf0 f2 hi6 x2 (fun c => c)
    by_cases cb : bAnd (yX Y i 12) (bShl 1 q.2.1) = 0
    · have er : giveR Y i q.2.1 = (1, Y) := by unfold giveR; rw [if_pos cb]
      have e12 : releaseF (yX Y i) q.2.1 = yX Y i := by
        unfold releaseF
        have : bAnd (yX Y i 12) (bXor (bShl 1 q.2.1) (-1)) = yX Y i 12 := by
          rw [hf] at cb ⊢
          exact bit_2 h12r (by omega) cb
        rw [this, up1_id]
      have eY : yx Y i (releaseF (yX Y i) q.2.1) = Y := by
        rw [e12]
        unfold yx
        rw [show Y.2.2.2.2.1 = yX Y from rfl, up1_id]
      rw [eY] at r2
      exact t1 _ Y _ _ _ (hw.trans er) r2 h0 hD rfl rfl f2.fr
    · have er : giveR Y i q.2.1 = (1, ye (yx Y i (releaseF (yX Y i) q.2.1)) q.2.1.toNat (wr (yE Y q.2.1.toNat + 1))) := by unfold giveR; rw [if_neg cb]
      have eX : yX (ye (yx Y i (releaseF (yX Y i) q.2.1)) q.2.1.toNat (wr (yE Y q.2.1.toNat + 1))) i = releaseF (yX Y i) q.2.1 := if_pos rfl
      exact t1 _ _ _ _ _ (hw.trans er) r2 (by rw [eX]; exact h0) (by rw [eX]; exact hD) rfl rfl f2.fr
  all_goals
    have n0' := Decidable.not_not.mp n0
    have hv := o2 (by omega)
    obtain ⟨f, hf⟩ := Int.eq_ofNat_of_zero_le hv.1
    have hb1 : bAnd (bShr (yX Y i 12) q.2.1) 1 = if bAnd (yX Y i 12) (bShl 1 q.2.1) = 0 then 0 else 1 := by rw [hf]; exact bit_1 h12r (by omega)
    rw [hb1] at nb
    have hw : workQ Y i q = takeR Y i q.2.1 := by
      unfold workQ
      rw [if_pos n0']
  · have cb : bAnd (yX Y i 12) (bShl 1 q.2.1) = 0 := Decidable.byContradiction (fun z => nb (by rw [if_neg z]))
    have er : takeR Y i q.2.1 = (0, Y) := by
      unfold takeR
      rw [if_pos cb, if_neg (by omega)]
    refine t0 m _ _ _ ?_ Fr.rfl
    rw [hac, hw, er]
    exact h
  · have cb : bAnd (yX Y i 12) (bShl 1 q.2.1) = 0 := Decidable.byContradiction (fun z => nb (by rw [if_neg z]))
    have er : takeR Y i q.2.1 = (0, yx Y i (awaitF (yX Y i) q.2.1 (yG Y 0) 0)) := by
      unfold takeR
      rw [if_pos cb, if_pos (by omega)]
    refine R_await (h.rw hi6) (Or.inl rfl) (fun m2 w2 f2 => ⟨rfl, t0 m2 _ _ _ ?_ f2.fr⟩)
    rw [h.2.1.1] at w2
    rw [hac, hw, er]
    exact h.sf0 f2 hi6 w2.2.2 (fun c => c)
  · have cb : ¬ (bAnd (yX Y i 12) (bShl 1 q.2.1) = 0) := fun z => by
      rw [if_pos z] at nb
      exact nb (by decide)
    have er : takeR Y i q.2.1 = (1, Y) := by
      unfold takeR
      rw [if_neg cb]
    exact t1 m Y _ _ _ (hw.trans er) h h0 hD rfl rfl Fr.rfl
end ZRI
