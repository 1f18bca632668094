/-! the reference lends and foresees -/
theorem up1_lend {X : Nat → Nat → Int} {f t : Nat} {a b c : Nat → Int} : up1 (up1 X t a) f b = up1 (up1 (up1 X f c) t a) f b := by
  funext i
  by_cases c1 : i = f
  · exact (if_pos c1).trans (if_pos c1).symm
  · by_cases c2 : i = t
    · exact ((if_neg c1).trans (if_pos c2)).trans ((if_neg c1).trans (if_pos c2)).symm
    · exact ((if_neg c1).trans (if_neg c2)).trans ((if_neg c1).trans ((if_neg c2).trans (if_neg c1))).symm
theorem up1_up1 {α : Type} {X : Nat → α} {f : Nat} {a b : α} : up1 (up1 X f a) f b = up1 X f b := by
  funext i
  by_cases c : i = f
  · exact (if_pos c).trans (if_pos c).symm
  · exact (if_neg c).trans ((if_neg c).trans (if_neg c).symm)
theorem phi_le {Y : zY} : phiF Y ≤ 40 := by
  unfold phiF
  split <;> omega
theorem Md.ah {m m' : zM} {x k u : Nat} {B : zB} (h : Md m x B) (f : Fr (rg (x + 39) (x + 70)) k u m m') (hA : RF m' (x + 39)) : Md m' x B := by
  obtain ⟨h1, h2, h3, h4, h5, h6⟩ := h
  have hz := h1.2.1
  have e : ∀ o, o < 8 → Eqv m m' (x + o) := fun o ho => f.1 _ (by omega) (fun z => by unfold rg at z; omega)
  have e0 : Eqv m m' x := e 0 (by omega)
  exact ⟨h1.mv e f.2.1, ⟨(e0.1 770).trans h2.1, h2.2.1, fun i hi => ((e 1 (by omega)).2.2.1 i).trans (h2.2.2 i hi)⟩, (e0.1 771).trans h3, fun i hi => (h4 i hi).mv (e 5 (by omega)) (e 6 (by omega)), h5.mv f (by omega), hA⟩
theorem setR_g0 {Y : zY} {i : Nat} {o : Int} : yG (setR Y i o) 0 = yG Y 0 := by
  unfold setR finF
  split
  · rfl
  · split
    · split
      · split <;> rfl
      · rfl
    · rfl
theorem workR_g0 {Y : zY} {i : Nat} : yG (workR Y i).2 0 = yG Y 0 := by
  unfold workR
  split
  · rfl
  · unfold workQ
    split
    · unfold takeR
      split
      · show yG (if yX Y i 9 < 0 then _ else Y) 0 = _
        split <;> rfl
      · rfl
    · split
      · unfold giveR
        show yG (if _ then Y else _) 0 = _
        split <;> rfl
      · split
        · unfold cutR
          split <;> rfl
        · split
          · rfl
          · split <;> rfl
theorem acts_g0 {Y : zY} : ∀ k, yG (actsF Y k) 0 = yG Y 0
  | 0 => rfl
  | k + 1 => by
    show yG (actF (actsF Y k) k) 0 = _
    unfold actF
    split
    · exact acts_g0 k
    · rw [setR_g0, workR_g0, acts_g0 k]
theorem grantR_g0 : ∀ (k : Nat) (Z : zY) (seen : Int), yG (grantR k Z seen) 0 = yG Z 0
  | 0, _, _ => rfl
  | k + 1, Z, seen => by
    unfold grantR
    split
    · rfl
    · rw [grantR_g0 k]
      unfold grant1
      split <;> rfl
theorem pass_g0 {Y : zY} : yG (passF Y) 0 = wr (yG Y 0 + 1) := by
  unfold passF dryY
  split
  · rw [acts_g0, grantR_g0]; rfl
  · show yG (actsF (grantR (yS Y) (beatF Y) 0) (yS Y)) 0 = _
    rw [acts_g0, grantR_g0]; rfl
theorem passN_g0 {Y : zY} (h : 0 ≤ yG Y 0 ∧ yG Y 0 < 1000000000) : ∀ k : Nat, k ≤ 1000000 → yG (passN k Y) 0 = yG Y 0 + k
  | 0, _ => by show yG Y 0 = yG Y 0 + ((0 : Nat) : Int); omega
  | k + 1, hk => by
    show yG (passF (passN k Y)) 0 = _
    rw [pass_g0, passN_g0 h k (by omega), wr_id (by omega) (by omega)]
    omega
theorem foreF_in {Y : zY} (h : 0 ≤ yG Y 0 ∧ yG Y 0 < 1000000000) : ∀ k : Nat, k ≤ 1000000 → foreF Y k = -1 ∨ 0 ≤ foreF Y k
  | 0, _ => Or.inl rfl
  | k + 1, hk => by
    have q := foreF_in h k (by omega)
    have g := passN_g0 h (k + 1) hk
    show (if 0 ≤ foreF Y k then foreF Y k else if yG (passN (k + 1) Y) 1 ≤ yG Y 1 then foreF Y k else yG (passN (k + 1) Y) 0) = -1 ∨ 0 ≤ (if 0 ≤ foreF Y k then foreF Y k else if yG (passN (k + 1) Y) 1 ≤ yG Y 1 then foreF Y k else yG (passN (k + 1) Y) 0)
    split
    · exact q
    · split
      · exact q
      · rw [g]; omega
section ZMH
variable {xs : Nat → Int} {xl d : Nat} {m : zM} {Q : zRes → zM → Prop}
theorem M_foresee {x : Nat} {B : zB} {k w : Int} (h : Md m x B) (hy : yOk (bY B)) (he : eN (bY B)) (hg : yG (bY B) 1 < 800000000) (ht : 0 ≤ yG (bY B) 0 ∧ yG (bY B) 0 < 1000000000) (hQ : eM m x 240 1440 (aForesee B k w) B Q) : zC xs xl (d + 7) 206 [zR x, zI k, zI w] m Q := by
  have no1 : ¬ (1 ≤ k ∧ k ≤ 200) → zC xs xl (d + 6) 162 [zR x, zI 1] (sI m 768 x 0) (fun r m4 => ∃ v5 : Int, r = .inl (some (zI v5)) ∧ Q (.inl (some (zI v5))) m4) := fun c => by
    rw [show aForesee B k w = (1, 0) from if_pos c] at hQ
    exact eM.no (n := 1) (by decide) h hQ thF h.th
  refine bX12_foresee_0 ⟨h.1.1, M_in (fun c => ⟨1, rfl, fun _ => ?_, fun z => absurd (by decide) z⟩) (fun c => ⟨0, rfl, fun z => absurd rfl z, fun _ => ⟨h.1.1, no1 c⟩⟩)⟩
  have e1 : aForesee B k w = if ¬ inF w 4 then (2, 0) else if w = 0 then (0, wr (yG (passN k.toNat (bY B)) 1 - yG (bY B) 1)) else if w = 1 then (0, wr (yG (passN k.toNat (bY B)) 2 - yG (bY B) 2)) else if w = 2 then (0, stuckF (passN k.toNat (bY B))) else (0, foreF (bY B) k.toNat) := if_neg (fun z => z c)
  rw [e1] at hQ
  refine M_in (fun c2 => ⟨1, rfl, fun _ => ?_, fun z => absurd (by decide) z⟩) (fun c2 => ⟨0, rfl, fun z => absurd rfl z, fun _ => ⟨h.1.1, ?_⟩⟩)
  · rw [if_neg (fun z => z ⟨c2.1, by omega⟩)] at hQ
    obtain ⟨n, hn⟩ := Int.eq_ofNat_of_zero_le (show 0 ≤ k by omega)
    subst hn
    rw [Int.toNat_natCast] at hQ
    have h0 : Md (sI m 768 x 0) x B := h.th
    have hR := h0.2.2.2.2.1
    rw [h0.s9, h0.s8]
    refine ⟨h.1.1, h0.2.2.2.2.2.1, R_become h0.2.2.2.2.2 hR (fun i hi => (hy.2.1.2.1 i hi).1) (Or.inr (by omega)) (fun m1 r1 f1 => ⟨rfl, ?_⟩)⟩
    have f1' : Fr (rg (x + 39) (x + 70)) 0 0 (sI m 768 x 0) m1 := f1
    have hphi := phi_le (Y := bY B)
    have lp : ∀ (r i : Nat) (m' : zM), i + r = n → RSt m' (x + 39) (passN i (bY B)) → Fr (rg (x + 39) (x + 70)) (i + (phiF (passN i (bY B)) - phiF (bY B))) (6 * i + 6 * (phiF (passN i (bY B)) - phiF (bY B))) (sI m 768 x 0) m' → phiF (bY B) ≤ phiF (passN i (bY B)) → zW xs xl (d + 6) cX12_foresee 12 (some .int) false [] 53 [zR x, zI (n : Int), zI w, zI (foreF (bY B) i), zI (i : Int)] [] m' Q := by
      intro r
      induction r with
      | zero =>
        intro i m' ei g1 g2 g3
        have ei' : i = n := by omega
        subst ei'
        have hMd := h0.ah g2 g1.1
        have hR' := hMd.2.2.2.2.1
        have hp := passN_yOk hy (by omega) i (by omega)
        have hpe := passN_eN hy he (by omega) i (by omega)
        have hphi2 := phi_le (Y := passN i (bY B))
        have t1 : mI m' 768 x = 0 := h.t1 g2 (by omega)
        have F : Fr (rg x (x + 70)) 240 1440 m m' := (fr_to thF g2 (Or.inr ⟨by omega, by omega⟩)).mono (fun _ _ z => z) (by omega) (by omega)
        refine bX12_foresee_53 ⟨fun _ => ?_, fun z => absurd (Int.le_refl _) z⟩
        rw [hMd.s8, hMd.s9, g1.2.1.2.2.2.1, g1.2.1.2.2.2.2.1, hR'.2.1.2.2.2.1, hR'.2.1.2.2.2.2.1]
        refine ⟨fun z => ⟨fun z2 => ⟨fun z3 => ?_, fun z3 => ⟨hMd.1.1, g1.1.1, R_stuck g1 hp.1 hpe ⟨_, rfl, ?_⟩⟩⟩, fun z2 => ⟨hMd.1.1, g1.1.1, hR'.1.1, ?_⟩⟩, fun z => ⟨hMd.1.1, g1.1.1, hR'.1.1, ?_⟩⟩
        · rw [if_neg z, if_neg z2, if_neg z3] at hQ
          exact hQ _ _ hMd t1 (fun _ => rfl) F
        · rw [if_neg z, if_neg z2, if_pos (Decidable.not_not.mp z3)] at hQ
          exact hQ _ _ hMd t1 (fun _ => rfl) F
        · rw [if_neg z, if_pos (Decidable.not_not.mp z2)] at hQ
          exact hQ _ _ hMd t1 (fun _ => rfl) F
        · rw [if_pos (Decidable.not_not.mp z)] at hQ
          exact hQ _ _ hMd t1 (fun _ => rfl) F
      | succ r ih =>
        intro i m' ei g1 g2 g3
        have hMd := h0.ah g2 g1.1
        have hp := passN_yOk hy (by omega) i (by omega)
        refine bX12_foresee_53 ⟨fun z => absurd z (by omega), fun _ => ⟨hMd.1.1, ?_⟩⟩
        rw [hMd.s9, wr_s (i := i) (by omega)]
        refine ⟨g1.1.1, R_passY g1 hp.1 (by omega) (fun m2 q1 q2 q3 => ⟨rfl, ?_⟩)⟩
        have q2' : Fr (rg (x + 39) (x + 70)) (1 + (phiF (passF (passN i (bY B))) - phiF (passN i (bY B)))) (6 + 6 * (phiF (passF (passN i (bY B))) - phiF (passN i (bY B)))) m' m2 := q2
        have g2' : Fr (rg (x + 39) (x + 70)) ((i + 1) + (phiF (passN (i + 1) (bY B)) - phiF (bY B))) (6 * (i + 1) + 6 * (phiF (passN (i + 1) (bY B)) - phiF (bY B))) (sI m 768 x 0) m2 := by
          refine g2.tr q2' ?_ ?_
          · show _ ≤ (i + 1) + (phiF (passF (passN i (bY B))) - phiF (bY B)); omega
          · show _ ≤ 6 * (i + 1) + 6 * (phiF (passF (passN i (bY B))) - phiF (bY B)); omega
        have nx := ih (i + 1) m2 (by omega) q1 g2' (by show phiF (bY B) ≤ phiF (passF (passN i (bY B))); omega)
        have hMd2 := h0.ah g2' q1.1
        have hR2 := hMd2.2.2.2.2.1
        have ef : foreF (bY B) (i + 1) = if 0 ≤ foreF (bY B) i then foreF (bY B) i else if yG (passF (passN i (bY B))) 1 ≤ yG (bY B) 1 then foreF (bY B) i else yG (passF (passN i (bY B))) 0 := rfl
        have hfi := foreF_in ht i (by omega)
        rw [hMd2.s9, hMd2.s8, q1.2.1.1, q1.2.1.2.2.2.1, hR2.2.1.2.2.2.1]
        refine ⟨fun z => ?_, fun z => ⟨hMd2.1.1, q1.1.1, hR2.1.1, fun z2 => ?_, fun z2 => ?_⟩⟩
        · rw [ef, if_pos (by omega)] at nx; exact nx
        · rw [ef, if_neg (by omega), if_pos z2] at nx; exact nx
        · rw [ef, if_neg (by omega), if_neg z2] at nx; exact nx
    exact lp n 0 m1 (by omega) r1 (f1'.mono (fun _ _ z => z) (Nat.zero_le _) (Nat.zero_le _)) (Nat.le_refl _)
  · rw [if_pos (fun z => c2 ⟨z.1, by have := z.2; omega⟩)] at hQ
    exact eM.no (n := 2) (by decide) h hQ thF h.th
theorem M_lend {x : Nat} {B : zB} {f t so : Int} (h : Md m x B) (hy : yOk (bY B)) (hQ : eM m x 0 0 (aLend B f t so).1 (aLend B f t so).2 Q) : zC xs xl (d + 3) 198 [zR x, zI f, zI t, zI so] m Q := by
  have h6 := hy.2.1.1
  have h0 : Md (sI m 768 x 0) x B := h.th
  have hR := h0.2.2.2.2.1
  have no1 : ¬ (inF f (yS (bY B)) ∧ inF t (yS (bY B))) → zC xs xl (d + 2) 162 [zR x, zI 1] (sI m 768 x 0) (fun r m4 => ∃ v5 : Int, r = .inl (some (zI v5)) ∧ Q (.inl (some (zI v5))) m4) := fun c => by
    rw [show aLend B f t so = ((1, 0), B) from if_pos c] at hQ
    exact eM.no (n := 1) (by decide) h hQ thF h.th
  refine bX12_lend_0 ⟨h.1.1, M_isSlip h.th (fun c => ⟨1, rfl, fun z => absurd z (by decide), fun _ => ⟨h.1.1, ?_⟩⟩) (fun c => ⟨0, rfl, fun _ => ⟨h.1.1, no1 (fun z => c z.1)⟩, fun z => absurd rfl z⟩)⟩
  refine M_isSlip h.th (fun c2 => ⟨1, rfl, fun _ => ?_, fun z => absurd (by decide) z⟩) (fun c2 => ⟨0, rfl, fun z => absurd rfl z, fun _ => ⟨h.1.1, no1 (fun z => c2 z.2)⟩⟩)
  have e1 : aLend B f t so = if f = t ∨ ¬ inF so 5 then ((2, 0), B) else if bAnd (yX (bY B) f.toNat 12) (bShl 1 so) = 0 ∨ yX (bY B) f.toNat 11 ≠ 0 ∨ yX (bY B) t.toNat 9 ≠ so then ((3, 0), B) else ((0, wtA (yX (lendY (bY B) f.toNat t.toNat so)) (yS (bY B)) 5), (lendY (bY B) f.toNat t.toNat so, B.2)) := if_neg (fun z => z ⟨c, c2⟩)
  rw [e1] at hQ
  refine ⟨fun z => ⟨h.1.1, ?_⟩, fun z => M_in (fun c3 => ⟨1, rfl, fun _ => ⟨h.1.1, ?_⟩, fun z => absurd (by decide) z⟩) (fun c3 => ⟨0, rfl, fun z => absurd rfl z, fun _ => ⟨h.1.1, ?_⟩⟩)⟩
  · rw [if_pos (Or.inl z)] at hQ
    exact eM.no (n := 2) (by decide) h hQ thF h.th
  · rw [if_neg (fun q => q.elim z (fun w => w ⟨c3.1, by omega⟩))] at hQ
    obtain ⟨a, ha⟩ := Int.eq_ofNat_of_zero_le c.1
    obtain ⟨b, hb⟩ := Int.eq_ofNat_of_zero_le c2.1
    obtain ⟨g, hg⟩ := Int.eq_ofNat_of_zero_le c3.1
    subst ha hb hg
    have a6 : a < 6 := by have := c.2; omega
    have b6 : b < 6 := by have := c2.2; omega
    have aS : a < yS (bY B) := by have := c.2; omega
    have bS : b < yS (bY B) := by have := c2.2; omega
    have g5 : g < 5 := by omega
    have hab : a ≠ b := fun w => z (by rw [w])
    obtain ⟨r1, k1, n1⟩ := hR.1.at (by decide : (725, 19, 20, 6) ∈ rTab)
    obtain ⟨r2, k2, n2⟩ := hR.1.at (by decide : (728, 22, 21, 6) ∈ rTab)
    obtain ⟨r3, k3, n3⟩ := hR.1.at (by decide : (726, 20, 20, 6) ∈ rTab)
    have e12 : mA (sI m 768 x 0) (x + 8 + 19) a = yX (bY B) a 12 := (hR.2.2.2.2.1 a a6).1 12 (by omega)
    have e11 : mA (sI m 768 x 0) (x + 8 + 22) a = yX (bY B) a 11 := (hR.2.2.2.2.1 a a6).1 11 (by omega)
    have e9 : mA (sI m 768 x 0) (x + 8 + 20) b = yX (bY B) b 9 := (hR.2.2.2.2.1 b b6).1 9 (by omega)
    have hbt := bit_1 (hy.2.1.2.1 a a6).2.2.2.2.2.2.1 g5
    rw [Int.toNat_natCast, Int.toNat_natCast] at hQ
    rw [h0.s8, r1, k1, n1, r2, k2, n2, r3, k3, n3, Int.toNat_natCast, Int.toNat_natCast, e12, e11, e9, hbt]
    refine ⟨hR.1.1, rfl, by omega, fun w => ?_, fun w => ⟨Or.inl rfl, by omega, fun w2 => ?_, fun w2 => ⟨rfl, by omega, fun w3 => ?_, fun w3 => ?_⟩⟩⟩
    · have q0 : bAnd (yX (bY B) a 12) (bShl 1 (g : Int)) = 0 := Decidable.byContradiction (fun q => by rw [if_neg q] at w; exact absurd w (by decide))
      rw [if_pos (Or.inl q0)] at hQ
      exact eM.no (n := 3) (by decide) h hQ thF h.th
    · rw [if_pos (Or.inr (Or.inl w2))] at hQ
      exact eM.no (n := 3) (by decide) h hQ thF h.th
    · have q0 : ¬ bAnd (yX (bY B) a 12) (bShl 1 (g : Int)) = 0 := fun q => w (if_pos q)
      rw [if_neg (fun q => q.elim q0 (fun q => q.elim w2 (fun q => q w3)))] at hQ
      refine R_get (hR.rw b6) (fun m1 p1 f1 => ⟨rfl, ?_⟩)
      rw [w3] at p1
      have q1 : RSt m1 (x + 8) (yx (bY B) b (receiveF (yX (bY B) b) (g : Int))) := hR.sf0 f1 b6 p1.2.2 (fun z => z)
      have F1 : Fr (rg (x + 8) (x + 39)) 0 0 (sI m 768 x 0) m1 := f1.fr
      have M1 := h0.st1 F1 q1
      obtain ⟨r1', k1', n1'⟩ := q1.1.at (by decide : (725, 19, 20, 6) ∈ rTab)
      have xa : yX (yx (bY B) b (receiveF (yX (bY B) b) (g : Int))) a = yX (bY B) a := if_neg hab
      have hxa := q1.2.2.2.2.1 a a6
      rw [xa] at hxa
      have e12' : mA m1 (x + 8 + 19) a = yX (bY B) a 12 := hxa.1 12 (by omega)
      rw [M1.s8, r1', k1', n1', e12']
      refine ⟨M1.1.1, q1.1.1, rfl, by omega, ?_⟩
      have f2 : SF (x + 8) a (mI m1 737 (x + 8)) m1 (sA m1 (x + 8 + 19) a (bAnd (yX (bY B) a 12) (bXor (bShl 1 (g : Int)) (-1)))) := (SF.rfl rfl).w (slC_k (k := 12) (by omega))
      have p2 : RX (sA m1 (x + 8 + 19) a (bAnd (yX (bY B) a 12) (bXor (bShl 1 (g : Int)) (-1)))) (x + 8) a (releaseF (yX (bY B) a) (g : Int)) := hxa.set (k := 12) (by omega) (fun z => absurd z (by omega))
      have q2 := q1.sf0 f2 a6 p2 (fun z => by rw [xa]; exact z)
      have x2 : yX (yx (yx (bY B) b (receiveF (yX (bY B) b) (g : Int))) a (releaseF (yX (bY B) a) (g : Int))) a = releaseF (yX (bY B) a) (g : Int) := if_pos rfl
      have w2' := q2.rw a6
      refine R_await w2' (Or.inr rfl) (fun m3 p3 f3 => ?_)
      rw [x2, q2.2.1.1] at p3
      have q3 := q2.sf0 f3 a6 p3.2.2 (fun z => by rw [x2]; exact z)
      have F3 : Fr (rg (x + 8) (x + 39)) 0 0 (sI m 768 x 0) m3 := (F1.tr0 f2.fr).tr0 f3.fr
      have eL : lendY (bY B) a b (g : Int) = yx (yx (yx (bY B) b (receiveF (yX (bY B) b) (g : Int))) a (releaseF (yX (bY B) a) (g : Int))) a (awaitF (releaseF (yX (bY B) a) (g : Int)) (g : Int) (yG (bY B) 0) 1) := by
        have xb : yX (yx (bY B) a (releaseF (yX (bY B) a) (g : Int))) b = yX (bY B) b := if_neg (fun z => hab z.symm)
        have xa2 : yX (yx (yx (bY B) a (releaseF (yX (bY B) a) (g : Int))) b (receiveF (yX (bY B) b) (g : Int))) a = releaseF (yX (bY B) a) (g : Int) := (if_neg hab).trans (if_pos rfl)
        unfold lendY
        rw [xb, xa2]
        unfold yx
        show (_, _, _, _, up1 (up1 (up1 (yX (bY B)) a _) b _) a _, _) = (_, _, _, _, up1 (up1 (up1 (yX (bY B)) b _) a _) a _, _)
        rw [← up1_lend (X := yX (bY B)) (f := a) (t := b), up1_up1]
      have q3' : RSt m3 (x + 8) (lendY (bY B) a b (g : Int)) := by rw [eL]; exact q3
      have M3 := h0.st1 F3 q3'
      rw [M3.s8]
      refine ⟨rfl, M3.1.1, q3.1.1, R_waiting q3' ⟨_, rfl, hQ _ _ M3 (h.t1 F3 (by omega)) (fun _ => ?_) (h.f1 F3)⟩⟩
      refine waitR_a _ h6 (fun i hi => ?_)
      have hi' : i < yS (bY B) := hi
      rw [eL]
      by_cases ci : i = a
      · rw [show yX (yx (yx (yx (bY B) b (receiveF (yX (bY B) b) (g : Int))) a (releaseF (yX (bY B) a) (g : Int))) a (awaitF (releaseF (yX (bY B) a) (g : Int)) (g : Int) (yG (bY B) 0) 1)) i = awaitF (releaseF (yX (bY B) a) (g : Int)) (g : Int) (yG (bY B) 0) 1 from if_pos ci]
        show -1 ≤ (g : Int) ∧ (g : Int) ≤ 4
        omega
      · by_cases cb : i = b
        · rw [show yX (yx (yx (yx (bY B) b (receiveF (yX (bY B) b) (g : Int))) a (releaseF (yX (bY B) a) (g : Int))) a (awaitF (releaseF (yX (bY B) a) (g : Int)) (g : Int) (yG (bY B) 0) 1)) i = receiveF (yX (bY B) b) (g : Int) from (if_neg ci).trans ((if_neg ci).trans (if_pos cb))]
          show -1 ≤ (-1 : Int) ∧ (-1 : Int) ≤ 4
          decide
        · rw [show yX (yx (yx (yx (bY B) b (receiveF (yX (bY B) b) (g : Int))) a (releaseF (yX (bY B) a) (g : Int))) a (awaitF (releaseF (yX (bY B) a) (g : Int)) (g : Int) (yG (bY B) 0) 1)) i = yX (bY B) i from (if_neg ci).trans ((if_neg ci).trans (if_neg cb))]
          exact (hy.2.1.2.1 i (by omega)).2.2.2.2.2.1
    · rw [if_pos (Or.inr (Or.inr w3))] at hQ
      exact eM.no (n := 3) (by decide) h hQ thF h.th
  · rw [if_pos (Or.inr (fun w => c3 ⟨w.1, by have := w.2; omega⟩))] at hQ
    exact eM.no (n := 2) (by decide) h hQ thF h.th
end ZMH
