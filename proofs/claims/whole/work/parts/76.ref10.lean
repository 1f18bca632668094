theorem finF_g1 {Y : zY} {i : Nat} : yG (finF Y i) 1 = wr (yG Y 1 + 1) := by
  unfold finF
  split <;> rfl
theorem setR_g1 {Y : zY} {i : Nat} {o : Int} : yG (setR Y i o) 1 = yG Y 1 ∨ yG (setR Y i o) 1 = wr (yG Y 1 + 1) := by
  unfold setR
  split
  · exact Or.inl rfl
  · split
    · split
      · exact Or.inr finF_g1
      · exact Or.inl rfl
    · exact Or.inl rfl
theorem actF_g1 {Y : zY} {i : Nat} : yG (actF Y i) 1 = yG Y 1 ∨ yG (actF Y i) 1 = wr (yG Y 1 + 1) := by
  unfold actF
  split
  · exact Or.inl rfl
  · have h := setR_g1 (Y := (workR Y i).2) (i := i) (o := (workR Y i).1)
    rw [workR_g1] at h
    exact h
theorem actF_phi {Y : zY} {i : Nat} (h : 0 ≤ yG Y 1 ∧ yG Y 1 < 2000000000) : phiF Y ≤ phiF (actF Y i) ∧ yG Y 1 ≤ yG (actF Y i) 1 ∧ yG (actF Y i) 1 ≤ yG Y 1 + 1 := by
  have ew : wr (yG Y 1 + 1) = yG Y 1 + 1 := wr_id (by omega) (by omega)
  have h1 : yG (actF Y i) 1 = yG Y 1 ∨ yG (actF Y i) 1 = yG Y 1 + 1 := by
    have := actF_g1 (Y := Y) (i := i)
    rw [ew] at this
    exact this
  clear ew
  unfold phiF
  rcases h1 with z | z <;> rw [z]
  · exact ⟨Nat.le_refl _, Int.le_refl _, by omega⟩
  · refine ⟨?_, by omega, by omega⟩
    split
    · rw [if_pos (by omega)]; exact Nat.le_refl _
    · split <;> omega
theorem actF_idle {Y : zY} {i : Nat} (h : yX Y i 0 = 0) : actF Y i = Y := by
  unfold actF
  split
  · rfl
  · have e : workR Y i = (0, Y) := by
      unfold workR
      have : actP (yX Y i) (yL Y i) = none := by
        unfold actP
        rw [if_neg (fun z => z h)]
      rw [this]
    rw [e]
    show setR Y i 0 = Y
    exact (if_neg (by decide)).trans (if_neg (by decide))
theorem near_1 {a : Int} : a + sgnF (15 - a) = nearF a 15 1 := by
  have h := near_sgn (a := a) (b := 15) (g := 1) (by decide)
  rw [← h]
  have hs := sgn_pm (15 - a)
  have ha := absF_pm (15 - a)
  by_cases c : absF (15 - a) < 1
  · rw [if_pos c]
    rcases hs with ⟨h1, h2⟩ | ⟨h1, h2⟩ | ⟨h1, h2⟩ <;> rw [h2] <;> omega
  · rw [if_neg c]; omega
section ZRJ
variable {xs : Nat → Int} {xl d : Nat} {m : zM} {Q : zRes → zM → Prop}
theorem R_dry {b : Nat} {Y : zY} (h : RSt m b Y) (ho : stOk (yN Y) (yY Y)) (hQ : ∀ m', RSt m' b (dryY Y) → Fr (rg b (b + 31)) 0 0 m m' → Q (.inl none) m') : zW xs xl (d + 1) cX11_pass 11 (none) false [] 65 [zR b, zI 0] [] m Q := by
  obtain ⟨r2, k2, n2⟩ := h.1.at (by decide : (707, 2, 20, 60) ∈ rTab)
  obtain ⟨r3, k3, n3⟩ := h.1.at (by decide : (708, 3, 20, 60) ∈ rTab)
  have hn60 := h.2.1.2.2.2.2.2.2.1
  unfold dryY at hQ
  by_cases ct : wr (yG Y 0 - wr (wr (Int.tdiv (yG Y 0) 5) * 5)) ≠ 0
  · rw [if_pos ct] at hQ
    refine bX11_pass_65 ⟨h.1.1, ?_⟩
    rw [h.2.1.2.1, h.2.1.1]
    exact ⟨fun _ => hQ m h Fr.rfl, fun _ => ⟨fun _ => hQ m h Fr.rfl, fun z => absurd ct z⟩⟩
  · rw [if_neg ct] at hQ
    have lp : ∀ (k i : Nat) (m1 : zM), i + k = yN Y → (∀ j, j < yN Y → RP m1 b j (fstN (fun j => wetF (yY Y j)) (yY Y) i j)) → MF b pJ (pCs b) m m1 → mI m1 705 b = mI m 705 b → mI m1 738 b = mI m 738 b → zW xs xl (d + 1) cX11_pass 11 (none) false [] 65 [zR b, zI (i : Int)] [] m1 Q := by
      intro k
      induction k with
      | zero =>
        intro i m1 e hp f e5 e8
        have ei : i = yN Y := by omega
        subst ei
        refine bX11_pass_65 ⟨(f.rf h.1).1, ?_⟩
        rw [e5, h.2.1.2.1]
        refine ⟨fun _ => hQ m1 (h.pk f (fun j hj => ?_) (e5.trans h.2.1.2.1) (e8.trans h.2.1.2.2.2.2.2.1) hn60) (f.fr (fun a j z => by unfold pCs at z; omega)), fun z => absurd (Int.le_refl _) z⟩
        have := hp j hj
        rwa [show fstN (fun j => wetF (yY Y j)) (yY Y) (yN Y) j = wetF (yY Y j) from if_pos hj] at this
      | succ k ih =>
        intro i m1 e hp f e5 e8
        have hpi := hp i (by omega)
        rw [fstN_at] at hpi
        have hok := ho i (by omega)
        have e4 : mI m1 704 b = yG Y 0 := (f.1 704 b (fun z => by rcases z.2 with z | z <;> omega)).trans h.2.1.1
        have hgo : ∀ m2, RP m2 b i (wetF (yY Y i)) → MF b (fun _ => False) (pC b i) m1 m2 → zW xs xl (d + 1) cX11_pass 11 (none) false [] 65 [zR b, zI ((i + 1 : Nat) : Int)] [] m2 Q := by
          intro m2 p2 f2
          refine ih (i + 1) m2 (by omega) (fun j hj => ?_) (f.tr (f2.mono (fun _ z => z.elim) (fun a j z => pC_s z))) ((f2.1 705 b (fun z => z.2)).trans e5) ((f2.1 738 b (fun z => z.2)).trans e8)
          rw [← fstN_s]
          by_cases cj : j = i
          · subst cj
            rw [show up1 (fstN (fun j => wetF (yY Y j)) (yY Y) j) j (wetF (yY Y j)) j = wetF (yY Y j) from if_pos rfl]; exact p2
          · rw [show up1 (fstN (fun j => wetF (yY Y j)) (yY Y) i) i (wetF (yY Y i)) j = fstN (fun j => wetF (yY Y j)) (yY Y) i j from if_neg cj]
            exact (hp j hj).mv (fun a q z => f2.2.2 a q (fun z2 => by unfold pC at z z2; omega))
        refine bX11_pass_65 ⟨(f.rf h.1).1, ?_⟩
        rw [e5, h.2.1.2.1, e4, f.2.1.1, f.2.1.2.2.1, f.2.1.2.2.2.1, r2, k2, n2, r3, k3, n3, Int.toNat_natCast, hpi.1.2.1, hpi.1.2.2.1, wr_s (by omega)]
        refine ⟨fun z => absurd z (by omega), fun _ => ⟨fun z => absurd z ct, fun _ => ⟨rfl, by omega, fun c => ?_, fun c => ⟨rfl, by omega, ?_⟩⟩⟩⟩
        · have ew : wetF (yY Y i) = yY Y i := if_pos c
          exact hgo m1 (by rw [ew]; exact hpi) MF.rfl
        · have hw3 := hok.2.2.1
          have hni := near_1 (a := (yY Y i).2.2.1)
          have hsp := sgn_pm (15 - (yY Y i).2.2.1)
          rw [wr_id (x := 15 - (yY Y i).2.2.1) (by omega) (by omega)]
          refine R_signum (by omega) ⟨_, rfl, ?_⟩
          rw [f.2.1.2.2.1, f.2.1.2.2.2.1, k3, n3, wr_id (x := (yY Y i).2.2.1 + sgnF (15 - (yY Y i).2.2.1)) (by omega) (by omega), hni]
          have ew : wetF (yY Y i) = ((yY Y i).1, (yY Y i).2.1, nearF (yY Y i).2.2.1 15 1, (yY Y i).2.2.2) := if_neg c
          refine ⟨by omega, rfl, hgo _ ?_ (MF.rfl.w (Or.inl (by omega)))⟩
          rw [ew]
          obtain ⟨⟨q1, q2, q3, q4, q5⟩, kl, q6, q7⟩ := hpi
          refine ⟨⟨?_, ?_, zm_As, ?_, q5⟩, kl, q6, fun j q hq => ?_⟩
          · rw [(Eqv.nA (by omega)).2.2.1]; exact q1
          · rw [(Eqv.nA (by omega)).2.2.1]; exact q2
          · rw [(Eqv.nA (by omega)).2.2.1]; exact q4
          · rw [(Eqv.nA (by omega)).2.2.1]; exact q7 j q hq
    exact lp (yN Y) 0 m (by omega) (fun j hj => by rw [fstN_0]; exact h.2.2.1 j hj) MF.rfl rfl rfl
theorem R_pass {b : Nat} {Y : zY} (h : RSt m b Y) (hg : gOk (beatF Y)) (hk : ∀ k, k ≤ yS Y → yOk (actsF (grantR (yS Y) (beatF Y) 0) k) ∧ yG (actsF (grantR (yS Y) (beatF Y) 0) k) 1 < 2000000000) (hQ : ∀ m', RSt m' b (passF Y) → Fr (rg b (b + 31)) (1 + (phiF (passF Y) - phiF Y)) (6 + 6 * (phiF (passF Y) - phiF Y)) m m' → phiF Y ≤ phiF (passF Y) → Q (.inl none) m') : zC xs xl (d + 6) 147 [zR b] m Q := by
  have hs6 := h.2.1.2.2.2.2.2.2.2
  have hgr1 : ∀ (k : Nat) (Z : zY) (seen : Int), yG (grantR k Z seen) 1 = yG Z 1 := by
    intro k
    induction k with
    | zero => intro Z seen; rfl
    | succ k ih =>
      intro Z seen
      unfold grantR
      split
      · rfl
      · rw [ih]
        unfold grant1
        split <;> rfl
  have hdr : ∀ Z : zY, yG (dryY Z) 1 = yG Z 1 := fun Z => by
    unfold dryY
    split <;> rfl
  have hph : ∀ (Z W : zY), yG Z 1 = yG W 1 → phiF Z = phiF W := fun Z W e => by unfold phiF; rw [e]
  have hphd : phiF (passF Y) = phiF (actsF (grantR (yS Y) (beatF Y) 0) (yS Y)) := hph _ _ (hdr _)
  have hph0 : phiF (grantR (yS Y) (beatF Y) 0) = phiF Y := hph _ _ (hgr1 _ _ _)
  have lp : ∀ (k i : Nat) (m1 : zM), i + k = yS Y → RSt m1 b (actsF (grantR (yS Y) (beatF Y) 0) i) → phiF Y ≤ phiF (actsF (grantR (yS Y) (beatF Y) 0) i) → Fr (rg b (b + 31)) (1 + (phiF (actsF (grantR (yS Y) (beatF Y) 0) i) - phiF Y)) (6 + 6 * (phiF (actsF (grantR (yS Y) (beatF Y) 0) i) - phiF Y)) m m1 → zW xs xl (d + 5) cX11_pass 11 (none) false [] 16 [zR b, zI (i : Int)] [] m1 Q := by
    intro k
    induction k with
    | zero =>
      intro i m1 e g hle f
      have ei : i = yS Y := by omega
      subst ei
      have eS : yS (actsF (grantR (yS Y) (beatF Y) 0) (yS Y)) = yS Y := by rw [actsF_S, grantR_S]; rfl
      refine bX11_pass_16 ⟨g.1.1, ?_⟩
      rw [g.2.1.2.2.1, eS]
      refine ⟨fun _ => R_dry g (hk _ (Nat.le_refl _)).1.1.1 (fun m2 g2 f2 => ?_), fun z => absurd (Int.le_refl _) z⟩
      rw [hphd] at hQ
      exact hQ m2 g2 (f.tr f2 (Nat.le_refl _) (Nat.le_refl _)) hle
    | succ k ih =>
      intro i m1 e g hle f
      have eS : yS (actsF (grantR (yS Y) (beatF Y) 0) i) = yS Y := by rw [actsF_S, grantR_S]; rfl
      obtain ⟨hy, hy2⟩ := hk i (by omega)
      have hsl := hy.2.1.2.1 i (by omega)
      have hgg : 0 ≤ yG (actsF (grantR (yS Y) (beatF Y) 0) i) 1 := hy.2.2.2
      obtain ⟨r1, k1, n1⟩ := g.1.at (by decide : (714, 8, 21, 6) ∈ rTab)
      obtain ⟨r2, k2, n2⟩ := g.1.at (by decide : (726, 20, 20, 6) ∈ rTab)
      obtain ⟨r3, k3, n3⟩ := g.1.at (by decide : (728, 22, 21, 6) ∈ rTab)
      have hx := g.2.2.2.2.1 i (by omega)
      have v0 : mA m1 (b + 8) i = yX (actsF (grantR (yS Y) (beatF Y) 0) i) i 0 := hx.1 0 (by omega)
      have v9 : mA m1 (b + 20) i = yX (actsF (grantR (yS Y) (beatF Y) 0) i) i 9 := hx.1 9 (by omega)
      have v11 : mA m1 (b + 22) i = yX (actsF (grantR (yS Y) (beatF Y) 0) i) i 11 := hx.1 11 (by omega)
      have hact := actF_phi (Y := actsF (grantR (yS Y) (beatF Y) 0) i) (i := i) ⟨hgg, hy2⟩
      have hn : ∀ m2, RSt m2 b (actF (actsF (grantR (yS Y) (beatF Y) 0) i) i) → Fr (rg b (b + 31)) (phiF (actF (actsF (grantR (yS Y) (beatF Y) 0) i) i) - phiF (actsF (grantR (yS Y) (beatF Y) 0) i)) (6 * (phiF (actF (actsF (grantR (yS Y) (beatF Y) 0) i) i) - phiF (actsF (grantR (yS Y) (beatF Y) 0) i))) m1 m2 → zW xs xl (d + 5) cX11_pass 11 (none) false [] 16 [zR b, zI ((i + 1 : Nat) : Int)] [] m2 Q := fun m2 g2 f2 => ih (i + 1) m2 (by omega) g2 (by show _ ≤ phiF (actF _ i); omega) (f.tr f2 (by show _ ≤ 1 + (phiF (actF _ i) - _); omega) (by show _ ≤ 6 + 6 * (phiF (actF _ i) - _); omega))
      have hskip : actF (actsF (grantR (yS Y) (beatF Y) 0) i) i = actsF (grantR (yS Y) (beatF Y) 0) i → zW xs xl (d + 5) cX11_pass 11 (none) false [] 16 [zR b, zI ((i + 1 : Nat) : Int)] [] m1 Q := fun e => hn m1 (by rw [e]; exact g) Fr.rfl
      have hgo : yX (actsF (grantR (yS Y) (beatF Y) 0) i) i 0 ≠ 0 → yX (actsF (grantR (yS Y) (beatF Y) 0) i) i 11 = 0 → ∀ Q', (∀ m2, zW xs xl (d + 5) cX11_pass 11 (none) false [] 16 [zR b, zI ((i + 1 : Nat) : Int)] [] m2 Q → Q' (.inl none) m2) → zC xs xl (d + 5) 148 [zR b, zI (i : Int)] m1 Q' := fun c0 c11 Q' hq' => R_act g (by omega) hy.1.1 hsl c0 c11 ⟨hgg, hy2⟩ (fun m2 g2 f2 => hq' m2 (hn m2 g2 f2))
      refine bX11_pass_16 ⟨g.1.1, ?_⟩
      rw [g.2.1.2.2.1, eS, r1, k1, n1, r2, k2, n2, r3, k3, n3, Int.toNat_natCast, v0, v9, v11, wr_s (by omega)]
      refine ⟨fun z => absurd z (by omega), fun _ => ⟨Or.inl rfl, by omega, fun c => hskip (actF_idle c), fun c => ⟨rfl, by omega, fun c2 => ?_, fun c2 => ⟨Or.inl rfl, by omega, fun c3 => hskip (if_pos c3), fun c3 => ?_⟩⟩⟩⟩
      · have c11 : yX (actsF (grantR (yS Y) (beatF Y) 0) i) i 11 = 0 := Decidable.byContradiction (fun z => by
          have := hsl.2.2.2.2.2.2.2.1 z
          omega)
        exact hgo c c11 _ (fun m2 q => ⟨rfl, q⟩)
      · exact hgo c (Decidable.not_not.mp c3) _ (fun m2 q => ⟨rfl, q⟩)
  refine bX11_pass_0 ⟨h.1.1, ?_⟩
  rw [h.2.1.1]
  have h1 : RSt (sI m 704 b (wr (yG Y 0 + 1))) b (beatF Y) := h.g (Or.inl ⟨rfl, rfl⟩)
  have f1 : Fr (rg b (b + 31)) 0 0 m (sI m 704 b (wr (yG Y 0 + 1))) := Fr.rfl.sI (by unfold rg; omega)
  refine R_giveOut h1 hg (fun m2 g2 f2 => ⟨rfl, ?_⟩)
  have g2' : RSt m2 b (grantR (yS Y) (beatF Y) 0) := g2
  exact lp (yS Y) 0 m2 (by omega) g2' (by show phiF Y ≤ phiF (grantR _ _ _); rw [hph0]; exact Nat.le_refl _) ((f1.tr f2 (Nat.le_refl _) (Nat.le_refl _)).mono (fun _ _ z => z) (by omega) (by omega))
end ZRJ
