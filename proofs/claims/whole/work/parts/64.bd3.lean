def aStart (B : zB) (i p t : Int) : (Nat × Int) × zB := if ¬ inF i (yS (bY B)) then ((1, 0), B) else if ¬ (inF p 6 ∧ (0 ≤ t ∧ t ≤ 60)) then ((2, 0), B) else if (bP B p.toNat).length = 0 ∨ yX (bY B) i.toNat 0 ≠ 0 then ((3, 0), B) else ((0, cntB (yX (yl (yx (bY B) i.toNat (beginF (yX (bY B) i.toNat) p t (yG (bY B) 0))) i.toNat (bP B p.toNat))) (yS (bY B))), (yl (yx (bY B) i.toNat (beginF (yX (bY B) i.toNat) p t (yG (bY B) 0))) i.toNat (bP B p.toNat), B.2))
def lendY (Y : zY) (f t : Nat) (so : Int) : zY := yx (yx (yx Y f (releaseF (yX Y f) so)) t (receiveF (yX (yx Y f (releaseF (yX Y f) so)) t) so)) f (awaitF (yX (yx (yx Y f (releaseF (yX Y f) so)) t (receiveF (yX (yx Y f (releaseF (yX Y f) so)) t) so)) f) so (yG Y 0) 1)
def aLend (B : zB) (f t so : Int) : (Nat × Int) × zB := if ¬ (inF f (yS (bY B)) ∧ inF t (yS (bY B))) then ((1, 0), B) else if f = t ∨ ¬ inF so 5 then ((2, 0), B) else if bAnd (yX (bY B) f.toNat 12) (bShl 1 so) = 0 ∨ yX (bY B) f.toNat 11 ≠ 0 ∨ yX (bY B) t.toNat 9 ≠ so then ((3, 0), B) else ((0, wtA (yX (lendY (bY B) f.toNat t.toNat so)) (yS (bY B)) 5), (lendY (bY B) f.toNat t.toNat so, B.2))
def passN : Nat → zY → zY
  | 0, Y => Y
  | k + 1, Y => passF (passN k Y)
def yW (Y : zY) : Prop := ∀ k, k ≤ yS Y → yB (actsF (grantR (yS Y) (beatF Y) 0) k)
def aRun (B : zB) (k : Int) : (Nat × Int) × zB := if ¬ (1 ≤ k ∧ k ≤ 200) then ((1, 0), B) else ((0, wr (yG (passN k.toNat (bY B)) 1 - yG (bY B) 1)), (passN k.toNat (bY B), B.2))
def foreF (Y : zY) : Nat → Int
  | 0 => -1
  | i + 1 => if 0 ≤ foreF Y i then foreF Y i else if yG (passN (i + 1) Y) 1 ≤ yG Y 1 then foreF Y i else yG (passN (i + 1) Y) 0
def aForesee (B : zB) (k w : Int) : Nat × Int := if ¬ (1 ≤ k ∧ k ≤ 200) then (1, 0) else if ¬ inF w 4 then (2, 0) else if w = 0 then (0, wr (yG (passN k.toNat (bY B)) 1 - yG (bY B) 1)) else if w = 1 then (0, wr (yG (passN k.toNat (bY B)) 2 - yG (bY B) 2)) else if w = 2 then (0, stuckF (passN k.toNat (bY B))) else (0, foreF (bY B) k.toNat)
theorem passF_S (Y : zY) : yS (passF Y) = yS Y := by
  have h : ∀ Z, yS (dryY Z) = yS Z := fun Z => by
    unfold dryY
    split <;> rfl
  unfold passF
  rw [h, actsF_S, grantR_S]
  rfl
theorem passN_S (Y : zY) : ∀ k, yS (passN k Y) = yS Y
  | 0 => rfl
  | k + 1 => by
    show yS (passF (passN k Y)) = yS Y
    rw [passF_S, passN_S Y k]
theorem fr_by0 {x lo hi : Nat} {m m' : zM} (f : Fr (rg lo hi) 0 0 m m') (h1 : x ≤ lo) (h2 : hi ≤ x + 392) : Fr (rg x (x + 392)) 0 0 m m' := f.mono (fun a _ z => ⟨Nat.le_trans h1 z.1, Nat.lt_of_lt_of_le z.2 h2⟩) (Nat.zero_le _) (Nat.zero_le _)
section ZBF
variable {xs : Nat → Int} {xl d : Nat} {m : zM} {Q : zRes → zM → Prop}
theorem C_bStart {P x : Nat} {B : zB} {i q t : Int} (h : Bd P m x B) (hQ : ∀ m', Bd P m' x (aStart B i q t).2 → Fr (rg x (x + 392)) 1 6 m m' → Q (rsF 2 1 0 (aStart B i q t).1) m') : zC xs xl (d + 2) 115 [zR x, zI i, zI q, zI t] m Q := by
  obtain ⟨h1, h2, h3, h4, ⟨p, h5⟩, h6⟩ := id h
  have hs := h5.2.1
  have hs6 : yS (bY B) ≤ 6 := hs.2.2.2.2.1
  unfold aStart at hQ
  refine bX10_start_0 ⟨h1.1.1, ?_⟩
  rw [h1.1.2.2.2.2.1, hs.2.1]
  refine ⟨h5.1.1, C_isBelow ⟨_, rfl, fun c => C_isBelow ⟨_, rfl, fun c1 => ?_, fun c1 => ⟨fun c2 => ?_, fun c2 => ⟨fun c3 => ⟨h1.1.1, ?_⟩, fun c3 => ?_⟩⟩⟩, fun c => ?_⟩⟩
  · have c' : inF i (yS (bY B)) := Decidable.byContradiction (fun z => c (isb.mpr z))
    rw [if_neg (fun z => z c'), if_pos (fun z => isb.mp c1 z.1)] at hQ
    exact hQ _ h.x (fr_bx fr_nwX)
  · have c' : inF i (yS (bY B)) := Decidable.byContradiction (fun z => c (isb.mpr z))
    rw [if_neg (fun z => z c'), if_pos (fun z => by omega)] at hQ
    exact hQ _ h.x (fr_bx fr_nwX)
  · have c' : inF i (yS (bY B)) := Decidable.byContradiction (fun z => c (isb.mpr z))
    have c1' : inF q 6 := Decidable.byContradiction (fun z => c1 (isb.mpr z))
    rw [if_neg (fun z => z c'), if_neg (fun z => z ⟨c1', by omega⟩)] at hQ
    have hp := h4.2 q.toNat (by omega)
    obtain ⟨q1, q2, q3⟩ := h5.sl (i := i.toNat) (by omega)
    have hS := h5.2.2.2.2.1.1
    rw [h1.1.2.2.2.1, h4.1.1, h4.1.2, hp.1.2.1, h1.1.2.2.2.2.1, h5.1.2.2.2.2.1, q1, hS.1, hS.2, q2.2.1.1, hs.1]
    refine ⟨by decide, by omega, hp.1.1, fun c4 => ?_, fun c4 => ⟨h5.1.1, by decide, by omega, q2.1.1, fun c5 => ?_, fun c5 => ?_⟩⟩
    · rw [if_pos (Or.inl (by omega))] at hQ
      exact hQ _ h.x (fr_bx fr_nwX)
    · rw [if_neg (fun z => by rcases z with z | z; omega; exact z c5)] at hQ
      have hpl : Pl P m (mO m (x + 9) q.toNat) (bP B q.toNat) := by
        rcases hp.2 with z | z
        · exact z.1
        · rw [z.1] at c4; exact absurd rfl c4
      refine C_begin q2 (fun m2 s2 f2 => ?_)
      have y2 := h5.slip' (kc' := 6) (l' := bP B q.toNat) (by omega) ⟨Nat.le_refl _, Nat.le_refl _, fun z => absurd z (by omega)⟩ f2 s2 (fun _ => hpl.mv f2 (by have := h1.2.1; omega))
      have b2 := h.yd (f2.rg (by omega) (by omega)) y2
      refine ⟨rfl, b2.1.1.1, ?_⟩
      rw [b2.1.1.2.2.2.2.1]
      exact ⟨y2.1.1, C_building y2 ⟨_, rfl, hQ m2 b2 (fr_by f2 (by omega) (by omega))⟩⟩
    · rw [if_pos (Or.inr c5)] at hQ
      exact hQ _ h.x (fr_bx fr_nwX)
  · have c' : inF i (yS (bY B)) := Decidable.byContradiction (fun z => c (isb.mpr z))
    rw [if_neg (fun z => z c'), if_pos (fun z => by omega)] at hQ
    exact hQ _ h.x (fr_bx fr_nwX)
  · rw [if_pos (isb.mp (Decidable.not_not.mp c))] at hQ
    exact hQ _ h.x (fr_bx fr_nwX)
theorem C_bLend {P x : Nat} {B : zB} {f t so : Int} (h : Bd P m x B) (hQ : ∀ m', Bd P m' x (aLend B f t so).2 → Fr (rg x (x + 392)) 1 6 m m' → Q (rsF 2 1 0 (aLend B f t so).1) m') : zC xs xl (d + 3) 116 [zR x, zI f, zI t, zI so] m Q := by
  obtain ⟨h1, h2, h3, h4, ⟨p, h5⟩, h6⟩ := id h
  have hs := h5.2.1
  have hs6 : yS (bY B) ≤ 6 := hs.2.2.2.2.1
  unfold aLend at hQ
  refine bX10_lend_0 ⟨h1.1.1, ?_⟩
  rw [h1.1.2.2.2.2.1, hs.2.1]
  refine ⟨h5.1.1, C_isBelow ⟨_, rfl, fun c => ?_, fun c => ⟨h1.1.1, ?_⟩⟩⟩
  · rw [if_pos (fun z => isb.mp c z.1)] at hQ
    exact hQ _ h.x (fr_bx fr_nwX)
  rw [h1.1.2.2.2.2.1, hs.2.1]
  have c' : inF f (yS (bY B)) := Decidable.byContradiction (fun z => c (isb.mpr z))
  refine ⟨h5.1.1, C_isBelow ⟨_, rfl, fun c1 => ⟨fun c2 => ?_, fun c2 => C_isBelow ⟨_, rfl, fun c3 => ⟨h1.1.1, ?_⟩, fun c3 => ?_⟩⟩, fun c1 => ?_⟩⟩
  · have c1' : inF t (yS (bY B)) := Decidable.byContradiction (fun z => c1 (isb.mpr z))
    rw [if_neg (fun z => z ⟨c', c1'⟩), if_pos (Or.inl c2)] at hQ
    exact hQ _ h.x (fr_bx fr_nwX)
  · have c1' : inF t (yS (bY B)) := Decidable.byContradiction (fun z => c1 (isb.mpr z))
    have c3' : inF so 5 := Decidable.byContradiction (fun z => c3 (isb.mpr z))
    rw [if_neg (fun z => z ⟨c', c1'⟩), if_neg (fun z => by rcases z with z | z; exact c2 z; exact z c3')] at hQ
    obtain ⟨q1, q2, q3⟩ := h5.sl (i := f.toNat) (by omega)
    obtain ⟨r1, r2, r3⟩ := h5.sl (i := t.toNat) (by omega)
    have hS := h5.2.2.2.2.1.1
    rw [h1.1.2.2.2.2.1, h5.1.2.2.2.2.1, q1, r1, hS.1, hS.2]
    refine ⟨h5.1.1, by decide, by omega, by omega, q2.1.1, C_holds q2 ⟨_, rfl, fun c4 => ?_, fun c4 => ⟨q2.1.1, ?_⟩⟩⟩
    · rw [if_pos (Or.inl (Decidable.byContradiction (fun z => by rw [if_neg z] at c4; exact absurd c4 (by decide))))] at hQ
      exact hQ _ h.x (fr_bx fr_nwX)
    · have c4' : ¬ (bAnd (yX (bY B) f.toNat 12) (bShl 1 so) = 0) := fun z => c4 (by rw [if_pos z])
      rw [q2.2.1.2.2.2.2.2.2.2.2.2.2.2.2.2, r2.2.1.2.2.2.2.2.2.2.2.2.2.2.1]
      refine ⟨fun c5 => ?_, fun c5 => ⟨r2.1.1, fun c6 => ?_, fun c6 => ?_⟩⟩
      · rw [if_pos (Or.inr (Or.inl c5))] at hQ
        exact hQ _ h.x (fr_bx fr_nwX)
      · rw [if_neg (fun z => by rcases z with z | z | z; exact c4' z; exact c5 z; exact z c6)] at hQ
        have hne : f.toNat ≠ t.toNat := by omega
        refine C_release q2 (fun m2 s2 f2 => ?_)
        have y2 := h5.slip (by omega) f2 s2 (fun c => c)
        have b2 := h.yd (f2.rg (by omega) (by omega)) y2
        obtain ⟨u1, u2, u3⟩ := y2.sl (i := t.toNat) (by omega)
        refine ⟨rfl, u2.1.1, C_receive u2 (fun m3 s3 f3 => ?_)⟩
        have y3 := y2.slip (by omega) f3 s3 (fun c => c)
        have b3 := b2.yd (f3.rg (by omega) (by omega)) y3
        obtain ⟨v1, v2, v3⟩ := y3.sl (i := f.toNat) (by omega)
        refine ⟨rfl, b3.1.1.1, ?_⟩
        rw [b3.1.1.2.2.2.2.1, y3.2.1.1]
        refine ⟨y3.1.1, v2.1.1, C_await v2 (Or.inr rfl) (fun m4 s4 f4 => ?_)⟩
        have y4 := y3.slip (by omega) f4 s4 (fun c => c)
        have b4 := b3.yd (f4.rg (by omega) (by omega)) y4
        refine ⟨rfl, b4.1.1.1, ?_⟩
        rw [b4.1.1.2.2.2.2.1]
        exact ⟨y4.1.1, C_waiting y4 ⟨_, rfl, hQ m4 b4 (((fr_by f2 (by omega) (by omega)).tr (fr_by0 f3 (by omega) (by omega)) (Nat.le_refl _) (Nat.le_refl _)).tr (fr_by0 f4 (by omega) (by omega)) (Nat.le_refl _) (Nat.le_refl _))⟩⟩
      · rw [if_pos (Or.inr (Or.inr c6))] at hQ
        exact hQ _ h.x (fr_bx fr_nwX)
  · have c1' : inF t (yS (bY B)) := Decidable.byContradiction (fun z => c1 (isb.mpr z))
    rw [if_neg (fun z => z ⟨c', c1'⟩), if_pos (Or.inr (isb.mp (Decidable.not_not.mp c3)))] at hQ
    exact hQ _ h.x (fr_bx fr_nwX)
  · rw [if_pos (fun z => isb.mp (Decidable.not_not.mp c1) z.2)] at hQ
    exact hQ _ h.x (fr_bx fr_nwX)
theorem C_bRun {P x : Nat} {B : zB} {k : Int} (h : Bd P m x B) (hW : ∀ j, j < k.toNat → yW (passN j (bY B))) (hQ : ∀ m', Bd P m' x (aRun B k).2 → Fr (rg x (x + 392)) 1 6 m m' → Q (rsF 1 0 0 (aRun B k).1) m') : zC xs xl (d + 7) 120 [zR x, zI k] m Q := by
  obtain ⟨h1, h2, h3, h4, ⟨p, h5⟩, h6⟩ := id h
  unfold aRun at hQ
  refine bX10_run_0 ⟨fun c => ?_, fun c => ⟨fun c1 => ⟨h1.1.1, ?_⟩, fun c1 => ?_⟩⟩
  · rw [if_pos (fun z => by omega)] at hQ
    exact hQ _ h.x (fr_bx fr_nwX)
  · rw [if_neg (fun z => z ⟨by omega, c1⟩)] at hQ
    rw [h1.1.2.2.2.2.1, h5.2.1.2.2.1]
    have lp : ∀ (r j : Nat) (m1 : zM), j + r = k.toNat → Bd P m1 x (passN j (bY B), B.2) → Fr (rg x (x + 392)) 1 6 m m1 → zW xs xl (d + 6) cX10_run 10 (some .int) false [] 32 [zR x, zI k, zI (yG (bY B) 1), zI (j : Int)] [] m1 Q := by
      intro r
      induction r with
      | zero =>
        intro j m1 e g f
        have ej : j = k.toNat := by omega
        subst ej
        obtain ⟨g1, g2, g3, g4, ⟨p1, g5⟩, g6⟩ := id g
        refine bX10_run_32 ⟨fun _ => ⟨g1.1.1, ?_⟩, fun z => absurd (by omega) z⟩
        rw [g1.1.2.2.2.2.1, g5.2.1.2.2.1]
        exact ⟨g5.1.1, hQ m1 g f⟩
      | succ r ih =>
        intro j m1 e g f
        obtain ⟨g1, g2, g3, g4, ⟨p1, g5⟩, g6⟩ := id g
        refine bX10_run_32 ⟨fun z => absurd z (by omega), fun _ => ⟨g1.1.1, ?_⟩⟩
        rw [g1.1.2.2.2.2.1]
        refine ⟨g5.1.1, C_passTick g5 (hW j (by omega)) (fun m2 y2 f2 => ⟨rfl, ?_⟩)⟩
        rw [wr_s (by omega)]
        exact ih (j + 1) m2 (by omega) (g.yd (f2.rg (by omega) (by omega)) y2) (f.tr (fr_by0 f2 (by omega) (by omega)) (Nat.le_refl _) (Nat.le_refl _))
    exact ⟨h5.1.1, lp k.toNat 0 m (by omega) h Fr.rfl⟩
  · rw [if_pos (fun z => by omega)] at hQ
    exact hQ _ h.x (fr_bx fr_nwX)
theorem C_bForesee {P x : Nat} {B : zB} {k w : Int} (h : Bd P m x B) (hf : ∀ i, i < yS (bY B) → flagOk (yX (bY B) i)) (hW : ∀ j, j < k.toNat → yW (passN j (bY B))) (hQ : ∀ m', Bd P m' x B → Fr (rg x (x + 392)) 1 6 m m' → Q (rsF 1 2 0 (aForesee B k w)) m') : zC xs xl (d + 7) 123 [zR x, zI k, zI w] m Q := by
  obtain ⟨h1, h2, h3, h4, ⟨p, h5⟩, h6⟩ := id h
  unfold aForesee at hQ
  refine bX10_foresee_0 ⟨fun c => ?_, fun c => ⟨fun c1 => C_isBelow ⟨_, rfl, fun c2 => ⟨h1.1.1, ?_⟩, fun c2 => ?_⟩, fun c1 => ?_⟩⟩
  · rw [if_pos (fun z => by omega)] at hQ
    exact hQ _ h.x (fr_bx fr_nwX)
  · have c2' : inF w 4 := Decidable.byContradiction (fun z => c2 (isb.mpr z))
    rw [if_neg (fun z => z ⟨by omega, c1⟩), if_neg (fun z => z c2')] at hQ
    obtain ⟨kc, pa, Z, ha⟩ := h6
    rw [h1.1.2.2.2.2.1, h1.1.2.2.2.2.2]
    have hup : ∀ (m' : zM) (q : Nat → Nat) (W : zY), Fr (rg (x + 201) (x + 392)) 0 0 m m' → Yd P (yS (bY B)) 0 m' (x + 201) q W → Bd P m' x B := by
      intro m' q W f y
      have hz := h1.2.2
      have hxx := h1.2.1
      exact ⟨h1.mv f.2.1 (f.1 x (by omega) (fun z => by unfold rg at z; omega)), h2.mv f (by omega), h3.mv f (by omega), h4.mv (by omega) f (by omega) (by omega), ⟨p, h5.mv f (by omega) (by omega)⟩, ⟨_, q, W, y⟩⟩
    have lp : ∀ (r j : Nat) (m1 : zM) (q : Nat → Nat), j + r = k.toNat → Yd P (yS (bY B)) 0 m1 (x + 201) q (passN j (bY B)) → Fr (rg (x + 201) (x + 392)) 0 0 m m1 → zW xs xl (d + 6) cX10_foresee 10 (some .int) false [] 56 [zR x, zI k, zI w, zI (foreF (bY B) j), zI (j : Int)] [] m1 Q := by
      intro r
      induction r with
      | zero =>
        intro j m1 q e y f
        have ej : j = k.toNat := by omega
        subst ej
        have g := hup m1 q _ f y
        obtain ⟨g1, g2, g3, g4, ⟨p1, g5⟩, g6⟩ := id g
        refine bX10_foresee_56 ⟨fun _ => ⟨fun c3 => ⟨g1.1.1, ?_⟩, fun c3 => ⟨fun c4 => ⟨g1.1.1, ?_⟩, fun c4 => ⟨fun c5 => ⟨g1.1.1, ?_⟩, fun c5 => ?_⟩⟩⟩, fun z => absurd (by omega) z⟩
        · rw [if_pos c3] at hQ
          rw [g1.1.2.2.2.2.1, g1.1.2.2.2.2.2, g5.2.1.2.2.1, y.2.1.2.2.1]
          exact ⟨y.1.1, g5.1.1, hQ m1 g (fr_by f (by omega) (by omega))⟩
        · rw [if_neg c3, if_pos c4] at hQ
          rw [g1.1.2.2.2.2.1, g1.1.2.2.2.2.2, g5.2.1.2.2.2.1, y.2.1.2.2.2.1]
          exact ⟨y.1.1, g5.1.1, hQ m1 g (fr_by f (by omega) (by omega))⟩
        · rw [if_neg c3, if_neg c4, if_pos c5] at hQ
          rw [g1.1.2.2.2.2.2]
          exact ⟨y.1.1, C_stuck y ⟨_, rfl, hQ m1 g (fr_by f (by omega) (by omega))⟩⟩
        · rw [if_neg c3, if_neg c4, if_neg c5] at hQ
          exact hQ m1 g (fr_by f (by omega) (by omega))
      | succ r ih =>
        intro j m1 q e y f
        have g := hup m1 q _ f y
        refine bX10_foresee_56 ⟨fun z => absurd z (by omega), fun _ => ⟨g.1.1.1, ?_⟩⟩
        rw [g.1.1.2.2.2.2.2]
        refine ⟨y.1.1, C_passTick y (hW j (by omega)) (fun m2 y2 f2 => ⟨rfl, ?_⟩)⟩
        have f12 : Fr (rg (x + 201) (x + 392)) 0 0 m m2 := f.tr0 (f2.rg (by omega) (by omega))
        have gg := hup m2 q _ f12 y2
        obtain ⟨g1, g2, g3, g4, ⟨p1, g5⟩, g6⟩ := id gg
        have hn := ih (j + 1) m2 q (by omega) y2 f12
        have e1 : foreF (bY B) (j + 1) = if 0 ≤ foreF (bY B) j then foreF (bY B) j else if yG (passN (j + 1) (bY B)) 1 ≤ yG (bY B) 1 then foreF (bY B) j else yG (passN (j + 1) (bY B)) 0 := rfl
        rw [e1] at hn
        rw [wr_s (by omega)]
        refine ⟨fun c3 => ?_, fun c3 => ⟨g1.1.1, ?_⟩⟩
        · rwa [if_pos c3] at hn
        · rw [if_neg c3] at hn
          rw [g1.1.2.2.2.2.1, g1.1.2.2.2.2.2, g5.2.1.2.2.1, y2.2.1.2.2.1, y2.2.1.1]
          refine ⟨y2.1.1, g5.1.1, fun c4 => ?_, fun c4 => ?_⟩
          · have c4' : yG (passN (j + 1) (bY B)) 1 ≤ yG (bY B) 1 := c4
            rwa [if_pos c4'] at hn
          · have c4' : ¬ (yG (passN (j + 1) (bY B)) 1 ≤ yG (bY B) 1) := c4
            rwa [if_neg c4'] at hn
    refine ⟨ha.1.1, C_yardCopy ha h5 (by omega) hf (fun m2 y2 f2 => ⟨rfl, lp k.toNat 0 m2 p (by omega) y2 (f2.rg (by omega) (by omega))⟩)⟩
  · rw [if_neg (fun z => z ⟨by omega, c1⟩), if_pos (isb.mp (Decidable.not_not.mp c2))] at hQ
    exact hQ _ h.x (fr_bx fr_nwX)
  · rw [if_pos (fun z => by omega)] at hQ
    exact hQ _ h.x (fr_bx fr_nwX)
end ZBF
