theorem Yd.hrow {P kc ke a r : Nat} {m m' : zM} {p : Nat → Nat} {Y : zY} {row : Nat → Int} (h : Yd P kc ke m a p Y) (hr : r < 40) (f : Fr (rg (a + 127 + r) (a + 127 + r + 1)) 0 0 m m') (hC : mC m' (a + 127 + r) = 20 ∧ mN m' (a + 127 + r) = 6) (hv : ∀ j, j < 6 → mA m' (a + 127 + r) j = row j) : Yd P kc ke m' a p (yh Y r row) := by
  obtain ⟨h1, h2, h3, h4, h5, h6⟩ := h
  have hz := h1.2.2.2.2.2.2.1
  have hP := h1.2.2.2.2.2.2.2
  have e : ∀ b, a ≤ b → b < a + 191 → b ≠ a + 127 + r → Eqv m m' b := fun b b1 b2 b3 => f.1 b (by omega) (fun q => by unfold rg at q; omega)
  have e0 := e a (by omega) (by omega) (by omega)
  refine ⟨h1.mv f.2.1 e0.2.2.2.2.1 e0.2.1, h2.mv e0, h3.mv f.2.1 (fun b b1 b2 => e b (by omega) (by omega) (by omega)), h4.mv (e _ (by omega) (by omega) (by omega)) (e _ (by omega) (by omega) (by omega)), h5.mv f (by omega) (fun b hb => e b (by omega) (by omega) (by omega)), ?_⟩
  have e5 := e (a + 126) (by omega) (by omega) (by omega)
  unfold YdH
  rw [e5.2.2.2.2.1, e5.2.2.2.2.2]
  refine ⟨h6.1, fun i hi => ?_⟩
  obtain ⟨q1, q2, q3, q4⟩ := h6.2 i hi
  rw [e5.2.2.2.1]
  refine ⟨q1, ?_⟩
  by_cases c : i = r
  · subst c
    have a1 : yH (yh Y i row) i = row := if_pos rfl
    rw [a1]
    exact ⟨hC.1, hC.2, fun _ => hv⟩
  · have a1 : yH (yh Y r row) i = yH Y i := if_neg c
    have ei := e (a + 127 + i) (by omega) (by omega) (by omega)
    rw [a1, ei.2.2.2.2.1, ei.2.2.2.2.2]
    exact ⟨q2, q3, fun hk j hj => by rw [ei.2.2.1]; exact q4 hk j hj⟩
theorem Sl.idle {m : zM} {a p : Nat} {x : Nat → Int} {v : Int} (h : Sl m a p x) : Sl (sI m 384 a v) a p (up1 x 0 v) := by
  have hp : Pc m (a + 1) (up1 x 0 v) := h.2.2.cg (fun j hj => by simp [up1]; omega)
  refine ⟨?_, ?_, hp.sI (by omega)⟩
  · unfold Sl at h; simp [zget, h]
  · unfold Sl at h; simp [zget, up1, h]
theorem workR_g1 {Y : zY} {i : Nat} : yG (workR Y i).2 1 = yG Y 1 := by
  unfold workR
  split
  · rfl
  · unfold workQ takeR giveR cutR
    split
    · split
      · split <;> rfl
      · rfl
    · split
      · show yG (if _ then Y else _) 1 = yG Y 1
        split <;> rfl
      · split
        · split <;> rfl
        · split
          · rfl
          · split <;> rfl
theorem yx_at {Y : zY} {i : Nat} {x : Nat → Int} : yX (yx Y i x) i = x := if_pos rfl
theorem workR_2 {Y : zY} {i : Nat} : yX (workR Y i).2 i 2 = yX Y i 2 := by
  unfold workR
  split
  · rfl
  · unfold workQ takeR giveR cutR
    split
    · split
      · split
        · exact congrFun yx_at 2
        · rfl
      · rfl
    · split
      · show yX (if _ then Y else _) i 2 = yX Y i 2
        split
        · rfl
        · exact congrFun yx_at 2
      · split
        · split
          · rfl
          · exact congrFun yx_at 2
        · split
          · exact (congrFun yx_at 2).trans (bendR_out (by omega))
          · split
            · refine (congrFun yx_at 2).trans ?_
              unfold fitR
              split <;> simp [up1, vanishF, springF]
            · refine (congrFun yx_at 2).trans ?_
              unfold treatR
              split
              · exact treatY_out (by omega)
              · show up1 (treatY (yX Y i) _) 16 (wr (yX Y i 16 + 1)) 2 = _
                exact (if_neg (by decide)).trans (treatY_out (by omega))
section ZYV
variable {xs : Nat → Int} {xl d : Nat} {m : zM} {Q : zRes → zM → Prop}
theorem C_finish {P kc ke a i : Nat} {p : Nat → Nat} {Y : zY} (h : Yd P kc ke m a p Y) (hi : i < kc) (hg : 0 ≤ yG Y 1) (hQ : ∀ m', Yd P kc ke m' a p (finF Y i) → Fr (rg a (a + 191)) 0 0 m m' → Q (.inl none) m') : zC xs xl (d + 1) 93 [zR a, zI (i : Int)] m Q := by
  obtain ⟨q1, q2, q3⟩ := h.sl hi
  have hk6 := h.2.1.2.2.2.2.2
  obtain ⟨h1, h2, h3, h4, h5, h6, h7, h8⟩ := h.1
  obtain ⟨i0, i1, i2, i3, i4, i5⟩ := h.2.1
  have hS := h.2.2.2.2.1.1
  have hH := h.2.2.2.2.2
  have fs : Fr (rg (a + 167 + 4 * i) (a + 167 + 4 * i + 4)) 0 0 m (sI m 384 (a + 167 + 4 * i) 0) := Fr.rfl.sI (by unfold rg; omega)
  have y1 : Yd P kc ke (sI m 384 (a + 167 + 4 * i) 0) a p (yx Y i (up1 (yX Y i) 0 0)) := h.slip hi fs q2.idle (fun c => absurd rfl c)
  have hx := q2.2.1
  unfold finF at hQ
  refine bX9_finishHull_0 ?_
  rw [h5, h6, Int.toNat_natCast, q1, i2, i0, hS.1, hS.2, hH.1.1, hH.1.2, hx.2.1, hx.2.2.2.2.2.2.2.1, hx.2.2.2.2.2.2.2.2.1, hx.2.2.2.1]
  refine ⟨h1, by decide, by omega, q2.1.1, fun c => ?_, fun c => ?_⟩
  · rw [if_pos c] at hQ
    exact hQ _ y1.fini ((fs.rg (by omega) (by omega)).sI (by unfold rg; omega))
  · rw [if_neg c] at hQ
    have hr : (yG Y 1).toNat < 40 := by omega
    obtain ⟨r1, r2, r3, r4⟩ := hH.2 _ hr
    rw [r1, r3, r2]
    refine ⟨by decide, by omega, by decide, rfl, by decide, by decide, by decide, by decide, by decide, ?_⟩
    have fr0 : Fr (rg (a + 127 + (yG Y 1).toNat) (a + 127 + (yG Y 1).toNat + 1)) 0 0 (sI m 384 (a + 167 + 4 * i) 0) (sA (sA (sA (sA (sA (sA (sI m 384 (a + 167 + 4 * i) 0) (a + 127 + (yG Y 1).toNat) 0 (i : Int)) (a + 127 + (yG Y 1).toNat) 1 (yX Y i 1)) (a + 127 + (yG Y 1).toNat) 2 (yX Y i 3)) (a + 127 + (yG Y 1).toNat) 3 (yX Y i 4)) (a + 127 + (yG Y 1).toNat) 4 (yX Y i 14)) (a + 127 + (yG Y 1).toNat) 5 (yG Y 0)) := by
      have hr : rg (a + 127 + (yG Y 1).toNat) (a + 127 + (yG Y 1).toNat + 1) (a + 127 + (yG Y 1).toNat) := by unfold rg; omega
      exact (((((Fr.rfl.sA hr).sA hr).sA hr).sA hr).sA hr).sA hr
    have y2 := y1.hrow (row := rowF i (yX Y i) (yG Y 0)) hr fr0 ⟨r2, r3⟩ (fun j hj => by
      have hj6 : j = 0 ∨ j = 1 ∨ j = 2 ∨ j = 3 ∨ j = 4 ∨ j = 5 := by omega
      rcases hj6 with c | c | c | c | c | c <;> subst c <;> simp [zget, rowF])
    exact hQ _ y2.fini (((fs.rg (by omega) (by omega)).tr0 (fr0.rg (by omega) (by omega))).sI (by unfold rg; omega))
theorem C_settleY {P kc ke a i : Nat} {p : Nat → Nat} {Y : zY} {o : Int} (h : Yd P kc ke m a p Y) (hi : i < kc) (hg : 0 ≤ yG Y 1) (h2 : 0 ≤ yX Y i 2 ∧ yX Y i 2 ≤ 60) (hQ : ∀ m', Yd P kc ke m' a p (setR Y i o) → Fr (rg a (a + 191)) 0 0 m m' → Q (.inl none) m') : zC xs xl (d + 4) 89 [zR a, zI (i : Int), zI o] m Q := by
  obtain ⟨q1, q2, q3⟩ := h.sl hi
  have hk6 := h.2.1.2.2.2.2.2
  obtain ⟨h1, h2', h3, h4, h5, h6, h7, h8⟩ := h.1
  have hS := h.2.2.2.2.1.1
  unfold setR at hQ
  refine bX9_settle_0 ?_
  rw [h5, Int.toNat_natCast, q1, hS.1, hS.2]
  refine ⟨h1, by decide, by omega, fun c => ⟨fun c1 => ?_, fun c1 => ⟨q2.1.1, C_goOn q2 (fun m2 s2 f2 => ?_)⟩⟩, fun c => ⟨q2.1.1, C_losePiece q2 (fun m2 s2 f2 => ?_)⟩⟩
  · rw [if_neg c, if_neg c1] at hQ
    exact hQ m h Fr.rfl
  · rw [if_neg c, if_pos (Decidable.not_not.mp c1)] at hQ
    have y2 := h.slip hi f2 s2 (fun c => c)
    have q3' := (y2.sl hi).2.2
    have hx : yX (yx Y i (goOnF (yX Y i))) i = goOnF (yX Y i) := if_pos rfl
    rw [hx] at q3'
    have e2 : goOnF (yX Y i) 2 = yX Y i 2 + 1 := by
      show wr (yX Y i 2 + 1) = _
      exact wr_id (by omega) (by omega)
    refine ⟨rfl, s2.1.1, C_act s2 q3' (by rw [e2]; omega) (fun e => ?_) (fun ac q e hac _ _ => ?_)⟩
    · have e' : actP (goOnF (yX Y i)) (yL Y i) = none := e
      rw [if_pos e'] at hQ
      exact ⟨_, rfl, fun c => absurd rfl c, fun _ => ⟨y2.1.1, C_finish y2 hi hg (fun m3 y3 f3 => ⟨rfl, hQ m3 y3 ((f2.rg (by omega) (by omega)).tr0 f3)⟩)⟩⟩
    · have e' : actP (goOnF (yX Y i)) (yL Y i) = some q := e
      rw [if_neg (by rw [e']; exact Option.some_ne_none q)] at hQ
      exact ⟨_, rfl, fun _ => hQ m2 y2 (f2.rg (by omega) (by omega)), fun c => absurd hac c⟩
  · rw [if_pos (Decidable.not_not.mp c)] at hQ
    have y2 := h.slip (x' := loseF (yX Y i)) hi f2 s2 (fun c => c)
    refine ⟨rfl, y2.1.1, ?_⟩
    rw [y2.2.1.2.2.2.1]
    exact hQ _ y2.lost ((f2.rg (by omega) (by omega)).sI (by unfold rg; omega))
theorem C_grant {P kc ke a : Nat} {p : Nat → Nat} {Y : zY} (h : Yd P kc ke m a p Y) (hQ : ∀ m', Yd P kc ke m' a p (grantR (yS Y) Y 0) → Fr (rg a (a + 191)) 0 0 m m' → Q (.inl none) m') : zC xs xl (d + 3) 86 [zR a] m Q := by
  have lp : ∀ (k r : Nat) (m1 : zM) (Z : zY) (seen : Int) (u v : zV), r + k = yS Y → yS Z = yS Y → Yd P kc ke m1 a p Z → Fr (rg a (a + 191)) 0 0 m m1 → (∀ m', Yd P kc ke m' a p (grantR k Z seen) → Fr (rg a (a + 191)) 0 0 m m' → Q (.inl none) m') → zW xs xl (d + 2) cX9_grantFrames 9 (none) false [] 4 [zR a, zI seen, zI (r : Int), u, v] [] m1 Q := by
    intro k
    induction k with
    | zero =>
      intro r m1 Z seen u v e eS g f hq
      exact bX9_grantFrames_4 ⟨g.1.1, fun _ => hq m1 g f, fun c => absurd (by rw [g.2.1.2.1, eS]; omega) c⟩
    | succ k ih =>
      intro r m1 Z seen u v e eS g f hq
      unfold grantR at hq
      have hs6 := g.2.1.2.2.2.2.1
      refine bX9_grantFrames_4 ⟨g.1.1, fun c => absurd c (by rw [g.2.1.2.1, eS]; omega), fun _ => C_longest g ⟨_, rfl, fun c => ?_, fun c => ?_⟩⟩
      · rw [if_neg (by omega)] at hq
        have hb := longF_in (yX Z) seen (yS Z)
        obtain ⟨b, hbe⟩ := Int.eq_ofNat_of_zero_le c
        rw [hbe, Int.toNat_natCast] at hq
        rw [hbe] at hb
        rw [hbe, Int.toNat_natCast]
        have hb6 : b < kc := by omega
        have hk6 := g.2.1.2.2.2.2.2
        obtain ⟨q1, q2, q3⟩ := g.sl hb6
        have hS := g.2.2.2.2.1.1
        have hA := g.2.2.2.1
        rw [g.1.2.2.2.2.1, q1, q2.2.1.2.2.2.2.2.2.2.2.2.2.2.1, hS.1, hS.2, wr_s (by omega)]
        unfold grant1 at hq
        refine ⟨g.1.1, by decide, by omega, q2.1.1, C_isBelow ⟨_, rfl, fun c1 => ?_, fun c1 => ⟨g.1.1, ?_⟩⟩⟩
        · rw [if_neg (fun q => by rw [if_pos q.1] at c1; exact absurd c1 (by decide))] at hq
          exact ih (r + 1) m1 Z _ _ _ (by omega) eS g f hq
        · have cb : 0 ≤ yX Z b 9 ∧ yX Z b 9 < 5 := Decidable.byContradiction (fun q => c1 (if_neg q))
          rw [g.1.2.2.2.1, hA.1.2.2.1, hA.1.2.2.2, (hA.2 _ (show (yX Z b 9).toNat < 5 by omega)).2]
          refine ⟨rfl, by omega, fun c2 => ?_, fun c2 => ?_⟩
          · rw [if_neg (fun q => by omega)] at hq
            exact ih (r + 1) m1 Z _ _ _ (by omega) eS g f hq
          · rw [if_pos ⟨cb, by omega⟩] at hq
            have y2 : Yd P kc ke (sA m1 (a + 124) (yX Z b 9).toNat (wr (yE Z (yX Z b 9).toNat - 1))) a p (ye Z (yX Z b 9).toNat (wr (yE Z (yX Z b 9).toNat - 1))) := g.sE
            have q2' := (y2.sl hb6).2.1
            have eR : mR (sA m1 (a + 124) (yX Z b 9).toNat (wr (yE Z (yX Z b 9).toNat - 1))) 580 a = a + 125 := g.1.2.2.2.2.1
            rw [g.1.2.2.2.2.1, q1, hS.1, hS.2]
            refine ⟨by decide, by omega, q2.1.1, ?_⟩
            refine C_receive q2' (fun m3 s3 f3 => ⟨rfl, ?_⟩)
            exact ih (r + 1) m3 (yx (ye Z (yX Z b 9).toNat (wr (yE Z (yX Z b 9).toNat - 1))) b (receiveF (yX Z b) (yX Z b 9))) _ _ _ (by omega) eS (y2.slip hb6 f3 s3 (fun c => c)) ((f.sA (by unfold rg; omega)).tr0 (f3.rg (by omega) (by omega))) hq
      · rw [if_pos (by omega)] at hq
        exact hq m1 g f
  exact bX9_grantFrames_0 (lp (yS Y) 0 m Y 0 _ _ (by omega) rfl h Fr.rfl hQ)
theorem actsF_S (Y : zY) : ∀ k, yS (actsF Y k) = yS Y
  | 0 => rfl
  | k + 1 => by
    have h : ∀ (Z : zY) (i : Nat), yS (actF Z i) = yS Z := fun Z i => by
      unfold actF
      split
      · rfl
      · have hw : yS (workR Z i).2 = yS Z := by
          unfold workR
          split
          · rfl
          · unfold workQ takeR giveR cutR
            split
            · split
              · split <;> rfl
              · rfl
            · split
              · show yS (if _ then Z else _) = yS Z
                split <;> rfl
              · split
                · split <;> rfl
                · split
                  · rfl
                  · split <;> rfl
        have hs : ∀ (W : zY) (o : Int), yS (setR W i o) = yS W := fun W o => by
          unfold setR finF
          split
          · rfl
          · split
            · split
              · split <;> rfl
              · rfl
            · rfl
        rw [hs, hw]
    show yS (actF (actsF Y k) k) = yS Y
    rw [h, actsF_S Y k]
theorem grantR_S : ∀ (k : Nat) (Y : zY) (seen : Int), yS (grantR k Y seen) = yS Y
  | 0, _, _ => rfl
  | k + 1, Y, seen => by
    unfold grantR
    split
    · rfl
    · rw [grantR_S k]
      unfold grant1
      split <;> rfl
theorem C_passTick {P kc ke a : Nat} {p : Nat → Nat} {Y : zY} (h : Yd P kc ke m a p Y) (hB : ∀ k, k ≤ yS Y → yB (actsF (grantR (yS Y) (beatF Y) 0) k)) (hQ : ∀ m', Yd P kc ke m' a p (passF Y) → Fr (rg a (a + 191)) 0 0 m m' → Q (.inl none) m') : zC xs xl (d + 6) 85 [zR a] m Q := by
  have hs6 := h.2.1.2.2.2.2.1
  have hk6 := h.2.1.2.2.2.2.2
  have lp : ∀ (k i : Nat) (m1 : zM), i + k = yS Y → Yd P kc ke m1 a p (actsF (grantR (yS Y) (beatF Y) 0) i) → Fr (rg a (a + 191)) 0 0 m m1 → zW xs xl (d + 5) cX9_passTick 9 (none) false [] 16 [zR a, zI (i : Int)] [] m1 Q := by
    intro k
    induction k with
    | zero =>
      intro i m1 e g f
      have ei : i = yS Y := by omega
      subst ei
      have eS : yS (actsF (grantR (yS Y) (beatF Y) 0) (yS Y)) = yS Y := by rw [actsF_S, grantR_S]; rfl
      unfold passF dryY at hQ
      refine bX9_passTick_16 ⟨g.1.1, fun _ => ?_, fun c => absurd (by rw [g.2.1.2.1, eS]; exact Int.le_refl _) c⟩
      rw [g.2.1.1]
      refine ⟨fun c => ?_, fun c => ?_⟩
      · rw [if_pos c] at hQ
        exact hQ m1 g f
      · rw [if_neg c] at hQ
        rw [g.1.2.1]
        have hst := g.2.2.1
        exact ⟨hst.1.1, C_moveWetness hst (hB _ (Nat.le_refl _)).1 (fun m2 s2 f2 => ⟨rfl, hQ m2 (g.st f2 s2) (f.tr0 (f2.rg (by omega) (by omega)))⟩)⟩
    | succ k ih =>
      intro i m1 e g f
      have eS : yS (actsF (grantR (yS Y) (beatF Y) 0) i) = yS Y := by rw [actsF_S, grantR_S]; rfl
      have hi : i < kc := by omega
      obtain ⟨q1, q2, q3⟩ := g.sl hi
      have hS := g.2.2.2.2.1.1
      have hb := hB i (by omega)
      have hiS : i < yS (actsF (grantR (yS Y) (beatF Y) 0) i) := by rw [eS]; omega
      have hn : ∀ m2, Yd P kc ke m2 a p (actF (actsF (grantR (yS Y) (beatF Y) 0) i) i) → Fr (rg a (a + 191)) 0 0 m m2 → zW xs xl (d + 5) cX9_passTick 9 (none) false [] 16 [zR a, zI ((i + 1 : Nat) : Int)] [] m2 Q := fun m2 g2 f2 => ih (i + 1) m2 (by omega) g2 f2
      unfold actF at hn
      refine bX9_passTick_16 ⟨g.1.1, fun c => absurd c (by rw [g.2.1.2.1, eS]; omega), fun _ => ?_⟩
      rw [g.1.2.2.2.2.1, Int.toNat_natCast, q1, hS.1, hS.2, q2.2.1.2.2.2.2.2.2.2.2.2.2.2.2.2, wr_s (by omega)]
      refine ⟨by decide, by omega, q2.1.1, fun c => ?_, fun c => ?_⟩
      · rw [if_pos c] at hn
        exact hn m1 g f
      · rw [if_neg c] at hn
        refine C_work g hiS hb (fun m2 y2 f2 => ⟨_, rfl, y2.1.1, ?_⟩)
        have hg1 : 0 ≤ yG (workR (actsF (grantR (yS Y) (beatF Y) 0) i) i).2 1 := by rw [workR_g1]; exact hb.2.2
        exact C_settleY y2 hi hg1 (by rw [workR_2]; exact (hb.2.1 i hiS).2.2.2.2.1) (fun m3 y3 f3 => ⟨rfl, hn m3 y3 ((f.tr0 f2).tr0 f3)⟩)
  refine bX9_passTick_0 ⟨h.1.1, ?_⟩
  rw [h.2.1.1]
  exact C_grant h.tick (fun m2 y2 f2 => ⟨rfl, lp (yS Y) 0 m2 (by omega) y2 ((Fr.rfl.sI (by unfold rg; omega)).tr0 f2)⟩)
end ZYV
