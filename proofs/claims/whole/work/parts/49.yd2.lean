/-! what the yard reads off its slips -/
def longF (x : Nat → Nat → Int) (seen : Int) : Nat → Int
  | 0 => -1
  | i + 1 => if ¬ (x i 9 < 0) ∧ bAnd seen (bShl 1 (i : Int)) = 0 ∧ (longF x seen i < 0 ∨ x i 10 < x (longF x seen i).toNat 10) then (i : Int) else longF x seen i
theorem longF_s (x : Nat → Nat → Int) (seen : Int) (i : Nat) : longF x seen (i + 1) = if ¬ (x i 9 < 0) ∧ bAnd seen (bShl 1 (i : Int)) = 0 ∧ (longF x seen i < 0 ∨ x i 10 < x (longF x seen i).toNat 10) then (i : Int) else longF x seen i := rfl
theorem longF_in (x : Nat → Nat → Int) (seen : Int) : ∀ i : Nat, -1 ≤ longF x seen i ∧ longF x seen i < i
  | 0 => by show -1 ≤ (-1 : Int) ∧ (-1 : Int) < 0; omega
  | i + 1 => by
    have h := longF_in x seen i
    rw [longF_s]
    split <;> omega
def cntB (x : Nat → Nat → Int) : Nat → Int
  | 0 => 0
  | i + 1 => wr (cntB x i + (if x i 0 = 0 then 0 else 1))
def wtF (x : Nat → Nat → Int) (so : Int) : Nat → Int
  | 0 => 0
  | i + 1 => wr (wtF x so i + (if x i 9 = so then 1 else 0))
def wtA (x : Nat → Nat → Int) (s : Nat) : Nat → Int
  | 0 => 0
  | j + 1 => wr (wtA x s j + wtF x (j : Int) s)
abbrev couldF (x : Nat → Int) (g : Int) : Prop := x 9 < 0 ∨ bAnd g (bShl 1 (x 9)) ≠ 0
def setE (E : Nat → Int) : Nat → Int
  | 0 => 0
  | j + 1 => bOr (setE E j) (if E j ≤ 0 then 0 else bShl 1 (j : Int))
def rndF (x : Nat → Nat → Int) (g : Int) : Nat → Int
  | 0 => g
  | i + 1 => bOr (rndF x g i) (if couldF (x i) (rndF x g i) then x i 12 else 0)
def rndsF (x : Nat → Nat → Int) (s : Nat) (g : Int) : Nat → Int
  | 0 => g
  | k + 1 => rndF x (rndsF x s g k) s
def stuckB (x : Nat → Nat → Int) (g : Int) : Nat → Int
  | 0 => 0
  | i + 1 => bOr (stuckB x g i) (if couldF (x i) g then 0 else bShl 1 (i : Int))
def stuckF (Y : zY) : Int := stuckB (yX Y) (rndsF (yX Y) (yS Y) (setE (yE Y) 5) (yS Y)) (yS Y)
def keptF (Y : zY) : Int := if 40 < yG Y 1 then 40 else yG Y 1
def frT (Y : zY) (j k : Nat) : Int := if k = 0 then yF Y j else if k = 1 then yE Y j else wtF (yX Y) (j : Int) (yS Y)
def ctT (Y : zY) (k : Nat) : Int := if k = 0 then yG Y 0 else if k = 1 then (yN Y : Int) else if k = 2 then (yS Y : Int) else if k = 3 then cntB (yX Y) (yS Y) else if k = 4 then wtA (yX Y) (yS Y) 5 else if k = 5 then yG Y 1 else if k = 6 then yG Y 2 else if k = 7 then yG Y 3 else sumL (yY Y) (yN Y)
section ZYD
variable {xs : Nat → Int} {xl d : Nat} {m : zM} {Q : zRes → zM → Prop}
theorem C_longest {P kc ke a : Nat} {p : Nat → Nat} {Y : zY} {seen : Int} (h : Yd P kc ke m a p Y) (hQ : Q (.inl (some (zI (longF (yX Y) seen (yS Y))))) m) : zC xs xl (d + 2) 87 [zR a, zI seen] m Q := by
  have hS := fun i hi => h.sl (i := i) hi
  obtain ⟨⟨h1, h2, h3, h4, h5, h6, h7, h8⟩, ⟨i0, i1, i2, i3, i4, i5⟩, hst, hA, ⟨⟨c1, c2⟩, -⟩, hH⟩ := h
  have lp : ∀ (k i : Nat), i + k = yS Y → ∀ (a4 : zV), zW xs xl (d + 1) cX9_longestWaiting 9 (some .int) false [] 4 [zR a, zI seen, zI (longF (yX Y) seen i), zI (i : Int), a4] [] m Q := by
    intro k
    induction k with
    | zero =>
      intro i e a4
      refine bX9_longestWaiting_4 ⟨h1, fun _ => ?_, fun c => absurd ?_ c⟩
      · rw [show i = yS Y by omega]; exact hQ
      · rw [i1]; omega
    | succ k ih =>
      intro i e a4
      obtain ⟨q1, q2, q3⟩ := hS i (by omega)
      have hb := longF_in (yX Y) seen i
      have nx : ∀ (b : Int) (u : zV), longF (yX Y) seen (i + 1) = b → zW xs xl (d + 1) cX9_longestWaiting 9 (some .int) false [] 4 [zR a, zI seen, zI b, zI (wr ((i : Int) + 1)), u] [] m Q := by
        intro b u hb2
        rw [← hb2, wr_s (by omega)]
        exact ih (i + 1) (by omega) u
      have h42 : ∀ (s0 : Int) (u : zV), (s0 = 0 → ¬ (longF (yX Y) seen i < 0 ∨ yX Y i 10 < yX Y (longF (yX Y) seen i).toNat 10)) → (s0 ≠ 0 → (longF (yX Y) seen i < 0 ∨ yX Y i 10 < yX Y (longF (yX Y) seen i).toNat 10)) → zW xs xl (d + 1) cX9_longestWaiting 9 (some .int) false [] 42 [zR a, zI seen, zI (longF (yX Y) seen i), zI (i : Int), u] [zI s0] m Q := by
        intro s0 u g1 g2
        refine bX9_longestWaiting_42 ?_
        rw [h5, Int.toNat_natCast, q1]
        refine ⟨h1, by rw [c1]; decide, by rw [c2]; omega, q2.1.1, C_isWaiting q2 ⟨_, rfl, fun e0 => nx _ _ ?_, fun e0 => ⟨fun e1 => nx _ _ ?_, fun e1 => ⟨fun e2 => nx _ _ ?_, fun e2 => nx _ _ ?_⟩⟩⟩⟩
        · rw [longF_s, if_neg (fun q => by rw [if_neg q.1] at e0; exact absurd e0 (by decide))]
        · rw [longF_s, if_neg (fun q => e1 q.2.1)]
        · rw [longF_s, if_neg (fun q => g1 e2 q.2.2)]
        · rw [longF_s, if_pos ⟨fun q => e0 (by rw [if_pos q]), Decidable.not_not.mp e1, g2 e2⟩]
      refine bX9_longestWaiting_4 ⟨h1, fun c => absurd c (by rw [i1]; omega), fun _ => ⟨fun c => h42 1 _ (fun q => absurd q (by decide)) (fun _ => Or.inl c), fun c => ?_⟩⟩
      obtain ⟨r1, r2, r3⟩ := hS (longF (yX Y) seen i).toNat (by omega)
      rw [h5, Int.toNat_natCast, q1, r1]
      have s1 := q2.2.1.2.2.2.2.2.2.2.2.2.2.2.2.1
      have s2 := r2.2.1.2.2.2.2.2.2.2.2.2.2.2.2.1
      rw [s1, s2]
      exact ⟨by rw [c1]; decide, by rw [c2]; omega, q2.1.1, by rw [c2]; omega, r2.1.1, fun e1 => h42 0 _ (fun _ q => by omega) (fun q => absurd rfl q), fun e1 => h42 1 _ (fun q => absurd q (by decide)) (fun _ => Or.inr (by omega))⟩
  exact bX9_longestWaiting_0 (lp (yS Y) 0 (by omega) _)
theorem C_building {P kc ke a : Nat} {p : Nat → Nat} {Y : zY} (h : Yd P kc ke m a p Y) (hQ : Q (.inl (some (zI (cntB (yX Y) (yS Y))))) m) : zC xs xl (d + 1) 96 [zR a] m Q := by
  have hS := fun i hi => h.sl (i := i) hi
  obtain ⟨⟨h1, h2, h3, h4, h5, h6, h7, h8⟩, ⟨i0, i1, i2, i3, i4, i5⟩, hst, hA, ⟨⟨c1, c2⟩, -⟩, hH⟩ := h
  have lp : ∀ (k i : Nat), i + k = yS Y → zW xs xl d cX9_buildingSlips 9 (some .int) false [] 4 [zR a, zI (cntB (yX Y) i), zI (i : Int)] [] m Q := by
    intro k
    induction k with
    | zero =>
      intro i e
      refine bX9_buildingSlips_4 ⟨h1, fun _ => ?_, fun c => absurd ?_ c⟩
      · rw [show i = yS Y by omega]; exact hQ
      · rw [i1]; omega
    | succ k ih =>
      intro i e
      obtain ⟨q1, q2, q3⟩ := hS i (by omega)
      have hn := ih (i + 1) (by omega)
      have e1 : cntB (yX Y) (i + 1) = wr (cntB (yX Y) i + (if yX Y i 0 = 0 then 0 else 1)) := rfl
      rw [e1] at hn
      refine bX9_buildingSlips_4 ⟨h1, fun c => absurd c (by rw [i1]; omega), fun _ => ?_⟩
      rw [h5, Int.toNat_natCast, q1, q2.2.1.1, wr_s (by omega)]
      refine ⟨by rw [c1]; decide, by rw [c2]; omega, q2.1.1, fun c => ?_, fun c => ?_⟩
      · rwa [if_pos c] at hn
      · rwa [if_neg c] at hn
  exact bX9_buildingSlips_0 (lp (yS Y) 0 (by omega))
theorem C_waitFor {P kc ke a : Nat} {p : Nat → Nat} {Y : zY} {so : Int} (h : Yd P kc ke m a p Y) (hQ : Q (.inl (some (zI (wtF (yX Y) so (yS Y))))) m) : zC xs xl (d + 1) 98 [zR a, zI so] m Q := by
  have hS := fun i hi => h.sl (i := i) hi
  obtain ⟨⟨h1, h2, h3, h4, h5, h6, h7, h8⟩, ⟨i0, i1, i2, i3, i4, i5⟩, hst, hA, ⟨⟨c1, c2⟩, -⟩, hH⟩ := h
  have lp : ∀ (k i : Nat), i + k = yS Y → zW xs xl d cX9_slipsWaitingFor 9 (some .int) false [] 4 [zR a, zI so, zI (wtF (yX Y) so i), zI (i : Int)] [] m Q := by
    intro k
    induction k with
    | zero =>
      intro i e
      refine bX9_slipsWaitingFor_4 ⟨h1, fun _ => ?_, fun c => absurd ?_ c⟩
      · rw [show i = yS Y by omega]; exact hQ
      · rw [i1]; omega
    | succ k ih =>
      intro i e
      obtain ⟨q1, q2, q3⟩ := hS i (by omega)
      have hn := ih (i + 1) (by omega)
      have e1 : wtF (yX Y) so (i + 1) = wr (wtF (yX Y) so i + (if yX Y i 9 = so then 1 else 0)) := rfl
      rw [e1] at hn
      refine bX9_slipsWaitingFor_4 ⟨h1, fun c => absurd c (by rw [i1]; omega), fun _ => ?_⟩
      rw [h5, Int.toNat_natCast, q1, q2.2.1.2.2.2.2.2.2.2.2.2.2.2.1, wr_s (by omega)]
      refine ⟨by rw [c1]; decide, by rw [c2]; omega, q2.1.1, fun c => ?_, fun c => ?_⟩
      · rwa [if_neg c] at hn
      · rwa [if_pos (Decidable.not_not.mp c)] at hn
  exact bX9_slipsWaitingFor_0 (lp (yS Y) 0 (by omega))
theorem C_waiting {P kc ke a : Nat} {p : Nat → Nat} {Y : zY} (h : Yd P kc ke m a p Y) (hQ : Q (.inl (some (zI (wtA (yX Y) (yS Y) 5)))) m) : zC xs xl (d + 2) 97 [zR a] m Q := by
  have lp : ∀ (k i : Nat), i + k = 5 → zW xs xl (d + 1) cX9_waitingSlips 9 (some .int) false [] 4 [zR a, zI (wtA (yX Y) (yS Y) i), zI (i : Int)] [] m Q := by
    intro k
    induction k with
    | zero =>
      intro i e
      refine bX9_waitingSlips_4 ⟨fun _ => ?_, fun c => absurd (by omega) c⟩
      rw [show i = 5 by omega]; exact hQ
    | succ k ih =>
      intro i e
      refine bX9_waitingSlips_4 ⟨fun c => absurd c (by omega), fun _ => ⟨h.1.1, C_waitFor h ⟨_, rfl, ?_⟩⟩⟩
      rw [wr_s (by omega)]
      exact ih (i + 1) (by omega)
  exact bX9_waitingSlips_0 (lp 5 0 (by omega))
theorem C_kept {P kc ke a : Nat} {p : Nat → Nat} {Y : zY} (h : Yd P kc ke m a p Y) (hQ : Q (.inl (some (zI (keptF Y)))) m) : zC xs xl (d + 1) 94 [zR a] m Q := by
  refine bX9_keptHulls_0 ⟨h.1.1, ?_⟩
  rw [h.2.1.2.2.1]
  exact hQ
theorem C_frames {P kc ke a j k : Nat} {p : Nat → Nat} {Y : zY} (h : Yd P kc ke m a p Y) (hj : j < 5) (hQ : Q (.inl (some (zI (frT Y j k)))) m) : zC xs xl (d + 2) 99 [zR a, zI (j : Int), zI (k : Int)] m Q := by
  have hA := h.2.2.2.1
  unfold frT at hQ
  refine bX9_tellFrames_0 (C_isBelow ⟨_, rfl, fun _ => ⟨fun c => ⟨h.1.1, ?_⟩, fun c => ⟨fun c1 => ⟨h.1.1, ?_⟩, fun c1 => ⟨h.1.1, C_waitFor h ⟨_, rfl, ?_⟩⟩⟩⟩, fun c => absurd (if_pos ⟨by omega, by omega⟩) (fun q : (if 0 ≤ (j : Int) ∧ (j : Int) < 5 then (1 : Int) else 0) = 1 => c (by rw [q]; decide))⟩)
  · rw [if_pos (by omega)] at hQ
    rw [h.1.2.2.1, hA.1.1, hA.1.2.1, Int.toNat_natCast, (hA.2 j hj).1]
    exact ⟨rfl, by omega, hQ⟩
  · rw [if_neg (by omega), if_pos (by omega)] at hQ
    rw [h.1.2.2.2.1, hA.1.2.2.1, hA.1.2.2.2, Int.toNat_natCast, (hA.2 j hj).2]
    exact ⟨rfl, by omega, hQ⟩
  · rw [if_neg (by omega), if_neg (by omega)] at hQ
    exact hQ
theorem C_count {P kc ke a k : Nat} {p : Nat → Nat} {Y : zY} (h : Yd P kc ke m a p Y) (hQ : Q (.inl (some (zI (ctT Y k)))) m) : zC xs xl (d + 3) 100 [zR a, zI (k : Int)] m Q := by
  obtain ⟨i0, i1, i2, i3, i4⟩ := h.2.1
  have hst := h.2.2.1
  have h1 := h.1.1
  have h2 := h.1.2.1
  unfold ctT at hQ
  refine bX9_tellCount_0 ⟨fun c => ⟨h1, ?_⟩, fun c0 => ⟨fun c => ⟨h1, ?_⟩, fun c1 => ⟨fun c => ⟨h1, ?_⟩, fun c2 => ⟨fun c => ⟨h1, C_building h ⟨_, rfl, ?_⟩⟩, fun c3 => ⟨fun c => ⟨h1, C_waiting h ⟨_, rfl, ?_⟩⟩, fun c4 => ⟨fun c => ⟨h1, ?_⟩, fun c5 => ⟨fun c => ⟨h1, ?_⟩, fun c6 => ⟨fun c => ⟨h1, ?_⟩, fun c7 => ⟨h1, ?_⟩⟩⟩⟩⟩⟩⟩⟩⟩
  · rw [if_pos (by omega)] at hQ
    rw [i0]; exact hQ
  · rw [if_neg (by omega), if_pos (by omega)] at hQ
    rw [h2, hst.2.1.1]; exact ⟨hst.1.1, hQ⟩
  · rw [if_neg (by omega), if_neg (by omega), if_pos (by omega)] at hQ
    rw [i1]; exact hQ
  · rw [if_neg (by omega), if_neg (by omega), if_neg (by omega), if_pos (by omega)] at hQ
    exact hQ
  · rw [if_neg (by omega), if_neg (by omega), if_neg (by omega), if_neg (by omega), if_pos (by omega)] at hQ
    exact hQ
  · rw [if_neg (by omega), if_neg (by omega), if_neg (by omega), if_neg (by omega), if_neg (by omega), if_pos (by omega)] at hQ
    rw [i2]; exact hQ
  · rw [if_neg (by omega), if_neg (by omega), if_neg (by omega), if_neg (by omega), if_neg (by omega), if_neg (by omega), if_pos (by omega)] at hQ
    rw [i3]; exact hQ
  · rw [if_neg (by omega), if_neg (by omega), if_neg (by omega), if_neg (by omega), if_neg (by omega), if_neg (by omega), if_neg (by omega), if_pos (by omega)] at hQ
    rw [h2, hst.2.1.2.1]; exact ⟨hst.1.1, hQ⟩
  · rw [if_neg (by omega), if_neg (by omega), if_neg (by omega), if_neg (by omega), if_neg (by omega), if_neg (by omega), if_neg (by omega), if_neg (by omega)] at hQ
    rw [h2]; exact ⟨hst.1.1, C_lengthOfAll hst ⟨_, rfl, hQ⟩⟩
theorem C_stuck {P kc ke a : Nat} {p : Nat → Nat} {Y : zY} (h : Yd P kc ke m a p Y) (hQ : Q (.inl (some (zI (stuckF Y)))) m) : zC xs xl (d + 3) 95 [zR a] m Q := by
  have hS := fun i hi => h.sl (i := i) hi
  obtain ⟨⟨h1, h2, h3, h4, h5, h6, h7, h8⟩, ⟨i0, i1, i2, i3, i4, i5⟩, hst, hA, ⟨⟨c1, c2⟩, -⟩, hH⟩ := h
  have l99 : ∀ (g : Int), Q (.inl (some (zI (stuckB (yX Y) g (yS Y))))) m → ∀ (k i : Nat), i + k = yS Y → zW xs xl (d + 2) cX9_stuckSlips 9 (some .int) false [] 99 [zR a, zI g, zI (stuckB (yX Y) g i), zI (i : Int)] [] m Q := by
    intro g hq k
    induction k with
    | zero =>
      intro i e
      refine bX9_stuckSlips_99 ⟨h1, fun _ => ?_, fun c => absurd ?_ c⟩
      · rw [show i = yS Y by omega]; exact hq
      · rw [i1]; omega
    | succ k ih =>
      intro i e
      obtain ⟨q1, q2, q3⟩ := hS i (by omega)
      have hn := ih (i + 1) (by omega)
      have e1 : stuckB (yX Y) g (i + 1) = bOr (stuckB (yX Y) g i) (if couldF (yX Y i) g then 0 else bShl 1 (i : Int)) := rfl
      rw [e1] at hn
      refine bX9_stuckSlips_99 ⟨h1, fun c => absurd c (by rw [i1]; omega), fun _ => ?_⟩
      rw [h5, Int.toNat_natCast, q1, wr_s (by omega)]
      refine ⟨by rw [c1]; decide, by rw [c2]; omega, q2.1.1, C_couldEnd q2 ⟨_, rfl, fun c => ?_, fun c => ?_⟩⟩
      · rwa [if_neg (fun q : couldF (yX Y i) g => by rw [if_pos q] at c; exact absurd c (by decide))] at hn
      · rwa [if_pos (show couldF (yX Y i) g from Decidable.byContradiction (fun q => c (by rw [if_neg q])))] at hn
  have l46 : ∀ (r : Int) (g : Int), zW xs xl (d + 2) cX9_stuckSlips 9 (some .int) false [] 36 [zR a, zI (rndF (yX Y) g (yS Y)), zI (wr (r + 1)), zI (yS Y : Int)] [] m Q → ∀ (k i : Nat), i + k = yS Y → zW xs xl (d + 2) cX9_stuckSlips 9 (some .int) false [] 46 [zR a, zI (rndF (yX Y) g i), zI r, zI (i : Int)] [] m Q := by
    intro r g hq k
    induction k with
    | zero =>
      intro i e
      refine bX9_stuckSlips_46 ⟨h1, fun _ => ?_, fun c => absurd ?_ c⟩
      · rw [show i = yS Y by omega]; exact hq
      · rw [i1]; omega
    | succ k ih =>
      intro i e
      obtain ⟨q1, q2, q3⟩ := hS i (by omega)
      have hn := ih (i + 1) (by omega)
      have e1 : rndF (yX Y) g (i + 1) = bOr (rndF (yX Y) g i) (if couldF (yX Y i) (rndF (yX Y) g i) then yX Y i 12 else 0) := rfl
      rw [e1] at hn
      refine bX9_stuckSlips_46 ⟨h1, fun c => absurd c (by rw [i1]; omega), fun _ => ?_⟩
      rw [h5, Int.toNat_natCast, q1, wr_s (by omega)]
      refine ⟨by rw [c1]; decide, by rw [c2]; omega, q2.1.1, C_couldEnd q2 ⟨_, rfl, fun c => ?_, fun c => ?_⟩⟩
      · rwa [if_neg (fun q : couldF (yX Y i) _ => by rw [if_pos q] at c; exact absurd c (by decide))] at hn
      · rw [if_pos (show couldF (yX Y i) _ from Decidable.byContradiction (fun q => c (by rw [if_neg q])))] at hn
        exact ⟨h1, by rw [h5, c1]; decide, by rw [h5, c2]; omega, by rw [h5, q1]; exact q2.1.1, by rw [h5, q1]; exact C_heldSorts q2 ⟨_, rfl, hn⟩⟩
  have l36 : ∀ (k r : Nat), r + k = yS Y → ∀ (u : zV), zW xs xl (d + 2) cX9_stuckSlips 9 (some .int) false [] 36 [zR a, zI (rndsF (yX Y) (yS Y) (setE (yE Y) 5) r), zI (r : Int), u] [] m Q := by
    intro k
    induction k with
    | zero =>
      intro r e u
      refine bX9_stuckSlips_36 ⟨h1, fun _ => ?_, fun c => absurd ?_ c⟩
      · rw [show r = yS Y by omega]
        exact l99 _ hQ (yS Y) 0 (by omega)
      · rw [i1]; omega
    | succ k ih =>
      intro r e u
      refine bX9_stuckSlips_36 ⟨h1, fun c => absurd c (by rw [i1]; omega), fun _ => ?_⟩
      refine l46 (r : Int) (rndsF (yX Y) (yS Y) (setE (yE Y) 5) r) ?_ (yS Y) 0 (by omega)
      rw [wr_s (by omega)]
      exact ih (r + 1) (by omega) _
  have l4 : ∀ (k j : Nat), j + k = 5 → ∀ (u : zV), zW xs xl (d + 2) cX9_stuckSlips 9 (some .int) false [] 4 [zR a, zI (setE (yE Y) j), zI (j : Int), u] [] m Q := by
    intro k
    induction k with
    | zero =>
      intro j e u
      refine bX9_stuckSlips_4 ⟨fun _ => ?_, fun c => absurd (by omega) c⟩
      rw [show j = 5 by omega]
      exact l36 (yS Y) 0 (by omega) _
    | succ k ih =>
      intro j e u
      have hn := ih (j + 1) (by omega) u
      have e1 : setE (yE Y) (j + 1) = bOr (setE (yE Y) j) (if yE Y j ≤ 0 then 0 else bShl 1 (j : Int)) := rfl
      rw [e1] at hn
      refine bX9_stuckSlips_4 ⟨fun c => absurd c (by omega), fun _ => ?_⟩
      rw [h4, Int.toNat_natCast, hA.1.2.2.1, hA.1.2.2.2, (hA.2 j (by omega)).2, wr_s (by omega)]
      refine ⟨h1, rfl, by omega, fun c => ?_, fun c => ?_⟩
      · rwa [if_pos c] at hn
      · rwa [if_neg c] at hn
  exact bX9_stuckSlips_0 (l4 5 0 (by omega) _)
end ZYD
