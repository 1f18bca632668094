/-! a tick of the yard -/
def acOk (q : zAc) : Prop := (0 ≤ q.1 ∧ q.1 ≤ 7) ∧ (q.1 ≤ 1 → 0 ≤ q.2.1 ∧ q.2.1 ≤ 4) ∧ (q.1 = 2 → (0 ≤ q.2.1 ∧ q.2.1 ≤ 3) ∧ (10 ≤ q.2.2.1 ∧ q.2.2.1 ≤ 200)) ∧ (q.1 = 5 → (0 ≤ q.2.1 ∧ q.2.1 ≤ 40) ∧ (0 ≤ q.2.2.1 ∧ q.2.2.1 ≤ 40) ∧ (0 ≤ q.2.2.2 ∧ q.2.2.2 ≤ 40)) ∧ (q.1 = 3 ∨ q.1 = 4 ∨ q.1 = 6 → 1 ≤ q.2.1 ∧ q.2.1 ≤ 30)
def slB (x : Nat → Int) (l : List zAc) : Prop := flagOk x ∧ pcOk x ∧ pbOk x ∧ (0 ≤ x 8 ∧ x 8 ≤ 2) ∧ (0 ≤ x 2 ∧ x 2 ≤ 60) ∧ (x 0 ≠ 0 → ∀ q ∈ l, acOk q)
def yB (Y : zY) : Prop := stOk (yN Y) (yY Y) ∧ (∀ i, i < yS Y → slB (yX Y i) (yL Y i)) ∧ 0 ≤ yG Y 1
def actP (x : Nat → Int) (l : List zAc) : Option zAc := if x 0 ≠ 0 then l[(x 2).toNat]? else none
def rowF (i : Nat) (x : Nat → Int) (t : Int) : Nat → Int := fun j => if j = 0 then (i : Int) else if j = 1 then x 1 else if j = 2 then x 3 else if j = 3 then x 4 else if j = 4 then x 14 else t
def finF (Y : zY) (i : Nat) : zY := if 40 ≤ yG Y 1 then yg (yx Y i (up1 (yX Y i) 0 0)) 1 (wr (yG Y 1 + 1)) else yg (yh (yx Y i (up1 (yX Y i) 0 0)) (yG Y 1).toNat (rowF i (yX Y i) (yG Y 0))) 1 (wr (yG Y 1 + 1))
def cutR (Y : zY) (i : Nat) (w l : Int) : Int × zY :=
  if bestF (yY Y) w l (yN Y) < 0 then (0, Y) else (1, yst (yx Y i (getPF (yX Y i) w (yY Y (bestF (yY Y) w l (yN Y)).toNat).2.2.1)) (cutW (yG Y 3) (yN Y) (yY Y (bestF (yY Y) w l (yN Y)).toNat) (clearL (yY Y (bestF (yY Y) w l (yN Y)).toNat).2.1 l 0 (yY Y (bestF (yY Y) w l (yN Y)).toNat).2.2.2) l) (cutN (yN Y) (yY Y (bestF (yY Y) w l (yN Y)).toNat) (clearL (yY Y (bestF (yY Y) w l (yN Y)).toNat).2.1 l 0 (yY Y (bestF (yY Y) w l (yN Y)).toNat).2.2.2) l) (cutY (yN Y) (yY Y) (bestF (yY Y) w l (yN Y)).toNat (clearL (yY Y (bestF (yY Y) w l (yN Y)).toNat).2.1 l 0 (yY Y (bestF (yY Y) w l (yN Y)).toNat).2.2.2) l))
def takeR (Y : zY) (i : Nat) (f : Int) : Int × zY := if bAnd (yX Y i 12) (bShl 1 f) = 0 then (0, if yX Y i 9 < 0 then yx Y i (awaitF (yX Y i) f (yG Y 0) 0) else Y) else (1, Y)
def giveR (Y : zY) (i : Nat) (f : Int) : Int × zY := (1, if bAnd (yX Y i 12) (bShl 1 f) = 0 then Y else ye (yx Y i (releaseF (yX Y i) f)) f.toNat (wr (yE Y f.toNat + 1)))
def workQ (Y : zY) (i : Nat) (q : zAc) : Int × zY :=
  if q.1 = 0 then takeR Y i q.2.1 else if q.1 = 1 then giveR Y i q.2.1 else if q.1 = 2 then cutR Y i q.2.1 q.2.2.1
  else if q.1 = 5 then ((bendR (yX Y i) q.2.1 q.2.2.1 q.2.2.2).1, yx Y i (bendR (yX Y i) q.2.1 q.2.2.1 q.2.2.2).2)
  else if q.1 = 7 then ((fitR (yX Y i)).1, yx Y i (fitR (yX Y i)).2)
  else ((treatR (yX Y i) q.1 q.2.1).1, yx Y i (treatR (yX Y i) q.1 q.2.1).2)
def workR (Y : zY) (i : Nat) : Int × zY := match actP (yX Y i) (yL Y i) with
  | none => (0, Y)
  | some q => workQ Y i q
def setR (Y : zY) (i : Nat) (o : Int) : zY := if o = 2 then yg (yx Y i (loseF (yX Y i))) 2 (wr (yG Y 2 + 1)) else if o = 1 then (if actP (goOnF (yX Y i)) (yL Y i) = none then finF (yx Y i (goOnF (yX Y i))) i else yx Y i (goOnF (yX Y i))) else Y
def actF (Y : zY) (i : Nat) : zY := if yX Y i 11 ≠ 0 then Y else setR (workR Y i).2 i (workR Y i).1
def actsF (Y : zY) : Nat → zY
  | 0 => Y
  | i + 1 => actF (actsF Y i) i
def grant1 (Y : zY) (b : Nat) : zY := if (0 ≤ yX Y b 9 ∧ yX Y b 9 < 5) ∧ 0 < yE Y (yX Y b 9).toNat then yx (ye Y (yX Y b 9).toNat (wr (yE Y (yX Y b 9).toNat - 1))) b (receiveF (yX Y b) (yX Y b 9)) else Y
def grantR : Nat → zY → Int → zY
  | 0, Y, _ => Y
  | k + 1, Y, seen => if longF (yX Y) seen (yS Y) < 0 then Y else grantR k (grant1 Y (longF (yX Y) seen (yS Y)).toNat) (bOr seen (bShl 1 (longF (yX Y) seen (yS Y))))
def beatF (Y : zY) : zY := yg Y 0 (wr (yG Y 0 + 1))
def dryY (Y : zY) : zY := if wr (yG Y 0 - wr (wr (Int.tdiv (yG Y 0) 5) * 5)) ≠ 0 then Y else yst Y (yG Y 3) (yN Y) (fun j => wetF (yY Y j))
def passF (Y : zY) : zY := dryY (actsF (grantR (yS Y) (beatF Y) 0) (yS Y))
theorem clearL_in {len w : Int} : ∀ {l : List Int} {f : Int}, 0 ≤ f → (∀ k ∈ l, 0 ≤ k ∧ k < len) → 0 ≤ clearL len w f l → clearL len w f l + w ≤ len
  | [], f, hf, hk, h => by
    unfold clearL at h ⊢
    by_cases c : w ≤ len - f
    · rw [if_pos c]; omega
    · rw [if_neg c] at h; omega
  | k :: t, f, hf, hk, h => by
    have hkk := hk k List.mem_cons_self
    unfold clearL at h ⊢
    by_cases c : w ≤ k - f
    · rw [if_pos c]; omega
    · rw [if_neg c] at h ⊢
      exact clearL_in (by omega) (fun q hq => hk q (List.mem_cons_of_mem _ hq)) h
theorem bestF_clear {y : Nat → zPk} {w l : Int} : ∀ {i : Nat}, 0 ≤ bestF y w l i → 0 ≤ clearL (y (bestF y w l i).toNat).2.1 l 0 (y (bestF y w l i).toNat).2.2.2
  | 0, h => absurd h (show ¬ (0 ≤ (-1 : Int)) by decide)
  | i + 1, h => by
    rw [bestF_s] at h ⊢
    split at h
    · rename_i c
      rw [if_pos c, Int.toNat_natCast]; exact c.2.2
    · rename_i c
      rw [if_neg c]
      exact bestF_clear h
theorem treatR_0 {x : Nat → Int} {w f : Int} : (treatR x w f).2 0 = x 0 := by
  unfold treatR
  split
  · exact treatY_out (by omega)
  · show up1 (treatY x w) 16 (wr (x 16 + 1)) 0 = x 0
    exact (if_neg (by decide)).trans (treatY_out (by omega))
theorem fitR_0 {x : Nat → Int} : (fitR x).2 0 = x 0 := by
  unfold fitR
  split
  · simp [up1, vanishF, springF]
  · simp [up1, springF]
theorem bendR_out {x : Nat → Int} {f s t : Int} {k : Nat} (h : ¬ ((5 ≤ k ∧ k ≤ 8) ∨ (18 ≤ k ∧ k ≤ 25))) : (bendR x f s t).2 k = x k := by
  obtain ⟨e6, e7, e8, e20, e21, e22, e23, e24, e25⟩ : k ≠ 6 ∧ k ≠ 7 ∧ k ≠ 8 ∧ k ≠ 20 ∧ k ≠ 21 ∧ k ≠ 22 ∧ k ≠ 23 ∧ k ≠ 24 ∧ k ≠ 25 := by omega
  unfold bendR
  split
  · split <;> simp [dryF, coolF, tgtF, up1, e6, e7, e8, e23, e24, e25]
  · simp [dryF, coolF, nearB, tgtF, up1, e6, e7, e20, e21, e22, e23, e24, e25]
section ZYW
variable {xs : Nat → Int} {xl d : Nat} {m : zM} {Q : zRes → zM → Prop}
theorem C_act {P a p : Nat} {x : Nat → Int} {l : List zAc} (h : Sl m a p x) (hp : x 0 ≠ 0 → Pl P m p l) (h2i : 0 ≤ x 2) (h1 : actP x l = none → Q (.inl (some (zR 0))) m) (h2 : ∀ (ac : Nat) (q : zAc), actP x l = some q → ac ≠ 0 → (P ≤ ac ∧ ac < mz m) → Ac m ac q.1 q.2.1 q.2.2.1 q.2.2.2 → Q (.inl (some (zR ac))) m) : zC xs xl (d + 3) 59 [zR a] m Q := by
  unfold actP at h1 h2
  refine C_action h hp h2i (fun c => h1 ?_) (fun ac q c0 cq => h2 ac q ?_)
  · by_cases c0 : x 0 ≠ 0
    · rw [if_pos c0]
      exact List.getElem?_eq_none (by omega)
    · rw [if_neg c0]
  · rw [if_pos c0]; exact cq
theorem C_take {P kc ke a i : Nat} {p : Nat → Nat} {Y : zY} {f : Int} (h : Yd P kc ke m a p Y) (hi : i < kc) (hQ : ∀ m', Yd P kc ke m' a p (takeR Y i f).2 → Fr (rg a (a + 191)) 0 0 m m' → Q (.inl (some (zI (takeR Y i f).1))) m') : zC xs xl (d + 2) 90 [zR a, zR (a + 167 + 4 * i), zI f] m Q := by
  obtain ⟨q1, q2, q3⟩ := h.sl hi
  have hk6 := h.2.1.2.2.2.2.2
  have ht := h.2.1.1
  have h1 := h.1.1
  unfold takeR at hQ
  refine bX9_takeFrame_0 ⟨q2.1.1, C_holds q2 ⟨_, rfl, fun c => ⟨q2.1.1, C_isWaiting q2 ⟨_, rfl, fun c2 => ?_, fun c2 => ⟨h1, q2.1.1, ?_⟩⟩⟩, fun c => ?_⟩⟩
  · have e0 : bAnd (yX Y i 12) (bShl 1 f) = 0 := Decidable.byContradiction (fun q => by rw [if_neg q] at c; exact absurd c (by decide))
    have e1 : ¬ (yX Y i 9 < 0) := fun q => c2 (by rw [if_pos q])
    rw [if_pos e0, if_neg e1] at hQ
    exact hQ m h Fr.rfl
  · have e0 : bAnd (yX Y i 12) (bShl 1 f) = 0 := Decidable.byContradiction (fun q => by rw [if_neg q] at c; exact absurd c (by decide))
    have e1 : yX Y i 9 < 0 := Decidable.byContradiction (fun q => by rw [if_neg q] at c2; exact c2 (by decide))
    rw [if_pos e0, if_pos e1] at hQ
    rw [ht]
    exact C_await q2 (Or.inl rfl) (fun m2 s2 f2 => ⟨rfl, hQ m2 (h.slip hi f2 s2 (fun c => c)) (f2.rg (by omega) (by omega))⟩)
  · have e0 : ¬ (bAnd (yX Y i 12) (bShl 1 f) = 0) := fun q => c (by rw [if_pos q])
    rw [if_neg e0] at hQ
    exact hQ m h Fr.rfl
theorem C_give {P kc ke a i : Nat} {p : Nat → Nat} {Y : zY} {f : Int} (h : Yd P kc ke m a p Y) (hi : i < kc) (hf : 0 ≤ f ∧ f ≤ 4) (hQ : ∀ m', Yd P kc ke m' a p (giveR Y i f).2 → Fr (rg a (a + 191)) 0 0 m m' → Q (.inl (some (zI (giveR Y i f).1))) m') : zC xs xl (d + 2) 91 [zR a, zR (a + 167 + 4 * i), zI f] m Q := by
  obtain ⟨q1, q2, q3⟩ := h.sl hi
  have hk6 := h.2.1.2.2.2.2.2
  have ht := h.2.1.1
  have h1 := h.1.1
  unfold giveR at hQ
  refine bX9_giveFrame_0 ⟨q2.1.1, C_holds q2 ⟨_, rfl, fun c => ?_, fun c => C_isBelow ⟨_, rfl, fun c2 => ?_, fun c2 => ⟨q2.1.1, C_release q2 (fun m2 s2 f2 => ?_)⟩⟩⟩⟩
  · have e0 : bAnd (yX Y i 12) (bShl 1 f) = 0 := Decidable.byContradiction (fun q => by rw [if_neg q] at c; exact absurd c (by decide))
    rw [if_pos e0] at hQ
    exact hQ m h Fr.rfl
  · rw [if_pos ⟨by omega, by omega⟩] at c2
    exact absurd c2 (by decide)
  · have e0 : ¬ (bAnd (yX Y i 12) (bShl 1 f) = 0) := fun q => c (by rw [if_pos q])
    rw [if_neg e0] at hQ
    have y2 := h.slip hi f2 s2 (fun c => c)
    have hA := y2.2.2.2.1
    refine ⟨rfl, y2.1.1, ?_⟩
    rw [y2.1.2.2.2.1, hA.1.2.2.1, hA.1.2.2.2, (hA.2 f.toNat (by omega)).2]
    exact ⟨rfl, by omega, hQ _ y2.sE ((f2.rg (by omega) (by omega)).sA (by unfold rg; omega))⟩
theorem C_cut {P kc ke a i : Nat} {p : Nat → Nat} {Y : zY} {w l : Int} (h : Yd P kc ke m a p Y) (hi : i < kc) (ho : stOk (yN Y) (yY Y)) (hl : 10 ≤ l ∧ l ≤ 200) (hQ : ∀ m', Yd P kc ke m' a p (cutR Y i w l).2 → Fr (rg a (a + 191)) 0 0 m m' → Q (.inl (some (zI (cutR Y i w l).1))) m') : zC xs xl (d + 4) 92 [zR a, zR (a + 167 + 4 * i), zI w, zI l] m Q := by
  obtain ⟨q1, q2, q3⟩ := h.sl hi
  have hk6 := h.2.1.2.2.2.2.2
  have hst := h.2.2.1
  have h1 := h.1.1
  have h2 := h.1.2.1
  unfold cutR at hQ
  refine bX9_cutPiece_0 ⟨h1, ?_⟩
  rw [h2]
  refine ⟨hst.1.1, C_plankFor hst ho ⟨_, rfl, fun c => ?_, fun c => ?_⟩⟩
  · rw [if_neg (by omega)] at hQ
    have hb := bestF_in (yY Y) w l (yN Y)
    have hcl := bestF_clear c
    obtain ⟨b, hbe⟩ := Int.eq_ofNat_of_zero_le c
    rw [hbe, Int.toNat_natCast] at hcl hQ
    rw [hbe, Int.toNat_natCast]
    rw [hbe] at hb
    have hn := hst.2.1.2.2
    have hbn : b < yN Y := by omega
    have pb := hst.at hbn (by omega)
    have hpo := ho b hbn
    have hin := clearL_in (Int.le_refl 0) hpo.2.2.2.1 hcl
    rw [h2, hst.1.2.1, pb.1, pb.2.2.1.2.2.1]
    refine ⟨h1, hst.1.1, by rw [hst.1.2.2.1]; decide, by rw [hst.1.2.2.2.1]; omega, pb.2.1.1, q2.1.1, C_getPiece q2 (fun m2 s2 f2 => ?_)⟩
    have y2 := h.slip hi f2 s2 (fun c => c)
    have st2 := y2.2.2.1
    have pb2 := st2.at hbn (by omega)
    refine ⟨rfl, y2.1.1, pb2.2.1.1, C_clearPlaceFor pb2.2 hpo ⟨_, rfl, ?_⟩⟩
    rw [y2.1.2.1]
    exact ⟨st2.1.1, C_cutAway st2 hbn hpo ⟨hcl, by omega, hin⟩ (fun m3 s3 f3 => ⟨rfl, hQ m3 (y2.st f3 s3) ((f2.rg (by omega) (by omega)).tr0 (f3.rg (by omega) (by omega)))⟩)⟩
  · rw [if_pos (by omega)] at hQ
    exact hQ m h Fr.rfl
theorem C_work {P kc ke a i : Nat} {p : Nat → Nat} {Y : zY} (h : Yd P kc ke m a p Y) (hiS : i < yS Y) (hB : yB Y) (hQ : ∀ m', Yd P kc ke m' a p (workR Y i).2 → Fr (rg a (a + 191)) 0 0 m m' → Q (.inl (some (zI (workR Y i).1))) m') : zC xs xl (d + 5) 88 [zR a, zR (a + 167 + 4 * i)] m Q := by
  have hi : i < kc := Nat.lt_of_lt_of_le hiS h.2.1.2.2.2.2.1
  obtain ⟨q1, q2, q3⟩ := h.sl hi
  have hk6 := h.2.1.2.2.2.2.2
  have hP := h.1.2.2.2.2.2.2.2
  have h1 := h.1.1
  obtain ⟨hst, hsl, -⟩ := hB
  obtain ⟨b1, b2, b3, b4, b5, b6⟩ := hsl i hiS
  unfold workR at hQ
  refine bX9_work_0 ⟨q2.1.1, C_act q2 q3 b5.1 (fun e => ?_) (fun ac q e hac hac2 hA => ?_)⟩
  · rw [e] at hQ
    exact ⟨_, rfl, fun c => absurd rfl c, fun _ => hQ m h Fr.rfl⟩
  · rw [e] at hQ
    have hQ' : ∀ m', Yd P kc ke m' a p (workQ Y i q).2 → Fr (rg a (a + 191)) 0 0 m m' → Q (.inl (some (zI (workQ Y i q).1))) m' := hQ
    have hq : acOk q := by
      unfold actP at e
      split at e
      · rename_i c0
        exact b6 c0 q (List.mem_of_getElem? e)
      · exact absurd e (by simp)
    obtain ⟨hA0, hA1, hA2, hA3, hA4⟩ := hA
    obtain ⟨o1, o2, o3, o4, o5⟩ := hq
    unfold workQ at hQ'
    have treat : q.1 ≠ 0 → q.1 ≠ 1 → q.1 ≠ 2 → q.1 ≠ 5 → q.1 ≠ 7 → zC xs xl (d + 4) 63 [zR (a + 167 + 4 * i), zR ac] m (fun r m14 => ∃ v15 : Int, r = .inl (some (zI v15)) ∧ Q (.inl (some (zI v15))) m14) := fun c0 c1 c2 c5 c7 => by
      rw [if_neg c0, if_neg c1, if_neg c2, if_neg c5, if_neg c7] at hQ'
      exact C_treatPiece q2 ⟨hA0, hA1, hA2, hA3, hA4⟩ (by omega) b2 (fun m2 s2 f2 => ⟨_, rfl, hQ' m2 (h.slip hi f2 s2 (fun c => by rwa [treatR_0] at c)) (f2.rg (by omega) (by omega))⟩)
    refine ⟨ac, rfl, fun _ => ⟨hA0, ?_⟩, fun c => absurd hac c⟩
    rw [hA1, hA2, hA3, q2.1.2.1]
    refine ⟨fun c0 => ⟨h1, ?_⟩, fun c0 => ⟨fun c1 => ⟨h1, ?_⟩, fun c1 => ⟨fun c2 => ⟨h1, ?_⟩, fun c2 => ⟨fun c3 => ⟨q2.1.1, treat c0 c1 c2 (by omega) (by omega)⟩, fun c3 => ⟨fun c4 => ⟨q2.1.1, treat c0 c1 c2 (by omega) (by omega)⟩, fun c4 => ⟨fun c5 => ⟨q2.1.1, q2.2.2.1.1, ?_⟩, fun c5 => ⟨fun c6 => ⟨q2.1.1, treat c0 c1 c2 (by omega) (by omega)⟩, fun c6 => ⟨fun c7 => ⟨q2.1.1, ?_⟩, fun c7 => ⟨q2.1.1, treat c0 c1 c2 c5 c7⟩⟩⟩⟩⟩⟩⟩⟩⟩
    · rw [if_pos c0] at hQ'
      exact C_take h hi (fun m2 y2 f2 => ⟨_, rfl, hQ' m2 y2 f2⟩)
    · rw [if_neg c0, if_pos c1] at hQ'
      exact C_give h hi (o2 (by omega)) (fun m2 y2 f2 => ⟨_, rfl, hQ' m2 y2 f2⟩)
    · rw [if_neg c0, if_neg c1, if_pos c2] at hQ'
      exact C_cut h hi hst (o3 c2).2 (fun m2 y2 f2 => ⟨_, rfl, hQ' m2 y2 f2⟩)
    · rw [if_neg c0, if_neg c1, if_neg c2, if_pos c5] at hQ'
      refine C_bendTowards q2.2.2 ⟨hA0, hA1, hA2, hA3, hA4⟩ b2 b3 b4 (o4 c5) (fun m2 s2 f2 => ⟨_, rfl, ?_⟩)
      have hz := h.1.2.2.2.2.2.2.1
      exact hQ' m2 (h.slip hi (f2.rg (by omega) (by omega)) (q2.pc f2.2.1 (f2.1 _ (by omega) (fun q => by unfold rg at q; omega)) s2 (fun k hk => bendR_out hk)) (fun c => by rwa [bendR_out (by omega)] at c)) (f2.rg (by omega) (by omega))
    · rw [if_neg c0, if_neg c1, if_neg c2, if_neg c5, if_pos c7] at hQ'
      exact C_fitPiece q2 b2 b3 (fun m2 s2 f2 => ⟨_, rfl, hQ' m2 (h.slip hi f2 s2 (fun c => by rwa [fitR_0] at c)) (f2.rg (by omega) (by omega))⟩)
end ZYW
