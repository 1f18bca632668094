/-! the piece: a tick of bending; springing back; copying -/
def Ac (m : zM) (a : Nat) (w f s t : Int) : Prop := mC m a = 1 ∧ mI m 0 a = w ∧ mI m 1 a = f ∧ mI m 2 a = s ∧ mI m 3 a = t
theorem Ac.mv {m m' : zM} {a : Nat} {w f s t : Int} (h : Ac m a w f s t) (e : Eqv m m' a) : Ac m' a w f s t := by
  unfold Ac
  rw [e.2.2.2.2.1, e.1, e.1, e.1, e.1]
  exact h
section ZPE
variable {xs : Nat → Int} {xl d : Nat} {m : zM} {Q : zRes → zM → Prop}
theorem C_bendTail {a ac : Nat} {g : Int} {u : zV} {x : Nat → Int} (h : Pc m a x) (hx : pcOk x) (hQ : ∀ m', Pc m' a (dryF (coolF x 10) 1) → Fr (rg a (a + 3)) 0 0 m m' → Q (.inl (some (zI (if meantF x then 1 else 0)))) m') : zW xs xl (d + 1) cX2_bendTowards 2 (some .int) false [] 117 [zR a, zR ac, zI g, u] [] m Q := by
  refine bX2_bendTowards_117 ⟨h.1.1, C_cool h hx (by omega) (fun m1 h1 f1 => ⟨rfl, h1.1.1, C_dry h1 (coolF_ok hx (by omega)) (by omega) (fun m2 h2 f2 => ⟨rfl, h2.1.1, C_isAsMeant h2 ⟨_, rfl, ?_⟩⟩)⟩)⟩
  have e : meantF (dryF (coolF x 10) 1) ↔ meantF x := by simp [meantF, dryF, coolF, up1]
  have q := hQ m2 h2 (f1.tr0 f2)
  by_cases c : meantF x
  · rw [if_pos (e.mpr c)]
    rw [if_pos c] at q
    exact ⟨fun k => absurd k (by decide), fun _ => q⟩
  · rw [if_neg (fun k => c (e.mp k))]
    rw [if_neg c] at q
    exact ⟨fun _ => q, fun k => absurd rfl k⟩
theorem C_bend3 {a ac : Nat} {g : Int} {x : Nat → Int} (h : Pc m a x) (hx : pcOk x) (hb : pbOk x) (hg : 0 ≤ g ∧ g ≤ 24000) (hQ : ∀ m', Pc m' a (dryF (coolF (nearB x g) 10) 1) → Fr (rg a (a + 3)) 0 0 m m' → Q (.inl (some (zI (if meantF (nearB x g) then 1 else 0)))) m') : zW xs xl (d + 1) cX2_bendTowards 2 (some .int) false [] 84 [zR a, zR ac, zI g, zI 0] [] m Q := by
  have hn : ∀ k, 20 ≤ k → k ≤ 22 → 0 ≤ nearF (x k) (x (k + 3)) g ∧ nearF (x k) (x (k + 3)) g ≤ 40 := fun k h1 h2 => nearF_in (hb k h1 (by omega)) (hb (k + 3) (by omega) (by omega)) hg.1
  refine C_bend1 (j := 0) h hb hg (by omega) (fun m1 h1 f1 => ?_)
  have hb1 : pbOk (up1 x (20 + 0) (nearF (x (20 + 0)) (x (23 + 0)) g)) := fun k k1 k2 => by
    unfold up1
    split
    · exact hn 20 (by omega) (by omega)
    · exact hb k k1 k2
  refine C_bend1 (j := 1) h1 hb1 hg (by omega) (fun m2 h2 f2 => ?_)
  have e2 : up1 (up1 x (20 + 0) (nearF (x (20 + 0)) (x (23 + 0)) g)) (20 + 1) (nearF (up1 x (20 + 0) (nearF (x (20 + 0)) (x (23 + 0)) g) (20 + 1)) (up1 x (20 + 0) (nearF (x (20 + 0)) (x (23 + 0)) g) (23 + 1)) g) = up1 (up1 x 20 (nearF (x 20) (x 23) g)) 21 (nearF (x 21) (x 24) g) := by simp [up1]
  rw [e2] at h2
  have hb2 : pbOk (up1 (up1 x 20 (nearF (x 20) (x 23) g)) 21 (nearF (x 21) (x 24) g)) := fun k k1 k2 => by
    unfold up1
    split
    · exact hn 21 (by omega) (by omega)
    · split
      · exact hn 20 (by omega) (by omega)
      · exact hb k k1 k2
  refine C_bend1 (j := 2) h2 hb2 hg (by omega) (fun m3 h3 f3 => ?_)
  have e3 : up1 (up1 (up1 x 20 (nearF (x 20) (x 23) g)) 21 (nearF (x 21) (x 24) g)) (20 + 2) (nearF (up1 (up1 x 20 (nearF (x 20) (x 23) g)) 21 (nearF (x 21) (x 24) g) (20 + 2)) (up1 (up1 x 20 (nearF (x 20) (x 23) g)) 21 (nearF (x 21) (x 24) g) (23 + 2)) g) = nearB x g := by simp [up1, nearB]
  rw [e3] at h3
  have hx3 : pcOk (nearB x g) := by
    unfold pcOk nearB at *
    simpa [up1] using hx
  exact bX2_bendTowards_84 ⟨fun _ => C_bendTail h3 hx3 (fun m' h4 f4 => hQ m' h4 (((f1.tr0 f2).tr0 f3).tr0 f4)), fun c => absurd (by decide) c⟩
theorem C_bendTowards {a ac : Nat} {x : Nat → Int} {w f s t : Int} (h : Pc m a x) (hA : Ac m ac w f s t) (hx : pcOk x) (hb : pbOk x) (hc : 0 ≤ x 8 ∧ x 8 ≤ 2) (hf : (0 ≤ f ∧ f ≤ 40) ∧ (0 ≤ s ∧ s ≤ 40) ∧ (0 ≤ t ∧ t ≤ 40)) (hQ : ∀ m', Pc m' a (bendR x f s t).2 → Fr (rg a (a + 3)) 0 0 m m' → Q (.inl (some (zI (bendR x f s t).1))) m') : zC xs xl (d + 2) 26 [zR a, zR ac] m Q := by
  have g0 := h
  unfold Pc at g0
  obtain ⟨⟨g1, g2, g3, g4, g5, g6, g7⟩, i0, ⟨b0, b1, b2⟩, t0, t1, t2⟩ := g0
  obtain ⟨a1, a2, a3, a4, a5⟩ := hA
  have hr : rg a (a + 3) (a + 2) := by unfold rg; omega
  refine bX2_bendTowards_0 ⟨g1, a1, by rw [g3, g7]; decide, by rw [g3]; exact g5, by rw [g3, g7]; decide, by rw [g3, g7]; decide, ?_⟩
  rw [g3, a3, a4, a5]
  have hT : Pc (sA (sA (sA m (a + 2) 0 f) (a + 2) 1 s) (a + 2) 2 t) a (tgtF x f s t) := by
    unfold Pc
    simp [zget, up1, tgtF, g1, g2, g3, g4, g5, g6, g7, i0, b0, b1, b2]
  have hF : Fr (rg a (a + 3)) 0 0 m (sA (sA (sA m (a + 2) 0 f) (a + 2) 1 s) (a + 2) 2 t) := ((Fr.rfl.sA hr).sA hr).sA hr
  have hxT : pcOk (tgtF x f s t) := by unfold pcOk tgtF at *; simpa [up1] using hx
  have hbT : pbOk (tgtF x f s t) := fun k k1 k2 => by
    unfold tgtF up1
    split
    · exact hf.2.2
    · split
      · exact hf.2.1
      · split
        · exact hf.1
        · exact hb k k1 k2
  have e18 : tgtF x f s t 18 = x 18 := by simp [tgtF, up1]
  have e8 : tgtF x f s t 8 = x 8 := by simp [tgtF, up1]
  have hs := stiffF_in (x 18)
  have hm := pcmul hx
  have hst := stepF_in hx
  have hx' := hx
  unfold pcOk at hx'
  have e1 : wr (mI m 130 a + 20) = x 6 + 20 := by rw [i0.2.2.1]; exact wr_id (by omega) (by omega)
  have e2 : wr (mI m 131 a * (x 6 + 20)) = x 7 * (x 6 + 20) := by rw [i0.2.2.2.1]; exact wr_id (by omega) (by omega)
  have e3 : wr (100 * stiffF (x 18)) = 100 * stiffF (x 18) := wr_id (by omega) (by omega)
  have e4 : wr (Int.tdiv (x 7 * (x 6 + 20)) (100 * stiffF (x 18))) = stepF x := wr_id (by unfold stepF at hst; omega) (by unfold stepF at hst; omega)
  refine C_stiffness hT ⟨_, rfl, ?_⟩
  rw [e18, e1, e2, e3, e4]
  unfold bendR at hQ
  refine ⟨by omega, fun c => ?_, fun c => ⟨hT.1.1, C_isAsMeant hT ⟨_, rfl, ?_⟩⟩⟩
  · rw [if_neg (fun q => c q.1)] at hQ
    exact C_bend3 hT hxT hbT hst (fun m' h1 f1 => hQ m' h1 (hF.tr0 f1))
  · have c0 : stepF x = 0 := Decidable.not_not.mp c
    by_cases cm : meantF (tgtF x f s t)
    · rw [if_neg (fun q => q.2 cm)] at hQ
      rw [if_pos cm]
      exact ⟨fun _ => C_bend3 hT hxT hbT hst (fun m' h1 f1 => hQ m' h1 (hF.tr0 f1)), fun k => absurd (by decide) k⟩
    · rw [if_pos ⟨c0, cm⟩] at hQ
      rw [if_neg cm]
      refine ⟨fun k => absurd rfl k, fun _ => ⟨hT.1.1, ?_⟩⟩
      have e5 : mI (sA (sA (sA m (a + 2) 0 f) (a + 2) 1 s) (a + 2) 2 t) 132 a = x 8 := i0.2.2.2.2
      have e6 : wr (x 8 + 1) = x 8 + 1 := wr_id (by omega) (by omega)
      rw [e5, e6]
      have hC : Pc (sI (sA (sA (sA m (a + 2) 0 f) (a + 2) 1 s) (a + 2) 2 t) 132 a (x 8 + 1)) a (up1 (tgtF x f s t) 8 (x 8 + 1)) := by
        unfold Pc
        simp [zget, up1, tgtF, g1, g2, g3, g4, g5, g6, g7, i0, b0, b1, b2]
      have hFC : Fr (rg a (a + 3)) 0 0 m (sI (sA (sA (sA m (a + 2) 0 f) (a + 2) 1 s) (a + 2) 2 t) 132 a (x 8 + 1)) := hF.sI (by unfold rg; omega)
      refine ⟨fun k => ?_, fun k => ?_⟩
      · rw [if_pos k, if_neg cm] at hQ
        refine C_bendTail hC ?_ (fun m' h1 f1 => ?_)
        · unfold pcOk at *; simpa [up1] using hxT
        · have em : ¬ meantF (up1 (tgtF x f s t) 8 (x 8 + 1)) := by simpa [meantF, up1] using cm
          rw [if_neg em]
          exact hQ m' h1 (hFC.tr0 f1)
      · rw [if_neg k] at hQ
        exact hQ _ hC hFC
/-- springing back: the bends behind it, and by how much they differ from what they should be -/
def springB (x : Nat → Int) (k : Nat) : Int := x k - Int.tdiv (x k * x 6) 200
def springF (x : Nat → Int) : Nat → Int := up1 (up1 (up1 x 20 (springB x 20)) 21 (springB x 21)) 22 (springB x 22)
def absF (a : Int) : Int := if 0 ≤ a then a else -a
def springS (x : Nat → Int) : Int := absF (x 23 - springB x 20) + absF (x 24 - springB x 21) + absF (x 25 - springB x 22)
theorem springB_in {x : Nat → Int} (hx : pcOk x) (hb : pbOk x) {k : Nat} (h1 : 20 ≤ k) (h2 : k ≤ 25) : 0 ≤ springB x k ∧ springB x k ≤ 40 := by
  have hk := hb k h1 h2
  unfold pcOk at hx
  have p0 : 0 ≤ x k * x 6 := Int.mul_nonneg hk.1 hx.1.1
  have p1 : x k * x 6 ≤ x k * 100 := Int.mul_le_mul_of_nonneg_left hx.1.2 hk.1
  unfold springB
  rw [Int.tdiv_eq_ediv_of_nonneg p0]
  omega
end ZPE
