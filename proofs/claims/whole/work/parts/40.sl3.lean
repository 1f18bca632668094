def treatY (x : Nat → Int) (w : Int) : Nat → Int := if w = 3 then soakF x else if w = 6 then settleF x else warmF x
def treatR (x : Nat → Int) (w f : Int) : Int × (Nat → Int) := if w ≠ 3 ∧ w ≠ 6 ∧ 150 < treatY x w 7 ∧ treatY x w 6 < 10 then (2, treatY x w) else ((if wr (x 16 + 1) < f then 0 else 1), up1 (treatY x w) 16 (wr (x 16 + 1)))
def fitR (x : Nat → Int) : Int × (Nat → Int) := if springS x ≤ x 15 then (1, up1 (up1 (vanishF (springF x)) 3 (wr (x 3 + 1))) 4 (wr (x 4 + springS x))) else (2, springF x)
theorem treatY_out {x : Nat → Int} {w : Int} {k : Nat} (h : k ≠ 6 ∧ k ≠ 7) : treatY x w k = x k := by
  unfold treatY soakF settleF warmF coolF dryF
  split
  · simp [up1, h]
  · split <;> simp [up1, h]
section ZSN
variable {xs : Nat → Int} {xl d : Nat} {m : zM} {Q : zRes → zM → Prop}
theorem C_treatEnd {a p ac : Nat} {x : Nat → Int} {w f s t : Int} (h : Sl m a p x) (hA : Ac m ac w f s t) (hQ : ∀ m', Sl m' a p (up1 x 16 (wr (x 16 + 1))) → Fr (rg a (a + 4)) 0 0 m m' → Q (.inl (some (zI (if wr (x 16 + 1) < f then 0 else 1)))) m') : zW xs xl d cX6_treatPiece 6 (some .int) false [] 56 [zR a, zR ac] [] m Q := by
  have hr : rg a (a + 4) a := by unfold rg; omega
  have e : mI m 390 a = x 16 := by unfold Sl at h; simp [h]
  have q := hQ (sI m 390 a (wr (x 16 + 1))) ?_ (Fr.rfl.sI hr)
  · refine bX6_treatPiece_56 ⟨h.1.1, hA.1, ?_⟩
    rw [e, hA.2.2.1]
    refine ⟨fun c => ?_, fun c => ?_⟩
    · rwa [if_pos c] at q
    · rwa [if_neg c] at q
  · have hp : Pc m (a + 1) (up1 x 16 (wr (x 16 + 1))) := h.2.2.cg (fun j hj => by simp [up1]; omega)
    refine ⟨?_, ?_, hp.sI (by omega)⟩
    · unfold Sl at h; simp [zget, h]
    · unfold Sl at h; simp [zget, up1, h]
theorem C_treatPiece {a p ac : Nat} {x : Nat → Int} {w f s t : Int} (h : Sl m a p x) (hA : Ac m ac w f s t) (hac : a + 4 ≤ ac ∧ ac < mz m) (hx : pcOk x) (hQ : ∀ m', Sl m' a p (treatR x w f).2 → Fr (rg a (a + 4)) 0 0 m m' → Q (.inl (some (zI (treatR x w f).1))) m') : zC xs xl (d + 3) 63 [zR a, zR ac] m Q := by
  have e1 := h.1.2.1
  have hz := h.1.2.2.2
  have hup : ∀ (m2 : zM) (y : Nat → Int), Pc m2 (a + 1) y → Fr (rg (a + 1) (a + 1 + 3)) 0 0 m m2 → (∀ k, ¬ ((5 ≤ k ∧ k ≤ 8) ∨ (18 ≤ k ∧ k ≤ 25)) → y k = x k) → Sl m2 a p y ∧ Ac m2 ac w f s t := fun m2 y hP hF hk =>
    ⟨h.pc hF.2.1 (hF.1 a (by omega) (fun q => by unfold rg at q; omega)) hP hk, hA.mv (hF.1 ac hac.2 (fun q => by unfold rg at q; omega))⟩
  have hend : ∀ (m2 : zM), Pc m2 (a + 1) (treatY x w) → Fr (rg (a + 1) (a + 1 + 3)) 0 0 m m2 → ¬ (w ≠ 3 ∧ w ≠ 6 ∧ 150 < treatY x w 7 ∧ treatY x w 6 < 10) → zW xs xl (d + 2) cX6_treatPiece 6 (some .int) false [] 56 [zR a, zR ac] [] m2 Q := fun m2 hP hF hn => by
    obtain ⟨s1, s2⟩ := hup m2 _ hP hF (fun k hk => treatY_out (by omega))
    have e16 : treatY x w 16 = x 16 := treatY_out (by omega)
    refine C_treatEnd s1 s2 (fun m' h' f' => ?_)
    rw [e16] at h' ⊢
    have q := hQ m'
    unfold treatR at q
    rw [if_neg hn] at q
    exact q h' ((hF.rg (by omega) (by omega)).tr0 f')
  refine bX6_treatPiece_0 ⟨hA.1, ?_⟩
  rw [hA.2.1, e1]
  refine ⟨fun c3 => ⟨fun c6 => ⟨h.1.1, h.2.2.1.1, C_warm h.2.2 hx (fun m2 h2 f2 => ?_)⟩, fun c6 => ⟨h.1.1, h.2.2.1.1, C_settle h.2.2 hx (fun m2 h2 f2 => ⟨rfl, hend m2 ?_ f2 (fun q => c6 q.2.1)⟩)⟩⟩, fun c3 => ⟨h.1.1, h.2.2.1.1, C_soak h.2.2 hx (fun m2 h2 f2 => ⟨rfl, hend m2 ?_ f2 (fun q => c3 q.1)⟩)⟩⟩
  · have ey : treatY x w = warmF x := by unfold treatY; rw [if_neg c3, if_neg c6]
    rw [← ey] at h2
    obtain ⟨s1, s2⟩ := hup m2 _ h2 f2 (fun k hk => treatY_out (by omega))
    refine ⟨rfl, s1.1.1, by rw [s1.1.2.1]; exact h2.1.1, ?_⟩
    rw [s1.1.2.1]
    refine C_isBurning h2 ⟨_, rfl, ?_⟩
    by_cases cb : 150 < treatY x w 7 ∧ treatY x w 6 < 10
    · rw [if_pos cb]
      refine ⟨fun k => absurd k (by decide), fun _ => ?_⟩
      have q := hQ m2
      unfold treatR at q
      rw [if_pos ⟨c3, c6, cb⟩] at q
      exact q s1 (f2.rg (by omega) (by omega))
    · rw [if_neg cb]
      exact ⟨fun _ => hend m2 h2 f2 (fun q => cb q.2.2), fun k => absurd rfl k⟩
  · have ey : treatY x w = settleF x := by unfold treatY; rw [if_neg c3, if_pos (Decidable.not_not.mp c6)]
    rw [ey]; exact h2
  · have ey : treatY x w = soakF x := by unfold treatY; rw [if_pos (Decidable.not_not.mp c3)]
    rw [ey]; exact h2
theorem springF_out {x : Nat → Int} {k : Nat} (h : ¬ (20 ≤ k ∧ k ≤ 22)) : springF x k = x k := by
  unfold springF up1
  rw [if_neg (by omega), if_neg (by omega), if_neg (by omega)]
theorem C_fitPiece {a p : Nat} {x : Nat → Int} (h : Sl m a p x) (hx : pcOk x) (hb : pbOk x) (hQ : ∀ m', Sl m' a p (fitR x).2 → Fr (rg a (a + 4)) 0 0 m m' → Q (.inl (some (zI (fitR x).1))) m') : zC xs xl (d + 3) 64 [zR a] m Q := by
  have hr : rg a (a + 4) a := by unfold rg; omega
  have e1 := h.1.2.1
  have hz := h.1.2.2.2
  refine bX6_fitPiece_0 ⟨h.1.1, by rw [e1]; exact h.2.2.1.1, ?_⟩
  rw [e1]
  refine C_springBack h.2.2 hx hb (fun m2 h2 f2 => ?_)
  have s1 : Sl m2 a p (springF x) := h.pc f2.2.1 (f2.1 a (by omega) (fun q => by unfold rg at q; omega)) h2 (fun k hk => springF_out (by omega))
  have g2 := f2.rg (lo' := a) (hi' := a + 4) (by omega) (by omega)
  have e15 : mI m2 387 a = x 15 := by unfold Sl at s1; simp [s1]; exact springF_out (by omega)
  refine ⟨_, rfl, s1.1.1, fun c => ⟨by rw [s1.1.2.1]; exact h2.1.1, ?_⟩, fun c => ?_⟩
  · rw [e15] at c
    rw [s1.1.2.1]
    have hz2 := s1.1.2.2.2
    refine C_vanish h2 (fun m3 h3 f3 => ?_)
    have s2 : Sl m3 a p (vanishF (springF x)) := s1.pc f3.2.1 (f3.1 a (by omega) (fun q => by unfold rg at q; omega)) h3 (fun k hk => if_neg (by omega))
    refine ⟨rfl, s2.1.1, ?_⟩
    have q := hQ (sI (sI m3 392 a (wr (mI m3 392 a + 1))) 393 a (wr (mI m3 393 a + springS x)))
    unfold fitR at q
    rw [if_pos c] at q
    refine q ?_ ((((g2.tr0 (f3.rg (by omega) (by omega))).sI hr).sI hr))
    have l : a < a + 1 := by omega
    have v3 : vanishF (springF x) 3 = x 3 := (if_neg (by omega)).trans (springF_out (k := 3) (by omega))
    have v4 : vanishF (springF x) 4 = x 4 := (if_neg (by omega)).trans (springF_out (k := 4) (by omega))
    have hp : Pc m3 (a + 1) (up1 (up1 (vanishF (springF x)) 3 (wr (x 3 + 1))) 4 (wr (x 4 + springS x))) := s2.2.2.cg (fun j hj => by simp [up1]; omega)
    refine ⟨?_, ?_, (hp.sI l).sI l⟩
    · unfold Sl at s2; simp [zget, s2]
    · unfold Sl at s2; simp [zget, up1, s2, v3, v4]
  · rw [e15] at c
    have q := hQ m2
    unfold fitR at q
    rw [if_neg c] at q
    exact q s1 g2
end ZSN
