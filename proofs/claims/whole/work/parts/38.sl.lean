/-! plans (they lie at P and above, and stay), slips -/
abbrev zAc : Type := Int × Int × Int × Int
def Pl (P : Nat) (m : zM) (p : Nat) (l : List zAc) : Prop := (P ≤ p ∧ p < mz m ∧ p ≠ 0) ∧ (P ≤ mR m 192 p ∧ mR m 192 p < mz m) ∧ (mC m p = 4 ∧ mC m (mR m 192 p) = 30 ∧ mN m (mR m 192 p) = 60) ∧ mI m 193 p = l.length ∧ l.length ≤ 60 ∧ ∀ (i : Nat) (q : zAc), l[i]? = some q → (P ≤ mO m (mR m 192 p) i ∧ mO m (mR m 192 p) i < mz m ∧ mO m (mR m 192 p) i ≠ 0) ∧ Ac m (mO m (mR m 192 p) i) q.1 q.2.1 q.2.2.1 q.2.2.2
theorem Pl.mv {P k u lo hi p : Nat} {m m' : zM} {l : List zAc} (h : Pl P m p l) (f : Fr (rg lo hi) k u m m') (hP : hi ≤ P) : Pl P m' p l := by
  have e : ∀ a, P ≤ a → a < mz m → Eqv m m' a := fun a h1 h2 => f.1 a h2 (fun q => by unfold rg at q; omega)
  obtain ⟨h1, h2, h3, h4, h5, h6⟩ := h
  have e1 := e p h1.1 h1.2.1
  have e2 := e _ h2.1 h2.2
  have hz := f.2.1
  unfold Pl
  rw [e1.2.1, e1.2.2.2.2.1, e1.1, e2.2.2.2.2.1, e2.2.2.2.2.2]
  refine ⟨by omega, by omega, h3, h4, h5, fun i q hq => ?_⟩
  obtain ⟨g1, g2⟩ := h6 i q hq
  rw [e2.2.2.2.1]
  exact ⟨by omega, g2.mv (e _ g1.1 g1.2.1)⟩
def Sl (m : zM) (a p : Nat) (x : Nat → Int) : Prop := (mC m a = 7 ∧ mR m 395 a = a + 1 ∧ mR m 385 a = p ∧ a + 4 ≤ mz m) ∧ (mI m 384 a = x 0 ∧ mI m 386 a = x 1 ∧ mI m 387 a = x 15 ∧ mI m 388 a = x 14 ∧ mI m 389 a = x 2 ∧ mI m 390 a = x 16 ∧ mI m 391 a = x 17 ∧ mI m 392 a = x 3 ∧ mI m 393 a = x 4 ∧ mI m 394 a = x 13 ∧ mI m 396 a = x 12 ∧ mI m 397 a = x 9 ∧ mI m 398 a = x 10 ∧ mI m 399 a = x 11) ∧ Pc m (a + 1) x
theorem Sl.mv {m m' : zM} {a p : Nat} {x : Nat → Int} (h : Sl m a p x) (hz : mz m ≤ mz m') (e : ∀ b, a ≤ b → b < a + 4 → Eqv m m' b) : Sl m' a p x := by
  have e0 := e a (by omega) (by omega)
  unfold Sl
  simp only [e0.1, e0.2.1, e0.2.2.2.2.1]
  exact ⟨⟨h.1.1, h.1.2.1, h.1.2.2.1, Nat.le_trans h.1.2.2.2 hz⟩, h.2.1, h.2.2.mv (e _ (by omega) (by omega)) (e _ (by omega) (by omega)) (e _ (by omega) (by omega))⟩
/-- only the piece's part of x counts for it -/
theorem Pc.cg {m : zM} {a : Nat} {x y : Nat → Int} (h : Pc m a x) (e : ∀ k, (5 ≤ k ∧ k ≤ 8) ∨ (18 ≤ k ∧ k ≤ 25) → y k = x k) : Pc m a y := by
  unfold Pc
  rw [e 5 (by omega), e 6 (by omega), e 7 (by omega), e 8 (by omega), e 18 (by omega), e 20 (by omega), e 21 (by omega), e 22 (by omega), e 23 (by omega), e 24 (by omega), e 25 (by omega)]
  exact h
theorem Pc.sI {m : zM} {a b f : Nat} {v : Int} {x : Nat → Int} (h : Pc m a x) (hb : b < a) : Pc (sI m f b v) a x := h.mv ⟨fun g => if_neg (fun q : g = f ∧ a = b => by omega), fun _ => rfl, fun _ => rfl, fun _ => rfl, rfl, rfl⟩ ⟨fun g => if_neg (fun q : g = f ∧ a + 1 = b => by omega), fun _ => rfl, fun _ => rfl, fun _ => rfl, rfl, rfl⟩ ⟨fun g => if_neg (fun q : g = f ∧ a + 2 = b => by omega), fun _ => rfl, fun _ => rfl, fun _ => rfl, rfl, rfl⟩
theorem Pc.sR {m : zM} {a b f v : Nat} {x : Nat → Int} (h : Pc m a x) (hb : b < a) : Pc (sR m f b v) a x := h.mv ⟨fun _ => rfl, fun g => if_neg (fun q : g = f ∧ a = b => by omega), fun _ => rfl, fun _ => rfl, rfl, rfl⟩ ⟨fun _ => rfl, fun g => if_neg (fun q : g = f ∧ a + 1 = b => by omega), fun _ => rfl, fun _ => rfl, rfl, rfl⟩ ⟨fun _ => rfl, fun g => if_neg (fun q : g = f ∧ a + 2 = b => by omega), fun _ => rfl, fun _ => rfl, rfl, rfl⟩
/-- a slip after its piece alone has changed -/
theorem Sl.pc {m m' : zM} {a p : Nat} {x y : Nat → Int} (h : Sl m a p x) (hz : mz m ≤ mz m') (e0 : Eqv m m' a) (hP : Pc m' (a + 1) y) (e : ∀ k, ¬ ((5 ≤ k ∧ k ≤ 8) ∨ (18 ≤ k ∧ k ≤ 25)) → y k = x k) : Sl m' a p y := by
  unfold Sl
  simp only [e0.1, e0.2.1, e0.2.2.2.2.1]
  rw [e 0 (by omega), e 1 (by omega), e 2 (by omega), e 3 (by omega), e 4 (by omega), e 9 (by omega), e 10 (by omega), e 11 (by omega), e 12 (by omega), e 13 (by omega), e 14 (by omega), e 15 (by omega), e 16 (by omega), e 17 (by omega)]
  exact ⟨⟨h.1.1, h.1.2.1, h.1.2.2.1, Nat.le_trans h.1.2.2.2 hz⟩, h.2.1, hP⟩
def beginF (x : Nat → Int) (n t tick : Int) : Nat → Int := up1 (up1 (up1 (up1 (up1 (up1 (up1 (up1 (up1 x 0 1) 1 n) 15 t) 14 tick) 2 0) 16 0) 3 0) 4 0) 13 0
def goOnF (x : Nat → Int) : Nat → Int := up1 (up1 x 2 (wr (x 2 + 1))) 16 0
def loseF (x : Nat → Int) : Nat → Int := up1 (up1 (up1 (vanishF x) 13 (wr (x 13 + 1))) 2 (x 17)) 16 0
def getPF (x : Nat → Int) (w t : Int) : Nat → Int := up1 (appearF x w t) 17 (x 2)
def awaitF (x : Nat → Int) (s t l : Int) : Nat → Int := up1 (up1 (up1 x 9 s) 10 t) 11 l
def receiveF (x : Nat → Int) (s : Int) : Nat → Int := up1 (up1 (up1 (up1 x 12 (bOr (x 12) (bShl 1 s))) 9 (-1)) 10 (-1)) 11 0
def releaseF (x : Nat → Int) (s : Int) : Nat → Int := up1 x 12 (bAnd (x 12) (bXor (bShl 1 s) (-1)))
section ZSL
variable {xs : Nat → Int} {xl d : Nat} {m : zM} {Q : zRes → zM → Prop}
theorem C_begin {a p q : Nat} {x : Nat → Int} {n t k : Int} (h : Sl m a p x) (hQ : ∀ m', Sl m' a q (beginF x n t k) → Fr (rg a (a + 4)) 0 0 m m' → Q (.inl none) m') : zC xs xl (d + 1) 58 [zR a, zR q, zI n, zI t, zI k] m Q := by
  have hr : rg a (a + 4) a := by unfold rg; omega
  refine bX6_begin_0 ⟨h.1.1, hQ _ ?_ (((((((((((Fr.rfl.sI hr).sR hr).sI hr).sI hr).sI hr).sI hr).sI hr).sI hr).sI hr).sI hr))⟩
  have hp : Pc m (a + 1) (beginF x n t k) := h.2.2.cg (fun j hj => by simp [beginF, up1]; omega)
  have l : a < a + 1 := by omega
  refine ⟨?_, ?_, ((((((((((hp.sI l).sR l).sI l).sI l).sI l).sI l).sI l).sI l).sI l).sI l)⟩
  · unfold Sl at h; simp [zget, h]
  · unfold Sl at h; simp [zget, beginF, up1, h]
theorem C_goOn {a p : Nat} {x : Nat → Int} (h : Sl m a p x) (hQ : ∀ m', Sl m' a p (goOnF x) → Fr (rg a (a + 4)) 0 0 m m' → Q (.inl none) m') : zC xs xl (d + 1) 60 [zR a] m Q := by
  have hr : rg a (a + 4) a := by unfold rg; omega
  refine bX6_goOn_0 ⟨h.1.1, hQ _ ?_ ((Fr.rfl.sI hr).sI hr)⟩
  have hp : Pc m (a + 1) (goOnF x) := h.2.2.cg (fun j hj => by simp [goOnF, up1]; omega)
  have l : a < a + 1 := by omega
  refine ⟨?_, ?_, (hp.sI l).sI l⟩
  · unfold Sl at h; simp [zget, h]
  · unfold Sl at h; simp [zget, goOnF, up1, h]
theorem C_await {a p : Nat} {x : Nat → Int} {s t v : Int} (h : Sl m a p x) (hv : v = 0 ∨ v = 1) (hQ : ∀ m', Sl m' a p (awaitF x s t v) → Fr (rg a (a + 4)) 0 0 m m' → Q (.inl none) m') : zC xs xl (d + 1) 68 [zR a, zI s, zI t, zI v] m Q := by
  have hr : rg a (a + 4) a := by unfold rg; omega
  refine bX6_await_0 ⟨h.1.1, hv, hQ _ ?_ (((Fr.rfl.sI hr).sI hr).sI hr)⟩
  have hp : Pc m (a + 1) (awaitF x s t v) := h.2.2.cg (fun j hj => by simp [awaitF, up1]; omega)
  have l : a < a + 1 := by omega
  refine ⟨?_, ?_, ((hp.sI l).sI l).sI l⟩
  · unfold Sl at h; simp [zget, h]
  · unfold Sl at h; simp [zget, awaitF, up1, h]
theorem C_receive {a p : Nat} {x : Nat → Int} {s : Int} (h : Sl m a p x) (hQ : ∀ m', Sl m' a p (receiveF x s) → Fr (rg a (a + 4)) 0 0 m m' → Q (.inl none) m') : zC xs xl (d + 1) 67 [zR a, zI s] m Q := by
  have hr : rg a (a + 4) a := by unfold rg; omega
  refine bX6_receive_0 ⟨h.1.1, hQ _ ?_ ((((Fr.rfl.sI hr).sI hr).sI hr).sI hr)⟩
  have hp : Pc m (a + 1) (receiveF x s) := h.2.2.cg (fun j hj => by simp [receiveF, up1]; omega)
  have l : a < a + 1 := by omega
  refine ⟨?_, ?_, (((hp.sI l).sI l).sI l).sI l⟩
  · unfold Sl at h; simp [zget, h]
  · unfold Sl at h; simp [zget, receiveF, up1, h]
theorem C_release {a p : Nat} {x : Nat → Int} {s : Int} (h : Sl m a p x) (hQ : ∀ m', Sl m' a p (releaseF x s) → Fr (rg a (a + 4)) 0 0 m m' → Q (.inl none) m') : zC xs xl (d + 1) 66 [zR a, zI s] m Q := by
  have hr : rg a (a + 4) a := by unfold rg; omega
  refine bX6_release_0 ⟨h.1.1, hQ _ ?_ (Fr.rfl.sI hr)⟩
  have hp : Pc m (a + 1) (releaseF x s) := h.2.2.cg (fun j hj => by simp [releaseF, up1]; omega)
  have l : a < a + 1 := by omega
  refine ⟨?_, ?_, hp.sI l⟩
  · unfold Sl at h; simp [zget, h]
  · unfold Sl at h; simp [zget, releaseF, up1, h]
theorem C_holds {a p : Nat} {x : Nat → Int} {s : Int} (h : Sl m a p x) (hQ : Q (.inl (some (zI (if bAnd (x 12) (bShl 1 s) = 0 then 0 else 1)))) m) : zC xs xl (d + 1) 65 [zR a, zI s] m Q := by
  have e : mI m 396 a = x 12 := by unfold Sl at h; simp [h]
  rw [← e] at hQ
  refine bX6_holds_0 ⟨h.1.1, fun c => ?_, fun c => ?_⟩
  · rwa [if_pos c] at hQ
  · rwa [if_neg c] at hQ
theorem C_isWaiting {a p : Nat} {x : Nat → Int} (h : Sl m a p x) (hQ : Q (.inl (some (zI (if x 9 < 0 then 0 else 1)))) m) : zC xs xl (d + 1) 69 [zR a] m Q := by
  have e : mI m 397 a = x 9 := by unfold Sl at h; simp [h]
  rw [← e] at hQ
  refine bX6_isWaiting_0 ⟨h.1.1, fun c => ?_, fun c => ?_⟩
  · rwa [if_pos c] at hQ
  · rwa [if_neg c] at hQ
theorem C_heldSorts {a p : Nat} {x : Nat → Int} (h : Sl m a p x) (hQ : Q (.inl (some (zI (x 12)))) m) : zC xs xl (d + 1) 71 [zR a] m Q := by
  have e : mI m 396 a = x 12 := by unfold Sl at h; simp [h]
  rw [← e] at hQ
  exact bX6_heldSorts_0 ⟨h.1.1, hQ⟩
theorem C_couldEnd {a p : Nat} {x : Nat → Int} {s : Int} (h : Sl m a p x) (hQ : Q (.inl (some (zI (if x 9 < 0 ∨ bAnd s (bShl 1 (x 9)) ≠ 0 then 1 else 0)))) m) : zC xs xl (d + 2) 70 [zR a, zI s] m Q := by
  have e : mI m 397 a = x 9 := by unfold Sl at h; simp [h]
  refine bX6_couldEnd_0 ⟨h.1.1, C_isWaiting h ⟨_, rfl, ?_⟩⟩
  by_cases c : x 9 < 0
  · rw [if_pos c]
    rw [if_pos (Or.inl c)] at hQ
    exact ⟨fun _ => hQ, fun k => absurd rfl k⟩
  · rw [if_neg c, e]
    refine ⟨fun k => absurd k (by decide), fun _ => ⟨h.1.1, fun k => ?_, fun k => ?_⟩⟩
    · rwa [if_neg (fun q => q.elim c (fun q => q k))] at hQ
    · rwa [if_pos (Or.inr k)] at hQ
end ZSL
