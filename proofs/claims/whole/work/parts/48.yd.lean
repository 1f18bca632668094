/-! the yard: itself at a, store a + 1, frames a + 123, free a + 124, slips' row a + 125, hulls a + 126 and the rows behind, slip i at a + 167 + 4 i -/
theorem Eqv.nI {m : zM} {f a b : Nat} {v : Int} (h : b ≠ a) : Eqv m (sI m f a v) b := ⟨fun g => if_neg (fun q : g = f ∧ b = a => h q.2), fun _ => Eq.refl _, fun _ => Eq.refl _, fun _ => Eq.refl _, Eq.refl _, Eq.refl _⟩
theorem Eqv.nA {m : zM} {a b j : Nat} {v : Int} (h : b ≠ a) : Eqv m (sA m a j v) b := ⟨fun _ => Eq.refl _, fun _ => Eq.refl _, fun g => if_neg (fun q : b = a ∧ g = j => h q.1), fun _ => Eq.refl _, Eq.refl _, Eq.refl _⟩
theorem Eqv.nR {m : zM} {f a b v : Nat} (h : b ≠ a) : Eqv m (sR m f a v) b := ⟨fun _ => Eq.refl _, fun g => if_neg (fun q : g = f ∧ b = a => h q.2), fun _ => Eq.refl _, fun _ => Eq.refl _, Eq.refl _, Eq.refl _⟩
theorem Eqv.cp {m : zM} {a b c s t n : Nat} (h : c ≠ b) : Eqv m (cpA m a s b t n) c := ⟨fun _ => Eq.refl _, fun _ => Eq.refl _, fun g => if_neg (fun q : c = b ∧ t ≤ g ∧ g < t + n => h q.1), fun _ => Eq.refl _, Eq.refl _, Eq.refl _⟩
abbrev zY : Type := (Nat → Int) × Nat × (Nat → zPk) × Nat × (Nat → Nat → Int) × (Nat → List zAc) × (Nat → Int) × (Nat → Int) × (Nat → Nat → Int)
/-- 0 tick, 1 finished, 2 lost, 3 waste -/
abbrev yG (Y : zY) : Nat → Int := Y.1
abbrev yN (Y : zY) : Nat := Y.2.1
abbrev yY (Y : zY) : Nat → zPk := Y.2.2.1
abbrev yS (Y : zY) : Nat := Y.2.2.2.1
abbrev yX (Y : zY) : Nat → Nat → Int := Y.2.2.2.2.1
abbrev yL (Y : zY) : Nat → List zAc := Y.2.2.2.2.2.1
abbrev yF (Y : zY) : Nat → Int := Y.2.2.2.2.2.2.1
abbrev yE (Y : zY) : Nat → Int := Y.2.2.2.2.2.2.2.1
abbrev yH (Y : zY) : Nat → Nat → Int := Y.2.2.2.2.2.2.2.2
def yg (Y : zY) (k : Nat) (v : Int) : zY := (up1 Y.1 k v, Y.2)
def yst (Y : zY) (w : Int) (n : Nat) (y : Nat → zPk) : zY := (up1 Y.1 3 w, n, y, Y.2.2.2)
def ysn (Y : zY) (s : Nat) : zY := (Y.1, Y.2.1, Y.2.2.1, s, Y.2.2.2.2)
def yx (Y : zY) (i : Nat) (x : Nat → Int) : zY := (Y.1, Y.2.1, Y.2.2.1, Y.2.2.2.1, up1 Y.2.2.2.2.1 i x, Y.2.2.2.2.2)
def yl (Y : zY) (i : Nat) (l : List zAc) : zY := (Y.1, Y.2.1, Y.2.2.1, Y.2.2.2.1, Y.2.2.2.2.1, up1 Y.2.2.2.2.2.1 i l, Y.2.2.2.2.2.2)
def yf (Y : zY) (j : Nat) (v : Int) : zY := (Y.1, Y.2.1, Y.2.2.1, Y.2.2.2.1, Y.2.2.2.2.1, Y.2.2.2.2.2.1, up1 Y.2.2.2.2.2.2.1 j v, Y.2.2.2.2.2.2.2)
def ye (Y : zY) (j : Nat) (v : Int) : zY := (Y.1, Y.2.1, Y.2.2.1, Y.2.2.2.1, Y.2.2.2.2.1, Y.2.2.2.2.2.1, Y.2.2.2.2.2.2.1, up1 Y.2.2.2.2.2.2.2.1 j v, Y.2.2.2.2.2.2.2.2)
def yh (Y : zY) (i : Nat) (r : Nat → Int) : zY := (Y.1, Y.2.1, Y.2.2.1, Y.2.2.2.1, Y.2.2.2.2.1, Y.2.2.2.2.2.1, Y.2.2.2.2.2.2.1, Y.2.2.2.2.2.2.2.1, up1 Y.2.2.2.2.2.2.2.2 i r)
def YdF (P : Nat) (m : zM) (a : Nat) : Prop := mC m a = 10 ∧ mR m 577 a = a + 1 ∧ mR m 578 a = a + 123 ∧ mR m 579 a = a + 124 ∧ mR m 580 a = a + 125 ∧ mR m 582 a = a + 126 ∧ a + 191 ≤ mz m ∧ a + 191 ≤ P
def YdI (kc : Nat) (m : zM) (a : Nat) (g : Nat → Int) (s : Nat) : Prop := mI m 576 a = g 0 ∧ mI m 581 a = s ∧ mI m 583 a = g 1 ∧ mI m 584 a = g 2 ∧ s ≤ kc ∧ kc ≤ 6
def YdA (m : zM) (a : Nat) (F E : Nat → Int) : Prop := (mC m (a + 123) = 20 ∧ mN m (a + 123) = 5 ∧ mC m (a + 124) = 20 ∧ mN m (a + 124) = 5) ∧ ∀ j, j < 5 → mA m (a + 123) j = F j ∧ mA m (a + 124) j = E j
def YdS (P kc : Nat) (m : zM) (a : Nat) (p : Nat → Nat) (x : Nat → Nat → Int) (l : Nat → List zAc) : Prop := (mC m (a + 125) = 36 ∧ mN m (a + 125) = 6) ∧ ∀ i, i < 6 → mO m (a + 125) i = a + 167 + 4 * i ∧ ∃ (p' : Nat) (x' : Nat → Int), Sl m (a + 167 + 4 * i) p' x' ∧ (i < kc → p' = p i ∧ x' = x i ∧ (x i 0 ≠ 0 → Pl P m (p i) (l i)))
def YdH (ke : Nat) (m : zM) (a : Nat) (H : Nat → Nat → Int) : Prop := (mC m (a + 126) = 29 ∧ mN m (a + 126) = 40) ∧ ∀ i, i < 40 → mO m (a + 126) i = a + 127 + i ∧ mC m (a + 127 + i) = 20 ∧ mN m (a + 127 + i) = 6 ∧ (i < ke → ∀ j, j < 6 → mA m (a + 127 + i) j = H i j)
/-- kc slips and ke rows of hulls are known -/
def Yd (P kc ke : Nat) (m : zM) (a : Nat) (p : Nat → Nat) (Y : zY) : Prop := YdF P m a ∧ YdI kc m a (yG Y) (yS Y) ∧ St m (a + 1) (yG Y 3) (yN Y) (yY Y) ∧ YdA m a (yF Y) (yE Y) ∧ YdS P kc m a p (yX Y) (yL Y) ∧ YdH ke m a (yH Y)
theorem Yd.sl {P kc ke a i : Nat} {m : zM} {p : Nat → Nat} {Y : zY} (h : Yd P kc ke m a p Y) (hi : i < kc) : mO m (a + 125) i = a + 167 + 4 * i ∧ Sl m (a + 167 + 4 * i) (p i) (yX Y i) ∧ (yX Y i 0 ≠ 0 → Pl P m (p i) (yL Y i)) := by
  have h6 := h.2.1.2.2.2.2.2
  obtain ⟨h1, p', x', h2, h3⟩ := h.2.2.2.2.1.2 i (by omega)
  obtain ⟨e1, e2, e3⟩ := h3 hi
  rw [e1, e2] at h2
  exact ⟨h1, h2, e3⟩
theorem YdF.mv {P a : Nat} {m m' : zM} (h : YdF P m a) (hz : mz m ≤ mz m') (e : mC m' a = mC m a) (eR : ∀ f, mR m' f a = mR m f a) : YdF P m' a := by
  unfold YdF at h ⊢
  rw [e, eR, eR, eR, eR, eR]
  obtain ⟨h1, h2, h3, h4, h5, h6, h7, h8⟩ := h
  exact ⟨h1, h2, h3, h4, h5, h6, Nat.le_trans h7 hz, h8⟩
theorem YdI.mv {kc a s : Nat} {m m' : zM} {g : Nat → Int} (h : YdI kc m a g s) (e : Eqv m m' a) : YdI kc m' a g s := by
  unfold YdI at h ⊢
  rw [e.1, e.1, e.1, e.1]
  exact h
theorem YdA.mv {a : Nat} {m m' : zM} {F E : Nat → Int} (h : YdA m a F E) (e0 : Eqv m m' (a + 123)) (e1 : Eqv m m' (a + 124)) : YdA m' a F E := by
  unfold YdA at h ⊢
  rw [e0.2.2.2.2.1, e0.2.2.2.2.2, e1.2.2.2.2.1, e1.2.2.2.2.2]
  exact ⟨h.1, fun j hj => by rw [e0.2.2.1, e1.2.2.1]; exact h.2 j hj⟩
theorem YdS.mv {P kc a k u lo hi : Nat} {m m' : zM} {p : Nat → Nat} {x : Nat → Nat → Int} {l : Nat → List zAc} (h : YdS P kc m a p x l) (f : Fr (rg lo hi) k u m m') (hP : hi ≤ P) (e : ∀ b, (b = a + 125 ∨ (a + 167 ≤ b ∧ b < a + 191)) → Eqv m m' b) : YdS P kc m' a p x l := by
  have e0 := e _ (Or.inl rfl)
  obtain ⟨h1, h2⟩ := h
  unfold YdS
  rw [e0.2.2.2.2.1, e0.2.2.2.2.2]
  refine ⟨h1, fun i hi => ?_⟩
  obtain ⟨q1, p', x', q2, q3⟩ := h2 i hi
  rw [e0.2.2.2.1]
  exact ⟨q1, p', x', q2.mv f.2.1 (fun b hb1 hb2 => e b (by omega)), fun c => ⟨(q3 c).1, (q3 c).2.1, fun c0 => ((q3 c).2.2 c0).mv f hP⟩⟩
theorem YdH.mv {ke a : Nat} {m m' : zM} {H : Nat → Nat → Int} (h : YdH ke m a H) (e : ∀ b, a + 126 ≤ b → b < a + 167 → Eqv m m' b) : YdH ke m' a H := by
  have e0 := e (a + 126) (by omega) (by omega)
  obtain ⟨h1, h2⟩ := h
  unfold YdH
  rw [e0.2.2.2.2.1, e0.2.2.2.2.2]
  refine ⟨h1, fun i hi => ?_⟩
  obtain ⟨q1, q2, q3, q4⟩ := h2 i hi
  have ei := e (a + 127 + i) (by omega) (by omega)
  rw [e0.2.2.2.1, ei.2.2.2.2.1, ei.2.2.2.2.2]
  exact ⟨q1, q2, q3, fun hk j hj => by rw [ei.2.2.1]; exact q4 hk j hj⟩
/-- nothing of the yard is changed -/
theorem Yd.mv {P kc ke a k u lo hi : Nat} {m m' : zM} {p : Nat → Nat} {Y : zY} (h : Yd P kc ke m a p Y) (f : Fr (rg lo hi) k u m m') (hP : hi ≤ P) (ha : a + 191 ≤ lo ∨ hi ≤ a) : Yd P kc ke m' a p Y := by
  obtain ⟨h1, h2, h3, h4, h5, h6⟩ := h
  have hz := h1.2.2.2.2.2.2.1
  have e : ∀ b, a ≤ b → b < a + 191 → Eqv m m' b := fun b b1 b2 => f.1 b (by omega) (fun q => by unfold rg at q; omega)
  have e0 := e a (by omega) (by omega)
  exact ⟨h1.mv f.2.1 e0.2.2.2.2.1 e0.2.1, h2.mv e0, h3.mv f.2.1 (fun b b1 b2 => e b (by omega) (by omega)), h4.mv (e _ (by omega) (by omega)) (e _ (by omega) (by omega)), h5.mv f hP (fun b hb => e b (by omega) (by omega)), h6.mv (fun b b1 b2 => e b (by omega) (by omega))⟩
/-- one slip is changed -/
theorem Yd.slip' {P kc kc' ke a i p' : Nat} {m m' : zM} {p : Nat → Nat} {Y : zY} {x' : Nat → Int} {l' : List zAc} (h : Yd P kc ke m a p Y) (hi : i < 6) (hk : kc ≤ kc' ∧ kc' ≤ 6 ∧ (kc < kc' → kc' = kc + 1 ∧ i = kc)) (f : Fr (rg (a + 167 + 4 * i) (a + 167 + 4 * i + 4)) 0 0 m m') (hs : Sl m' (a + 167 + 4 * i) p' x') (hl : x' 0 ≠ 0 → Pl P m' p' l') : Yd P kc' ke m' a (up1 p i p') (yl (yx Y i x') i l') := by
  obtain ⟨h1, h2, h3, h4, h5, h6⟩ := h
  have hz := h1.2.2.2.2.2.2.1
  have hP := h1.2.2.2.2.2.2.2
  have e : ∀ b, a ≤ b → b < a + 191 → ¬ (a + 167 + 4 * i ≤ b ∧ b < a + 167 + 4 * i + 4) → Eqv m m' b := fun b b1 b2 b3 => f.1 b (by omega) (fun q => by unfold rg at q; omega)
  have e0 := e a (by omega) (by omega) (by omega)
  have e5 := e (a + 125) (by omega) (by omega) (by omega)
  have h2' : YdI kc' m' a (yG Y) (yS Y) := by
    have q := h2.mv e0
    exact ⟨q.1, q.2.1, q.2.2.1, q.2.2.2.1, Nat.le_trans q.2.2.2.2.1 hk.1, hk.2.1⟩
  refine ⟨h1.mv f.2.1 e0.2.2.2.2.1 e0.2.1, h2', h3.mv f.2.1 (fun b b1 b2 => e b (by omega) (by omega) (by omega)), h4.mv (e _ (by omega) (by omega) (by omega)) (e _ (by omega) (by omega) (by omega)), ?_, h6.mv (fun b b1 b2 => e b (by omega) (by omega) (by omega))⟩
  unfold YdS
  rw [e5.2.2.2.2.1, e5.2.2.2.2.2]
  refine ⟨h5.1, fun j hj => ?_⟩
  obtain ⟨q1, pj, xj, q2, q3⟩ := h5.2 j hj
  rw [e5.2.2.2.1]
  refine ⟨q1, ?_⟩
  by_cases c : j = i
  · subst c
    have a1 : up1 p j p' j = p' := if_pos rfl
    have a2 : yX (yl (yx Y j x') j l') j = x' := if_pos rfl
    have a3 : yL (yl (yx Y j x') j l') j = l' := if_pos rfl
    rw [a1, a2, a3]
    exact ⟨p', x', hs, fun _ => ⟨rfl, rfl, hl⟩⟩
  · have a1 : up1 p i p' j = p j := if_neg c
    have a2 : yX (yl (yx Y i x') i l') j = yX Y j := if_neg c
    have a3 : yL (yl (yx Y i x') i l') j = yL Y j := if_neg c
    rw [a1, a2, a3]
    refine ⟨pj, xj, q2.mv f.2.1 (fun b b1 b2 => e b (by omega) (by omega) (by omega)), fun hc => ?_⟩
    have hc' : j < kc := by
      by_cases hh : kc < kc'
      · have := hk.2.2 hh; omega
      · omega
    exact ⟨(q3 hc').1, (q3 hc').2.1, fun c0 => ((q3 hc').2.2 c0).mv f (by omega)⟩
theorem up1_id {α : Type} {g : Nat → α} {i : Nat} : up1 g i (g i) = g := by
  funext j
  show (if j = i then g i else g j) = g j
  by_cases c : j = i
  · rw [if_pos c, c]
  · rw [if_neg c]
theorem Yd.slip {P kc ke a i : Nat} {m m' : zM} {p : Nat → Nat} {Y : zY} {x' : Nat → Int} (h : Yd P kc ke m a p Y) (hi : i < kc) (f : Fr (rg (a + 167 + 4 * i) (a + 167 + 4 * i + 4)) 0 0 m m') (hs : Sl m' (a + 167 + 4 * i) (p i) x') (hl : x' 0 ≠ 0 → yX Y i 0 ≠ 0) : Yd P kc ke m' a p (yx Y i x') := by
  have hP := h.1.2.2.2.2.2.2.2
  have h6 := h.2.1.2.2.2.2.2
  have q := h.slip' (kc' := kc) (l' := yL Y i) (by omega) ⟨Nat.le_refl _, h6, fun c => absurd c (by omega)⟩ f hs (fun c => ((h.sl hi).2.2 (hl c)).mv f (by omega))
  rw [up1_id] at q
  have e : yl (yx Y i x') i (yL Y i) = yx Y i x' := by
    unfold yl
    rw [show (yx Y i x').2.2.2.2.2.1 = yL Y from rfl, up1_id]
    rfl
  rwa [e] at q
/-- the store is changed -/
theorem Yd.st {P kc ke a n : Nat} {w : Int} {y : Nat → zPk} {m m' : zM} {p : Nat → Nat} {Y : zY} (h : Yd P kc ke m a p Y) (f : Fr (rg (a + 1) (a + 1 + 122)) 0 0 m m') (hs : St m' (a + 1) w n y) : Yd P kc ke m' a p (yst Y w n y) := by
  obtain ⟨h1, h2, h3, h4, h5, h6⟩ := h
  have hz := h1.2.2.2.2.2.2.1
  have hP := h1.2.2.2.2.2.2.2
  have e : ∀ b, a ≤ b → b < a + 191 → ¬ (a + 1 ≤ b ∧ b < a + 123) → Eqv m m' b := fun b b1 b2 b3 => f.1 b (by omega) (fun q => by unfold rg at q; omega)
  have e0 := e a (by omega) (by omega) (by omega)
  exact ⟨h1.mv f.2.1 e0.2.2.2.2.1 e0.2.1, h2.mv e0, hs, h4.mv (e _ (by omega) (by omega) (by omega)) (e _ (by omega) (by omega) (by omega)), h5.mv f (by omega) (fun b hb => e b (by omega) (by omega) (by omega)), h6.mv (fun b b1 b2 => e b (by omega) (by omega) (by omega))⟩
/-- one number of the yard's own is changed -/
theorem Yd.own {P kc ke a f s : Nat} {v : Int} {m : zM} {p : Nat → Nat} {Y : zY} {g : Nat → Int} (h : Yd P kc ke m a p Y) (hI : YdI kc (sI m f a v) a g s) (h3 : g 3 = yG Y 3) : Yd P kc ke (sI m f a v) a p (ysn (g, Y.2) s) := by
  obtain ⟨h1, h2, hst, h4, h5, h6⟩ := h
  have hP := h1.2.2.2.2.2.2.2
  have e : ∀ b, b ≠ a → Eqv m (sI m f a v) b := fun b hb => Eqv.nI hb
  have hf : Fr (rg a (a + 1)) 0 0 m (sI m f a v) := Fr.rfl.sI (by unfold rg; omega)
  refine ⟨h1.mv (Nat.le_refl _) rfl (fun _ => rfl), hI, ?_, h4.mv (e _ (by omega)) (e _ (by omega)), h5.mv hf (by omega) (fun b hb => e b (by omega)), h6.mv (fun b b1 b2 => e b (by omega))⟩
  show St (sI m f a v) (a + 1) (g 3) (yN Y) (yY Y)
  rw [h3]
  exact hst.mv (Nat.le_refl _) (fun b b1 b2 => e b (by omega))
theorem Yd.tick {P kc ke a : Nat} {v : Int} {m : zM} {p : Nat → Nat} {Y : zY} (h : Yd P kc ke m a p Y) : Yd P kc ke (sI m 576 a v) a p (yg Y 0 v) := by
  have h2 := h.2.1
  exact h.own (f := 576) (g := up1 (yG Y) 0 v) (s := yS Y) ⟨zm_Is, (zm_In (by decide)).trans h2.2.1, (zm_In (by decide)).trans h2.2.2.1, (zm_In (by decide)).trans h2.2.2.2.1, h2.2.2.2.2⟩ rfl
theorem Yd.fini {P kc ke a : Nat} {v : Int} {m : zM} {p : Nat → Nat} {Y : zY} (h : Yd P kc ke m a p Y) : Yd P kc ke (sI m 583 a v) a p (yg Y 1 v) := by
  have h2 := h.2.1
  exact h.own (f := 583) (g := up1 (yG Y) 1 v) (s := yS Y) ⟨(zm_In (by decide)).trans h2.1, (zm_In (by decide)).trans h2.2.1, zm_Is, (zm_In (by decide)).trans h2.2.2.2.1, h2.2.2.2.2⟩ rfl
theorem Yd.lost {P kc ke a : Nat} {v : Int} {m : zM} {p : Nat → Nat} {Y : zY} (h : Yd P kc ke m a p Y) : Yd P kc ke (sI m 584 a v) a p (yg Y 2 v) := by
  have h2 := h.2.1
  exact h.own (f := 584) (g := up1 (yG Y) 2 v) (s := yS Y) ⟨(zm_In (by decide)).trans h2.1, (zm_In (by decide)).trans h2.2.1, (zm_In (by decide)).trans h2.2.2.1, zm_Is, h2.2.2.2.2⟩ rfl
theorem Yd.cnt {P kc ke a s : Nat} {v : Int} {m : zM} {p : Nat → Nat} {Y : zY} (h : Yd P kc ke m a p Y) (hs : s ≤ kc) (e : v = s) : Yd P kc ke (sI m 581 a v) a p (ysn Y s) := by
  have h2 := h.2.1
  exact h.own (f := 581) (g := yG Y) (s := s) ⟨(zm_In (by decide)).trans h2.1, zm_Is.trans e, (zm_In (by decide)).trans h2.2.2.1, (zm_In (by decide)).trans h2.2.2.2.1, hs, h2.2.2.2.2.2⟩ rfl
theorem Yd.sE {P kc ke a j : Nat} {v : Int} {m : zM} {p : Nat → Nat} {Y : zY} (h : Yd P kc ke m a p Y) : Yd P kc ke (sA m (a + 124) j v) a p (ye Y j v) := by
  obtain ⟨h1, h2, h3, h4, h5, h6⟩ := h
  have hP := h1.2.2.2.2.2.2.2
  have e : ∀ b, b ≠ a + 124 → Eqv m (sA m (a + 124) j v) b := fun b hb => Eqv.nA hb
  have hf : Fr (rg a (a + 191)) 0 0 m (sA m (a + 124) j v) := Fr.rfl.sA (by unfold rg; omega)
  refine ⟨h1.mv (Nat.le_refl _) rfl (fun _ => rfl), h2.mv (e _ (by omega)), h3.mv (Nat.le_refl _) (fun b b1 b2 => e b (by omega)), ⟨h4.1, fun i hi => ⟨?_, ?_⟩⟩, h5.mv hf (by omega) (fun b hb => e b (by omega)), h6.mv (fun b b1 b2 => e b (by omega))⟩
  · rw [(e (a + 123) (by omega)).2.2.1]; exact (h4.2 i hi).1
  · show (if a + 124 = a + 124 ∧ i = j then v else mA m (a + 124) i) = (if i = j then v else yE Y i)
    by_cases c : i = j
    · rw [if_pos ⟨rfl, c⟩, if_pos c]
    · rw [if_neg (fun q => c q.2), if_neg c]; exact (h4.2 i hi).2
theorem Yd.sF {P kc ke a j : Nat} {v : Int} {m : zM} {p : Nat → Nat} {Y : zY} (h : Yd P kc ke m a p Y) : Yd P kc ke (sA m (a + 123) j v) a p (yf Y j v) := by
  obtain ⟨h1, h2, h3, h4, h5, h6⟩ := h
  have hP := h1.2.2.2.2.2.2.2
  have e : ∀ b, b ≠ a + 123 → Eqv m (sA m (a + 123) j v) b := fun b hb => Eqv.nA hb
  have hf : Fr (rg a (a + 191)) 0 0 m (sA m (a + 123) j v) := Fr.rfl.sA (by unfold rg; omega)
  refine ⟨h1.mv (Nat.le_refl _) rfl (fun _ => rfl), h2.mv (e _ (by omega)), h3.mv (Nat.le_refl _) (fun b b1 b2 => e b (by omega)), ⟨h4.1, fun i hi => ⟨?_, ?_⟩⟩, h5.mv hf (by omega) (fun b hb => e b (by omega)), h6.mv (fun b b1 b2 => e b (by omega))⟩
  · show (if a + 123 = a + 123 ∧ i = j then v else mA m (a + 123) i) = (if i = j then v else yF Y i)
    by_cases c : i = j
    · rw [if_pos ⟨rfl, c⟩, if_pos c]
    · rw [if_neg (fun q => c q.2), if_neg c]; exact (h4.2 i hi).1
  · rw [(e (a + 124) (by omega)).2.2.1]; exact (h4.2 i hi).2
