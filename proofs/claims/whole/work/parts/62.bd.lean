/-! the class itself: at x; tape x + 1, compiler x + 3, plans' row x + 9, yard x + 10, the yard ahead x + 201, the first plans x + 392 and on -/
abbrev zB : Type := zY × (Nat → List zAc) × Nat × (Nat → Int) × Int
abbrev bY (B : zB) : zY := B.1
abbrev bP (B : zB) : Nat → List zAc := B.2.1
abbrev bN (B : zB) : Nat := B.2.2.1
abbrev bT (B : zB) : Nat → Int := B.2.2.2.1
abbrev bE (B : zB) : Int := B.2.2.2.2
def PlR (P lo hi : Nat) (m : zM) (b : Nat) (l : List zAc) : Prop := (mC m b = 4 ∧ mI m 193 b = l.length ∧ mI m 194 b = cutsL l ∧ mI m 195 b = lensL l ∧ mI m 196 b = leastL l) ∧ (PlT P m b l ∨ (l = [] ∧ lo ≤ b ∧ b < hi ∧ hi ≤ mz m))
theorem PlR.mv {P lo hi lo' hi' k u b : Nat} {m m' : zM} {l : List zAc} (h : PlR P lo hi m b l) (f : Fr (rg lo' hi') k u m m') (hP : hi' ≤ P) (hd : hi' ≤ lo ∨ hi ≤ lo') : PlR P lo hi m' b l := by
  have hz := f.2.1
  obtain ⟨h1, h2⟩ := h
  have e : Eqv m m' b := by
    rcases h2 with h2 | h2
    · exact f.1 b h2.1.1.2.1 (fun z => by have := h2.1.1.1; unfold rg at z; omega)
    · exact f.1 b (by omega) (fun z => by unfold rg at z; omega)
  refine ⟨by rw [e.2.2.2.2.1, e.1, e.1, e.1, e.1]; exact h1, ?_⟩
  rcases h2 with h2 | h2
  · exact Or.inl (h2.mv f hP)
  · exact Or.inr ⟨h2.1, h2.2.1, h2.2.2.1, by omega⟩
def BdF (P : Nat) (m : zM) (x : Nat) : Prop := (mC m x = 11 ∧ mR m 640 x = x + 1 ∧ mR m 641 x = x + 3 ∧ mR m 642 x = x + 9 ∧ mR m 643 x = x + 10 ∧ mR m 644 x = x + 201) ∧ x + 404 ≤ P ∧ P ≤ mz m
def BdP (P : Nat) (m : zM) (x : Nat) (l : Nat → List zAc) : Prop := (mC m (x + 9) = 33 ∧ mN m (x + 9) = 6) ∧ ∀ i, i < 6 → PlR P (x + 392) (x + 404) m (mO m (x + 9) i) (l i)
def BdT (m : zM) (x n : Nat) (t : Nat → Int) : Prop := Tp m (x + 1) n t ∧ ∀ i, i < n → 0 ≤ t i
def BdC (m : zM) (x : Nat) (e : Int) : Prop := CS m (x + 3) (x + 1) ∧ mI m 74 (x + 3) = e
def BdA (P : Nat) (m : zM) (x : Nat) : Prop := ∃ (kc : Nat) (p : Nat → Nat) (Z : zY), Yd P kc 0 m (x + 201) p Z
def Bd (P : Nat) (m : zM) (x : Nat) (B : zB) : Prop := BdF P m x ∧ BdT m x (bN B) (bT B) ∧ BdC m x (bE B) ∧ BdP P m x (bP B) ∧ (∃ p, Yd P 6 40 m (x + 10) p (bY B)) ∧ BdA P m x
theorem BdF.mv {P x : Nat} {m m' : zM} (h : BdF P m x) (hz : mz m ≤ mz m') (e : Eqv m m' x) : BdF P m' x := by
  unfold BdF at h ⊢
  rw [e.2.2.2.2.1, e.2.1, e.2.1, e.2.1, e.2.1, e.2.1]
  exact ⟨h.1, h.2.1, Nat.le_trans h.2.2 hz⟩
theorem BdP.mv {P x lo hi k u : Nat} {m m' : zM} {l : Nat → List zAc} (h : BdP P m x l) (hx : x + 404 ≤ mz m) (f : Fr (rg lo hi) k u m m') (hP : hi ≤ P) (hd : hi ≤ x + 9 ∨ (x + 10 ≤ lo ∧ hi ≤ x + 392) ∨ x + 404 ≤ lo) : BdP P m' x l := by
  have e := f.1 (x + 9) (by omega) (fun z => by unfold rg at z; omega)
  unfold BdP
  rw [e.2.2.2.2.1, e.2.2.2.2.2]
  refine ⟨h.1, fun i hi => ?_⟩
  rw [e.2.2.2.1]
  exact (h.2 i hi).mv f hP (by omega)
theorem BdT.mv {x n lo hi k u : Nat} {m m' : zM} {t : Nat → Int} (h : BdT m x n t) (f : Fr (rg lo hi) k u m m') (hd : hi ≤ x + 1 ∨ x + 3 ≤ lo) : BdT m' x n t := by
  have hz := h.1.1.2.2.2.2
  exact ⟨h.1.mv f.2.1 (f.1 _ (by omega) (fun z => by unfold rg at z; omega)) (f.1 _ (by omega) (fun z => by unfold rg at z; omega)), h.2⟩
theorem BdC.mv {x lo hi k u : Nat} {m m' : zM} {e : Int} (h : BdC m x e) (f : Fr (rg lo hi) k u m m') (hd : hi ≤ x + 3 ∨ x + 9 ≤ lo) : BdC m' x e := by
  obtain ⟨⟨h1, p, k, v, s, h2⟩, h3⟩ := h
  have hz := h1.1.2.2.2.2.2.2.2
  have e0 := f.1 (x + 3) (by omega) (fun z => by unfold rg at z; omega)
  exact ⟨⟨h1.fr f (by omega), p, k, v, s, h2.fr f (by omega) (fun z => by unfold rg at z; omega)⟩, (e0.1 74).trans h3⟩
theorem BdA.mv {P x lo hi k u : Nat} {m m' : zM} (h : BdA P m x) (f : Fr (rg lo hi) k u m m') (hP : hi ≤ P) (hd : hi ≤ x + 201 ∨ x + 392 ≤ lo) : BdA P m' x := by
  obtain ⟨kc, p, Z, h1⟩ := h
  exact ⟨kc, p, Z, h1.mv f hP (by omega)⟩
/-- nothing of the class is changed -/
theorem Bd.fr {P x lo hi k u : Nat} {m m' : zM} {B : zB} (h : Bd P m x B) (f : Fr (rg lo hi) k u m m') (hP : hi ≤ P) (hd : hi ≤ x ∨ x + 404 ≤ lo) : Bd P m' x B := by
  obtain ⟨h1, h2, h3, h4, ⟨p, h5⟩, h6⟩ := h
  have hz := h1.2.2
  have hx := h1.2.1
  exact ⟨h1.mv f.2.1 (f.1 x (by omega) (fun z => by unfold rg at z; omega)), h2.mv f (by omega), h3.mv f (by omega), h4.mv (by omega) f hP (by omega), ⟨p, h5.mv f hP (by omega)⟩, h6.mv f hP (by omega)⟩
theorem fr_nwX {m : zM} : Fr (rg 0 0) 1 6 m (nwX m) := (Fr.rfl (k := 0) (u := 0)).nwX
theorem Bd.x {P x : Nat} {m : zM} {B : zB} (h : Bd P m x B) : Bd P (nwX m) x B := h.fr fr_nwX (Nat.zero_le _) (Or.inl (Nat.zero_le _))
/-- the yard alone is changed -/
theorem Bd.yd {P x k u : Nat} {m m' : zM} {B : zB} {p : Nat → Nat} {Y : zY} (h : Bd P m x B) (f : Fr (rg (x + 10) (x + 201)) k u m m') (hy : Yd P 6 40 m' (x + 10) p Y) : Bd P m' x (Y, B.2) := by
  obtain ⟨h1, h2, h3, h4, -, h6⟩ := h
  have hz := h1.2.2
  have hx := h1.2.1
  exact ⟨h1.mv f.2.1 (f.1 x (by omega) (fun z => by unfold rg at z; omega)), h2.mv f (by omega), h3.mv f (by omega), h4.mv (by omega) f (by omega) (by omega), ⟨p, hy⟩, h6.mv f (by omega) (by omega)⟩
/-- a call's answer: 0 and the number, or which exception -/
def rsF (e1 e2 e3 : Nat) (a : Nat × Int) : zRes := if a.1 = 0 then .inl (some (zI a.2)) else if a.1 = 1 then .inr e1 else if a.1 = 2 then .inr e2 else .inr e3
abbrev inF (v b : Int) : Prop := 0 ≤ v ∧ v < b
def aTrim (B : zB) (v : Int) : (Nat × Int) × zB := if v < 0 ∨ (bN B : Int) < v then ((1, 0), B) else ((0, v), (B.1, B.2.1, v.toNat, B.2.2.2))
def aPlan (B : zB) (p k : Int) : Nat × Int := if inF p 6 ∧ inF k 4 then (0, plT (bP B p.toNat) k.toNat) else (1, 0)
def aAddPlank (B : zB) (w l t : Int) : (Nat × Int) × zB := if ¬ (inF w 4 ∧ (10 ≤ l ∧ l ≤ 300) ∧ (0 ≤ t ∧ t ≤ 100)) then ((1, 0), B) else if 60 ≤ yN (bY B) then ((2, 0), B) else ((0, (yN (bY B) : Int)), (yst (bY B) (yG (bY B) 3) (yN (bY B) + 1) (up1 (yY (bY B)) (yN (bY B)) (w, l, t, [])), B.2))
def aAddKnot (B : zB) (k p : Int) : (Nat × Int) × zB := if ¬ inF k (yN (bY B)) then ((1, 0), B) else if ¬ inF p (yY (bY B) k.toNat).2.1 then ((2, 0), B) else if 8 ≤ (yY (bY B) k.toNat).2.2.2.length ∨ p ∈ (yY (bY B) k.toNat).2.2.2 then ((3, 0), B) else ((0, ((yY (bY B) k.toNat).2.2.2.length + 1 : Nat)), (yst (bY B) (yG (bY B) 3) (yN (bY B)) (up1 (yY (bY B)) k.toNat (insF (yY (bY B) k.toNat) p)), B.2))
def aPlank (B : zB) (k j : Int) : Nat × Int := if inF k (yN (bY B)) ∧ inF j 5 then (0, pkT (yY (bY B) k.toNat) j.toNat) else (1, 0)
def aFind (B : zB) (w l p : Int) : Nat × Int := if ¬ (inF w 4 ∧ (10 ≤ l ∧ l ≤ 200)) then (1, 0) else if bestF (yY (bY B)) w l (yN (bY B)) < 0 ∨ p = 0 then (0, bestF (yY (bY B)) w l (yN (bY B))) else (0, clearL (yY (bY B) (bestF (yY (bY B)) w l (yN (bY B))).toNat).2.1 l 0 (yY (bY B) (bestF (yY (bY B)) w l (yN (bY B))).toNat).2.2.2)
def aAddFrame (B : zB) (j : Int) : (Nat × Int) × zB := if ¬ inF j 5 then ((1, 0), B) else if 4 ≤ yF (bY B) j.toNat then ((2, 0), B) else ((0, wr (yF (bY B) j.toNat + 1)), (ye (yf (bY B) j.toNat (wr (yF (bY B) j.toNat + 1))) j.toNat (wr (yE (bY B) j.toNat + 1)), B.2))
def aFrames (B : zB) (j k : Int) : Nat × Int := if inF j 5 ∧ inF k 3 then (0, frT (bY B) j.toNat k.toNat) else (1, 0)
def aAddSlip (B : zB) : (Nat × Int) × zB := if 6 ≤ yS (bY B) then ((1, 0), B) else ((0, (yS (bY B) : Int)), (ysn (bY B) (yS (bY B) + 1), B.2))
def aSlip (B : zB) (i k : Int) : Nat × Int := if inF i (yS (bY B)) ∧ inF k 15 then (0, yX (bY B) i.toNat k.toNat) else (1, 0)
def aBend (B : zB) (i j p : Int) : Nat × Int := if inF i (yS (bY B)) ∧ inF j 3 then (0, if p = 0 then yX (bY B) i.toNat (20 + j.toNat) else yX (bY B) i.toNat (23 + j.toNat)) else (1, 0)
def aCount (B : zB) (k : Int) : Nat × Int := if inF k 9 then (0, ctT (bY B) k.toNat) else (1, 0)
def aHull (B : zB) (i k : Int) : Nat × Int := if inF i (keptF (bY B)) ∧ inF k 6 then (0, yH (bY B) i.toNat k.toNat) else (1, 0)
theorem isb {p : Prop} [Decidable p] : (if p then (1 : Int) else 0) = 0 ↔ ¬ p := by
  by_cases c : p
  · rw [if_pos c]; exact ⟨fun z => absurd z (by decide), fun z => absurd c z⟩
  · rw [if_neg c]; exact ⟨fun _ => c, fun _ => rfl⟩
section ZBD
variable {xs : Nat → Int} {xl d : Nat} {m : zM} {Q : zRes → zM → Prop}
theorem C_bTrim {P x : Nat} {B : zB} {v : Int} (h : Bd P m x B) (hQ : ∀ m', Bd P m' x (aTrim B v).2 → Fr (rg x (x + 392)) 1 6 m m' → Q (rsF 1 0 0 (aTrim B v).1) m') : zC xs xl (d + 1) 104 [zR x, zI v] m Q := by
  have hx : ∀ m', Fr (rg 0 0) 1 6 m m' → Fr (rg x (x + 392)) 1 6 m m' := fun m' f => f.sub (fun a z => by unfold rg at z; omega)
  obtain ⟨h1, h2, h3, h4, ⟨p, h5⟩, h6⟩ := id h
  unfold aTrim at hQ
  refine bX10_trim_0 ⟨fun c => ?_, fun c => ⟨h1.1.1, ?_⟩⟩
  · rw [if_pos (Or.inl c)] at hQ
    exact hQ _ h.x (hx _ fr_nwX)
  · rw [h1.1.2.1, h2.1.2.1.1]
    refine ⟨h2.1.1.1, fun c2 => ?_, fun c2 => ?_⟩
    · rw [if_neg (by omega)] at hQ
      have f : Fr (rg (x + 1) (x + 2)) 0 0 m (sI m 513 (x + 1) v) := Fr.rfl.sI (by unfold rg; omega)
      have hz := h1.2.2
      have hxx := h1.2.1
      refine hQ _ ⟨h1.mv f.2.1 (f.1 x (by omega) (fun z => by unfold rg at z; omega)), ⟨⟨h2.1.1, ⟨zm_Is.trans ?_, ?_⟩, fun i hi => h2.1.2.2 i ?_⟩, fun i hi => h2.2 i ?_⟩, h3.mv f (by omega), h4.mv (by omega) f (by omega) (by omega), ⟨p, h5.mv f (by omega) (by omega)⟩, h6.mv f (by omega) (by omega)⟩ ((f.rg (by omega) (by omega)).mono (fun _ _ z => z) (by omega) (by omega))
      · show v = ((v.toNat : Nat) : Int); omega
      · show v.toNat ≤ 1000; have := h2.1.2.1.2; omega
      · have hi' : i < v.toNat := hi; omega
      · have hi' : i < v.toNat := hi; omega
    · rw [if_pos (by omega)] at hQ
      exact hQ _ h.x (hx _ fr_nwX)
theorem C_bErrorAt {P x : Nat} {B : zB} (h : Bd P m x B) (hQ : Q (.inl (some (zI (bE B)))) m) : zC xs xl (d + 1) 106 [zR x] m Q := by
  obtain ⟨h1, h2, h3, h4, h5, h6⟩ := h
  refine bX10_errorAt_0 ⟨h1.1.1, ?_⟩
  rw [h1.1.2.2.1, h3.2]
  exact ⟨h3.1.1.1.1, hQ⟩
theorem C_bPlan {P x : Nat} {B : zB} {p k : Int} (h : Bd P m x B) (hQ : ∀ m', Bd P m' x B → Fr (rg x (x + 392)) 1 6 m m' → Q (rsF 2 0 0 (aPlan B p k)) m') : zC xs xl (d + 2) 107 [zR x, zI p, zI k] m Q := by
  have hx : ∀ m', Fr (rg 0 0) 1 6 m m' → Fr (rg x (x + 392)) 1 6 m m' := fun m' f => f.sub (fun a z => by unfold rg at z; omega)
  obtain ⟨h1, h2, h3, h4, h5, h6⟩ := id h
  unfold aPlan at hQ
  refine bX10_plan_0 (C_isBelow ⟨_, rfl, fun c => ?_, fun c => C_isBelow ⟨_, rfl, fun c2 => ⟨h1.1.1, ?_⟩, fun c2 => ?_⟩⟩)
  · rw [if_neg (fun z => isb.mp c z.1)] at hQ
    exact hQ _ h.x (hx _ fr_nwX)
  · have c' : inF p 6 := Decidable.byContradiction (fun z => c (isb.mpr z))
    have c2' : inF k 4 := Decidable.byContradiction (fun z => c2 (isb.mpr z))
    rw [if_pos ⟨c', c2'⟩] at hQ
    have hp := h4.2 p.toNat (by omega)
    rw [h1.1.2.2.2.1, h4.1.1, h4.1.2]
    refine ⟨by decide, by omega, hp.1.1, ?_⟩
    have q := C_plTell (xs := xs) (xl := xl) (d := d) (k := k.toNat) (Q := fun r m8 => ∃ v9 : Int, r = .inl (some (zI v9)) ∧ Q (.inl (some (zI v9))) m8) hp.1.1 hp.1.2.1 hp.1.2.2 ⟨_, rfl, hQ m h Fr.rfl⟩
    rwa [show ((k.toNat : Nat) : Int) = k by omega] at q
  · rw [if_neg (fun z => isb.mp (Decidable.not_not.mp c2) z.2)] at hQ
    exact hQ _ h.x (hx _ fr_nwX)
end ZBD
