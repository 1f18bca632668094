/-! a yard taken over by another one -/
theorem YdS.set {P a i : Nat} {m m' : zM} {p : Nat → Nat} {x : Nat → Nat → Int} {l : Nat → List zAc} (h : YdS P i m a p x l) (hi : i < 6) (hP : a + 191 ≤ P) (hz : a + 191 ≤ mz m) (f : Fr (rg (a + 167 + 4 * i) (a + 167 + 4 * i + 4)) 0 0 m m') (hs : Sl m' (a + 167 + 4 * i) (p i) (x i)) (hl : x i 0 ≠ 0 → Pl P m' (p i) (l i)) : YdS P (i + 1) m' a p x l := by
  have e : ∀ b, a ≤ b → b < a + 191 → ¬ (a + 167 + 4 * i ≤ b ∧ b < a + 167 + 4 * i + 4) → Eqv m m' b := fun b b1 b2 b3 => f.1 b (by omega) (fun q => by unfold rg at q; omega)
  have e5 := e (a + 125) (by omega) (by omega) (by omega)
  obtain ⟨h1, h2⟩ := h
  unfold YdS
  rw [e5.2.2.2.2.1, e5.2.2.2.2.2]
  refine ⟨h1, fun j hj => ?_⟩
  obtain ⟨q1, pj, xj, q2, q3⟩ := h2 j hj
  rw [e5.2.2.2.1]
  refine ⟨q1, ?_⟩
  by_cases c : j = i
  · subst c
    exact ⟨p j, x j, hs, fun _ => ⟨rfl, rfl, hl⟩⟩
  · refine ⟨pj, xj, q2.mv f.2.1 (fun b b1 b2 => e b (by omega) (by omega) (by omega)), fun hc => ?_⟩
    have hc' : j < i := by omega
    exact ⟨(q3 hc').1, (q3 hc').2.1, fun c0 => ((q3 hc').2.2 c0).mv f (by omega)⟩
theorem YdS.zero {P a kc : Nat} {m : zM} {p p' : Nat → Nat} {x x' : Nat → Nat → Int} {l l' : Nat → List zAc} (h : YdS P kc m a p x l) : YdS P 0 m a p' x' l' := ⟨h.1, fun i hi => by
  obtain ⟨q1, pj, xj, q2, q3⟩ := h.2 i hi
  exact ⟨q1, pj, xj, q2, fun c => absurd c (by omega)⟩⟩
theorem YdH.zero {a ke : Nat} {m : zM} {H H' : Nat → Nat → Int} (h : YdH ke m a H) : YdH 0 m a H' := ⟨h.1, fun i hi => by
  obtain ⟨q1, q2, q3, q4⟩ := h.2 i hi
  exact ⟨q1, q2, q3, fun c => absurd c (by omega)⟩⟩
section ZYC
variable {xs : Nat → Int} {xl d : Nat} {m : zM} {Q : zRes → zM → Prop}
theorem C_yardCopy {P kc ke kc' ke' a b : Nat} {p q : Nat → Nat} {Y Z : zY} (h : Yd P kc ke m a p Y) (g : Yd P kc' ke' m b q Z) (hab : a + 191 ≤ b ∨ b + 191 ≤ a) (hf : ∀ i, i < yS Z → flagOk (yX Z i)) (hQ : ∀ m', Yd P (yS Z) 0 m' a q Z → Fr (rg a (a + 191)) 0 0 m m' → Q (.inl none) m') : zC xs xl (d + 4) 101 [zR a, zR b] m Q := by
  have hr : rg a (a + 191) a := by unfold rg; omega
  have lp : ∀ (k i : Nat) (m5 : zM), i + k = yS Z → YdF P m5 a → (mI m5 576 a = yG Z 0 ∧ mI m5 581 a = yS Z ∧ mI m5 583 a = yG Z 1 ∧ mI m5 584 a = yG Z 2) → St m5 (a + 1) (yG Z 3) (yN Z) (yY Z) → YdA m5 a (yF Z) (yE Z) → YdS P i m5 a q (yX Z) (yL Z) → YdH 0 m5 a (yH Z) → Fr (rg a (a + 191)) 0 0 m m5 → zW xs xl (d + 3) cX9_copyFrom 9 (none) false [] 73 [zR a, zR b, zI (i : Int)] [] m5 Q := by
    intro k
    induction k with
    | zero =>
      intro i m5 e hF hI hS hA hX hH f
      have ei : i = yS Z := by omega
      subst ei
      have g5 := g.2.1.2.2.2.2
      exact bX9_copyFrom_73 ⟨hF.1, fun _ => hQ m5 ⟨hF, ⟨hI.1, hI.2.1, hI.2.2.1, hI.2.2.2, Nat.le_refl _, by omega⟩, hS, hA, hX, hH⟩ f, fun c => absurd (by rw [hI.2.1]; exact Int.le_refl _) c⟩
    | succ k ih =>
      intro i m5 e hF hI hS hA hX hH f
      have g5 : Yd P kc' ke' m5 b q Z := g.mv f hF.2.2.2.2.2.2.2 (by omega)
      have gs := g5.2.1.2.2.2.2
      obtain ⟨s1, s2, s3⟩ := g5.sl (i := i) (by omega)
      obtain ⟨x1, pj, xj, x2, -⟩ := hX.2 i (by omega)
      have hz := hF.2.2.2.2.2.2.1
      refine bX9_copyFrom_73 ⟨hF.1, fun c => absurd c (by rw [hI.2.1]; omega), fun _ => ?_⟩
      rw [hF.2.2.2.2.1, g5.1.2.2.2.2.1, Int.toNat_natCast, x1, s1, hX.1.1, hX.1.2, g5.2.2.2.2.1.1.1, g5.2.2.2.2.1.1.2, wr_s (by omega)]
      refine ⟨by decide, by omega, g5.1.1, by decide, by omega, x2.1.1, C_slCopy x2 s2 (by omega) (hf i (by omega)) (fun m6 s6 f6 => ⟨rfl, ?_⟩)⟩
      have e6 : ∀ c, a ≤ c → c < a + 191 → ¬ (a + 167 + 4 * i ≤ c ∧ c < a + 167 + 4 * i + 4) → Eqv m5 m6 c := fun c b1 b2 b3 => f6.1 c (by omega) (fun q => by unfold rg at q; omega)
      have e0 := e6 a (by omega) (by omega) (by omega)
      refine ih (i + 1) m6 (by omega) (hF.mv f6.2.1 e0.2.2.2.2.1 e0.2.1) (by rw [e0.1, e0.1, e0.1, e0.1]; exact hI) (hS.mv f6.2.1 (fun c b1 b2 => e6 c (by omega) (by omega) (by omega))) (hA.mv (e6 _ (by omega) (by omega) (by omega)) (e6 _ (by omega) (by omega) (by omega))) ?_ (hH.mv (fun c b1 b2 => e6 c (by omega) (by omega) (by omega))) (f.tr0 (f6.rg (by omega) (by omega)))
      exact hX.set (by omega) hF.2.2.2.2.2.2.2 hz f6 s6 (fun c => (s3 c).mv f6 (by have := hF.2.2.2.2.2.2.2; omega))
  obtain ⟨hF, hI, hS, hA, hX, hH⟩ := h
  have hz := hF.2.2.2.2.2.2.1
  have hP := hF.2.2.2.2.2.2.2
  refine bX9_copyFrom_0 ⟨g.1.1, hF.1, ?_⟩
  rw [hF.2.1, g.1.2.1, g.2.1.1, g.2.1.2.1, g.2.1.2.2.1, g.2.1.2.2.2.1]
  refine ⟨hS.1.1, ?_⟩
  have f1 : Fr (rg a (a + 1)) 0 0 m (sI (sI (sI (sI m 576 a (yG Z 0)) 581 a (yS Z)) 583 a (yG Z 1)) 584 a (yG Z 2)) := by
    have hr : rg a (a + 1) a := by unfold rg; omega
    exact (((Fr.rfl.sI hr).sI hr).sI hr).sI hr
  have i1 : mI (sI (sI (sI (sI m 576 a (yG Z 0)) 581 a (yS Z)) 583 a (yG Z 1)) 584 a (yG Z 2)) 576 a = yG Z 0 ∧ mI (sI (sI (sI (sI m 576 a (yG Z 0)) 581 a (yS Z)) 583 a (yG Z 1)) 584 a (yG Z 2)) 581 a = yS Z ∧ mI (sI (sI (sI (sI m 576 a (yG Z 0)) 581 a (yS Z)) 583 a (yG Z 1)) 584 a (yG Z 2)) 583 a = yG Z 1 ∧ mI (sI (sI (sI (sI m 576 a (yG Z 0)) 581 a (yS Z)) 583 a (yG Z 1)) 584 a (yG Z 2)) 584 a = yG Z 2 := by simp [zget]
  have hF1 : YdF P (sI (sI (sI (sI m 576 a (yG Z 0)) 581 a (yS Z)) 583 a (yG Z 1)) 584 a (yG Z 2)) a := hF.mv (Nat.le_refl _) rfl (fun _ => rfl)
  generalize sI (sI (sI (sI m 576 a (yG Z 0)) 581 a (yS Z)) 583 a (yG Z 1)) 584 a (yG Z 2) = m1 at f1 i1 hF1 ⊢
  have e1 : ∀ c, a < c → c < a + 191 → Eqv m m1 c := fun c b1 b2 => f1.1 c (by omega) (fun q => by unfold rg at q; omega)
  have g1 : Yd P kc' ke' m1 b q Z := g.mv f1 (by omega) (by omega)
  have hS1 := hS.mv f1.2.1 (fun c b1 b2 => e1 c (by omega) (by omega))
  refine C_stCopy hS1 g1.2.2.1 (by omega) (fun m3 st3 f3 => ?_)
  have e3 : ∀ c, a ≤ c → c < a + 191 → ¬ (a + 1 ≤ c ∧ c < a + 123) → Eqv m1 m3 c := fun c b1 b2 b3 => f3.1 c (by have := hF1.2.2.2.2.2.2.1; omega) (fun q => by unfold rg at q; omega)
  have e30 := e3 a (by omega) (by omega) (by omega)
  have hF3 : YdF P m3 a := hF1.mv f3.2.1 e30.2.2.2.2.1 e30.2.1
  have g3 : Yd P kc' ke' m3 b q Z := g1.mv f3 (by omega) (by omega)
  have hA3 : YdA m3 a (yF Y) (yE Y) := (hA.mv (e1 _ (by omega) (by omega)) (e1 _ (by omega) (by omega))).mv (e3 _ (by omega) (by omega) (by omega)) (e3 _ (by omega) (by omega) (by omega))
  have gA := g3.2.2.2.1
  refine ⟨rfl, g3.1.1, hF3.1, ?_⟩
  rw [hF3.2.2.1, hF3.2.2.2.1, g3.1.2.2.1, g3.1.2.2.2.1, hA3.1.1, hA3.1.2.1, hA3.1.2.2.1, hA3.1.2.2.2, gA.1.1, gA.1.2.1, gA.1.2.2.1, gA.1.2.2.2]
  refine ⟨⟨by omega, by omega, by omega, by decide, by decide, rfl, Or.inl rfl, by omega⟩, ⟨by omega, by omega, by omega, by decide, by decide, rfl, Or.inl rfl, by omega⟩, ?_⟩
  have f4 : Fr (rg (a + 123) (a + 125)) 0 0 m3 (cpA (cpA m3 (b + 123) 0 (a + 123) 0 5) (b + 124) 0 (a + 124) 0 5) := (Fr.rfl.cpA (by unfold rg; omega)).cpA (by unfold rg; omega)
  have hA4 : YdA (cpA (cpA m3 (b + 123) 0 (a + 123) 0 5) (b + 124) 0 (a + 124) 0 5) a (yF Z) (yE Z) := by
    refine ⟨hA3.1, fun j hj => ⟨?_, ?_⟩⟩
    · rw [(Eqv.cp (by omega)).2.2.1]
      have e : mA (cpA m3 (b + 123) 0 (a + 123) 0 5) (a + 123) j = mA m3 (b + 123) (0 + (j - 0)) := if_pos ⟨rfl, by omega, by omega⟩
      rw [e, show 0 + (j - 0) = j by omega]
      exact (gA.2 j hj).1
    · have e : mA (cpA (cpA m3 (b + 123) 0 (a + 123) 0 5) (b + 124) 0 (a + 124) 0 5) (a + 124) j = mA (cpA m3 (b + 123) 0 (a + 123) 0 5) (b + 124) (0 + (j - 0)) := if_pos ⟨rfl, by omega, by omega⟩
      rw [e, (Eqv.cp (by omega)).2.2.1, show 0 + (j - 0) = j by omega]
      exact (gA.2 j hj).2
  have e4 : ∀ c, c ≠ a + 123 → c ≠ a + 124 → Eqv m3 (cpA (cpA m3 (b + 123) 0 (a + 123) 0 5) (b + 124) 0 (a + 124) 0 5) c := fun c c1 c2 => (Eqv.cp c1).tr (Eqv.cp c2)
  have hz3 := hF3.2.2.2.2.2.2.1
  have ft : Fr (rg a (a + 191)) 0 0 m m3 := (f1.rg (by omega) (by omega)).tr0 (f3.rg (by omega) (by omega))
  have ea : ∀ c, (c = a + 125 ∨ (a + 126 ≤ c ∧ c < a + 191)) → Eqv m m3 c := fun c hc => (e1 c (by omega) (by omega)).tr (e3 c (by omega) (by omega) (by omega))
  refine lp (yS Z) 0 _ (by omega) (hF3.mv (Nat.le_refl _) rfl (fun _ => rfl)) ?_ (st3.mv (Nat.le_refl _) (fun c b1 b2 => e4 c (by omega) (by omega))) hA4 ?_ ?_ (ft.tr0 (f4.rg (by omega) (by omega)))
  · show mI m3 576 a = _ ∧ mI m3 581 a = _ ∧ mI m3 583 a = _ ∧ mI m3 584 a = _
    rw [e30.1, e30.1, e30.1, e30.1]; exact i1
  · exact ((hX.mv ft (by omega) (fun c hc => ea c (by omega))).zero (p' := q) (x' := yX Z) (l' := yL Z)).mv f4 (by omega) (fun c hc => e4 c (by omega) (by omega))
  · exact ((hH.mv (fun c b1 b2 => ea c (by omega))).zero (H' := yH Z)).mv (fun c b1 b2 => e4 c (by omega) (by omega))
end ZYC
