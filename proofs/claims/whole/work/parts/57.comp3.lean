theorem PlT.mv {P k u lo hi p : Nat} {m m' : zM} {l : List zAc} (h : PlT P m p l) (f : Fr (rg lo hi) k u m m') (hP : hi ≤ P) : PlT P m' p l := by
  obtain ⟨h1, h2, h3, h4, h5⟩ := h
  have e := f.1 p h1.1.2.1 (fun q => by have := h1.1.1; unfold rg at q; omega)
  exact ⟨h1.mv f hP, (e.2.1 192).trans h2, (e.1 194).trans h3, (e.1 195).trans h4, (e.1 196).trans h5⟩
theorem PlT.app {P p ac : Nat} {m m' : zM} {l : List zAc} {q : zAc} (h : PlT P m p l) (hl : l.length < 60) (hA : Ac m ac q.1 q.2.1 q.2.2.1 q.2.2.2) (hac : P ≤ ac ∧ ac < mz m ∧ ac ≠ 0) (f : Fr (rg p (p + 2)) 0 0 m m') (hC : mC m' p = 4 ∧ mR m' 192 p = p + 1 ∧ mC m' (p + 1) = 30 ∧ mN m' (p + 1) = 60) (h0 : mI m' 193 p = ((l.length + 1 : Nat) : Int)) (h1 : mI m' 194 p = cutsL (l ++ [q])) (h2 : mI m' 195 p = lensL (l ++ [q])) (h3 : mI m' 196 p = leastL (l ++ [q])) (hO : ∀ i, mO m' (p + 1) i = if i = l.length then ac else mO m (p + 1) i) : PlT P m' p (l ++ [q]) := by
  obtain ⟨g1, g2, g3, g4, g5⟩ := h
  obtain ⟨a1, a2, a3, a4, a5, a6⟩ := g1
  rw [g2] at a2 a3 a6
  have hz := f.2.1
  have hac1 : ∀ b : Nat, mC m b = 1 → b < mz m → Eqv m m' b := fun b hb hlt => f.1 b hlt (fun z => by
    unfold rg at z
    by_cases c : b = p
    · rw [c, a3.1] at hb; exact absurd hb (by decide)
    · rw [show b = p + 1 by omega, a3.2.1] at hb; exact absurd hb (by decide))
  have el : (l ++ [q]).length = l.length + 1 := by rw [List.length_append]; rfl
  refine ⟨⟨⟨a1.1, by omega, a1.2.2⟩, ?_, ?_, ?_, ?_, fun i r hr => ?_⟩, hC.2.1, h1, h2, h3⟩
  · rw [hC.2.1]; exact ⟨a2.1, by omega⟩
  · rw [hC.2.1]; exact ⟨hC.1, hC.2.2.1, hC.2.2.2⟩
  · rw [h0, el]
  · rw [el]; omega
  · rw [hC.2.1, hO]
    by_cases c : i = l.length
    · subst c
      rw [List.getElem?_append_right (Nat.le_refl _), Nat.sub_self] at hr
      have er : q = r := Option.some.inj hr
      subst er
      rw [if_pos rfl]
      exact ⟨⟨hac.1, by omega, hac.2.2⟩, hA.mv (hac1 ac hA.1 hac.2.1)⟩
    · have hlt := (List.getElem?_eq_some_iff.mp hr).1
      rw [el] at hlt
      rw [List.getElem?_append_left (by omega)] at hr
      obtain ⟨b1, b2⟩ := a6 i r hr
      rw [if_neg c]
      exact ⟨⟨b1.1, by omega, b1.2.2⟩, b2.mv (hac1 _ b2.1 b1.2.1)⟩
theorem cutsL_app {l : List zAc} {q : zAc} : cutsL (l ++ [q]) = if q.1 = 2 then wr (cutsL l + 1) else cutsL l := by unfold cutsL; rw [List.foldl_append]; rfl
theorem lensL_app {l : List zAc} {q : zAc} : lensL (l ++ [q]) = if q.1 = 2 then wr (lensL l + q.2.2.1) else lensL l := by unfold lensL; rw [List.foldl_append]; rfl
theorem leastL_app {l : List zAc} {q : zAc} : leastL (l ++ [q]) = if q.1 = 3 ∨ q.1 = 4 ∨ q.1 = 6 then wr (leastL l + q.2.1) else wr (leastL l + 1) := by unfold leastL; rw [List.foldl_append]; rfl
def stpF (t : Nat → Int) (n i : Nat) (w : Int) (st : zPs) : (Int × Nat) ⊕ zPs :=
  if outF w (valF t n (i + 1) w 0) st.2.1 st.2.2.1 st.2.2.2 ≠ 0 then .inl (3, (tkF t n i).2.2.1)
  else if 60 ≤ st.1.length then .inl (4, (tkF t n i).2.2.1)
  else if 0 ≤ wnF w (valF t n (i + 1) w) (formL w) 0 then .inl (2, (tkF t n (i + 1 + (wnF w (valF t n (i + 1) w) (formL w) 0).toNat)).2.2.1)
  else .inr (st.1 ++ [(w, valF t n (i + 1) w 0, valF t n (i + 1) w 1, valF t n (i + 1) w 2)], followF w (valF t n (i + 1) w 0) st.2)
theorem wnF_len {w : Int} {v : Nat → Int} : ∀ {l : List Int} {j : Nat}, 0 ≤ wnF w v l j → (wnF w v l j).toNat < j + l.length ∧ j ≤ (wnF w v l j).toNat
  | [], j, h => absurd h (by show ¬ (0 ≤ (-1 : Int)); decide)
  | c :: r, j, h => by
    unfold wnF at h ⊢
    rw [List.length_cons]
    split at h
    · exact absurd h (by decide)
    · rename_i c1
      rw [if_neg c1]
      split at h
      · rename_i c2
        rw [if_pos c2, Int.toNat_natCast]; omega
      · rename_i c2
        rw [if_neg c2]
        have := wnF_len h
        omega
section ZCR
variable {xs : Nat → Int} {xl d : Nat} {m : zM} {Q : zRes → zM → Prop}
theorem C_append {P p ac : Nat} {l : List zAc} {q : zAc} (h : PlT P m p l) (hl : l.length < 60) (hA : Ac m ac q.1 q.2.1 q.2.2.1 q.2.2.2) (hac : P ≤ ac ∧ ac < mz m ∧ ac ≠ 0) (hQ : ∀ m', PlT P m' p (l ++ [q]) → Fr (rg p (p + 2)) 0 0 m m' → Q (.inl none) m') : zC xs xl (d + 1) 32 [zR p, zR ac] m Q := by
  have h0 := h
  obtain ⟨g1, g2, g3, g4, g5⟩ := h
  obtain ⟨a1, a2, a3, a4, a5, a6⟩ := g1
  obtain ⟨A0, A1, A2, A3, A4⟩ := hA
  rw [g2] at a2 a3 a6
  have hr : rg p (p + 2) p := by unfold rg; omega
  have hr1 : rg p (p + 2) (p + 1) := by unfold rg; omega
  have hne : ac ≠ p := fun z => by rw [z, a3.1] at A0; exact absurd A0 (by decide)
  have hne1 : ac ≠ p + 1 := fun z => by rw [z, a3.2.1] at A0; exact absurd A0 (by decide)
  have h61 : ∀ (m1 : zM) (u : zV), Fr (rg p (p + 2)) 0 0 m m1 → (mC m1 p = 4 ∧ mR m1 192 p = p + 1 ∧ mC m1 (p + 1) = 30 ∧ mN m1 (p + 1) = 60) → mI m1 193 p = ((l.length + 1 : Nat) : Int) → mI m1 194 p = cutsL (l ++ [q]) → mI m1 195 p = lensL (l ++ [q]) → mI m1 196 p = leastL l → (∀ i, mO m1 (p + 1) i = if i = l.length then ac else mO m (p + 1) i) → zW xs xl d cX3_append 3 (none) false [] 61 [zR p, zR ac, u] [] m1 Q := by
    intro m1 u f k1 k2 k3 k4 k5 k6
    have e := f.1 ac hac.2.1 (fun z => by unfold rg at z; omega)
    have hup : ∀ v : Int, v = leastL (l ++ [q]) → Q (.inl none) (sI m1 196 p v) := fun v hv => hQ _ (h0.app hl ⟨A0, A1, A2, A3, A4⟩ hac (f.sI hr) k1 ((zm_In (by decide)).trans k2) ((zm_In (by decide)).trans k3) ((zm_In (by decide)).trans k4) (zm_Is.trans hv) k6) (f.sI hr)
    have hlong : ∀ s0 : Int, (s0 = 0 ↔ ¬ (q.1 = 3 ∨ q.1 = 4 ∨ q.1 = 6)) → zW xs xl d cX3_append 3 (none) false [] 91 [zR p, zR ac, u] [zI s0] m1 Q := by
      intro s0 hs0
      refine bX3_append_91 ⟨k1.1, ?_⟩
      rw [k5, e.1, A2, e.2.2.2.2.1]
      refine ⟨fun c => hup _ ?_, fun c => ⟨A0, hup _ ?_⟩⟩
      · rw [leastL_app, if_neg (hs0.mp c)]
      · rw [leastL_app, if_pos (Decidable.byContradiction (fun z => c (hs0.mpr z)))]
    refine bX3_append_61 ?_
    rw [e.2.2.2.2.1, e.1, A1]
    refine ⟨A0, fun c => hlong 1 ⟨fun z => absurd z (by decide), fun z => absurd (Or.inl c) z⟩, fun c => ⟨fun c1 => hlong 1 ⟨fun z => absurd z (by decide), fun z => absurd (Or.inr (Or.inl c1)) z⟩, fun c1 => ⟨fun c2 => hlong 0 ⟨fun _ z => by rcases z with z | z | z <;> contradiction, fun _ => rfl⟩, fun c2 => hlong 1 ⟨fun z => absurd z (by decide), fun z => absurd (Or.inr (Or.inr (Decidable.not_not.mp c2))) z⟩⟩⟩⟩
  refine bX3_append_0 ?_
  rw [a4, g2, a3.2.1, a3.2.2, A0, A1, A3, Int.toNat_natCast, wr_s (by omega)]
  refine ⟨a3.1, fun _ => ⟨by omega, by decide, rfl, rfl, fun c => ?_, fun c => ?_⟩, fun c => absurd (by omega) c⟩
  · refine h61 _ _ ((Fr.rfl.sO hr1).sI hr) ⟨a3.1, g2, a3.2.1, a3.2.2⟩ zm_Is ?_ ?_ ?_ (fun i => ?_)
    · rw [cutsL_app, if_neg c]; exact (zm_In (by decide)).trans g3
    · rw [lensL_app, if_neg c]; exact (zm_In (by decide)).trans g4
    · exact (zm_In (by decide)).trans g5
    · by_cases ci : i = l.length
      · rw [if_pos ci, ci]; exact if_pos ⟨rfl, rfl⟩
      · rw [if_neg ci]; exact if_neg (fun z => ci z.2)
  · have c' := Decidable.not_not.mp c
    rw [g3, g4]
    refine h61 _ _ ((((Fr.rfl.sO hr1).sI hr).sI hr).sI hr) ⟨a3.1, g2, a3.2.1, a3.2.2⟩ ((zm_In (by decide)).trans ((zm_In (by decide)).trans zm_Is)) ?_ ?_ ?_ (fun i => ?_)
    · rw [cutsL_app, if_pos c']; exact (zm_In (by decide)).trans zm_Is
    · rw [lensL_app, if_pos c']; exact zm_Is
    · exact (zm_In (by decide)).trans ((zm_In (by decide)).trans ((zm_In (by decide)).trans g5))
    · by_cases ci : i = l.length
      · rw [if_pos ci, ci]; exact if_pos ⟨rfl, rfl⟩
      · rw [if_neg ci]; exact if_neg (fun z => ci z.2)
end ZCR
