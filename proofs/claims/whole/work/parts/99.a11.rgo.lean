/-! the reference goes through a plan: one action -/
def DrA (m : zM) (x : Nat) (l : List zAc) : Prop := ∀ (j : Nat) (q : zAc), l[j]? = some q → mA m (x + 7) (4 * j) = q.1 ∧ mA m (x + 7) (4 * j + 1) = q.2.1 ∧ (q.1 = 2 ∨ q.1 = 5 → mA m (x + 7) (4 * j + 2) = q.2.2.1) ∧ (q.1 = 5 → mA m (x + 7) (4 * j + 3) = q.2.2.2)
def RGo (m : zM) (x n E : Nat) (t : Nat → Int) (i : Nat) (st : zPs) : Prop := (SR m x n t (E + 1) ∧ mI m 776 x = i ∧ i ≤ E) ∧ (mI m 779 x = st.1.length ∧ st.1.length ≤ 60 ∧ DrA m x st.1) ∧ (mI m 781 x = st.2.2.1 ∧ (st.2.2.1 = 0 ∨ st.2.2.1 = 1) ∧ mI m 783 x = st.2.1 ∧ (0 ≤ st.2.1 ∧ st.2.1 < 32) ∧ (st.2.2.1 = 1 → mI m 782 x = st.2.2.2)) ∧ mI m 772 x = 0 ∧ mI m 771 x = -1
def RErr (m : zM) (x : Nat) (e : Int) (p : Nat) : Prop := mI m 772 x = e ∧ mI m 771 x = p
theorem RGo.tk {m m' : zM} {x n E i i' : Nat} {t : Nat → Int} {st : zPs} (h : RGo m x n E t i st) (f : FT x m m') (e : mI m' 776 x = i') (hi : i' ≤ E) : RGo m' x n E t i' st := by
  obtain ⟨⟨h1, h2, h3⟩, ⟨h4, h5, h6⟩, ⟨h7, h8, h9, h10, h11⟩, h12, h13⟩ := h
  have fI : ∀ g, g ≠ 776 → mI m' g x = mI m g x := fun g hg => f.1 g x (fun z => hg z.2)
  refine ⟨⟨h1.ft f, e, hi⟩, ⟨(fI 779 (by decide)).trans h4, h5, fun j q hq => ?_⟩, ⟨(fI 781 (by decide)).trans h7, h8, (fI 783 (by decide)).trans h9, h10, fun z => (fI 782 (by decide)).trans (h11 z)⟩, (fI 772 (by decide)).trans h12, (fI 771 (by decide)).trans h13⟩
  rw [f.2.2 (x + 7) (4 * j) (fun z => z.elim), f.2.2 (x + 7) (4 * j + 1) (fun z => z.elim), f.2.2 (x + 7) (4 * j + 2) (fun z => z.elim), f.2.2 (x + 7) (4 * j + 3) (fun z => z.elim)]
  exact h6 j q hq
theorem bitg_f : ∀ (k : Fin 32) (v : Fin 5), (bAnd (bShr (k.1 : Int) (v.1 : Int)) 1 = 0 ∨ bAnd (bShr (k.1 : Int) (v.1 : Int)) 1 = 1) ∧ (bAnd (k.1 : Int) (bShl 1 (v.1 : Int)) = 0 ↔ bAnd (bShr (k.1 : Int) (v.1 : Int)) 1 = 0) ∧ (bAnd (k.1 : Int) (bShl 1 (v.1 : Int)) = 0 → bOr (k.1 : Int) (bShl 1 (v.1 : Int)) = bXor (k.1 : Int) (bShl 1 (v.1 : Int))) ∧ (bAnd (k.1 : Int) (bShl 1 (v.1 : Int)) ≠ 0 → bAnd (k.1 : Int) (bXor (bShl 1 (v.1 : Int)) (-1)) = bXor (k.1 : Int) (bShl 1 (v.1 : Int))) ∧ 0 ≤ bXor (k.1 : Int) (bShl 1 (v.1 : Int)) ∧ bXor (k.1 : Int) (bShl 1 (v.1 : Int)) < 32 := by decide +kernel
theorem bitg_i {k v : Int} (hk : 0 ≤ k ∧ k < 32) (hv : 0 ≤ v ∧ v < 5) : (bAnd (bShr k v) 1 = 0 ∨ bAnd (bShr k v) 1 = 1) ∧ (bAnd k (bShl 1 v) = 0 ↔ bAnd (bShr k v) 1 = 0) ∧ (bAnd k (bShl 1 v) = 0 → bOr k (bShl 1 v) = bXor k (bShl 1 v)) ∧ (bAnd k (bShl 1 v) ≠ 0 → bAnd k (bXor (bShl 1 v) (-1)) = bXor k (bShl 1 v)) ∧ 0 ≤ bXor k (bShl 1 v) ∧ bXor k (bShl 1 v) < 32 := by
  have q := bitg_f ⟨k.toNat, by omega⟩ ⟨v.toNat, by omega⟩
  have e1 : ((k.toNat : Nat) : Int) = k := by omega
  have e2 : ((v.toNat : Nat) : Int) = v := by omega
  simp only [e1, e2] at q
  exact q
theorem lim_f : ∀ w : Fin 8, (w.1 = 2 → (zXc 6).getD w.1 0 = 10 ∧ (zXc 7).getD w.1 0 = 200) ∧ (w.1 = 5 → (zXc 6).getD w.1 0 = 0 ∧ (zXc 7).getD w.1 0 = 40) ∧ (w.1 ≠ 2 → w.1 ≠ 5 → 0 < nmF w.1 → (zXc 6).getD w.1 0 = 1 ∧ (zXc 7).getD w.1 0 = 30) := by decide +kernel
theorem lim_x {xs : Nat → Int} {w : Nat} {v : Int} (h : w < 8) (h0 : 0 < nmF w) : (zXI xs 6 w ≤ v ∧ v ≤ zXI xs 7 w) ↔ allowB (w : Int) v := by
  obtain ⟨l1, l2, l3⟩ := lim_f ⟨w, h⟩
  have e6 : zXI xs 6 w = (zXc 6).getD w 0 := rfl
  have e7 : zXI xs 7 w = (zXc 7).getD w 0 := rfl
  rw [e6, e7]
  unfold allowB
  by_cases c2 : w = 2
  · obtain ⟨q1, q2⟩ := l1 c2
    replace q1 : (zXc 6).getD w 0 = 10 := q1
    replace q2 : (zXc 7).getD w 0 = 200 := q2
    rw [q1, q2, if_pos (by omega)]
  · rw [if_neg (by omega)]
    by_cases c5 : w = 5
    · obtain ⟨q1, q2⟩ := l2 c5
      replace q1 : (zXc 6).getD w 0 = 0 := q1
      replace q2 : (zXc 7).getD w 0 = 40 := q2
      rw [q1, q2, if_pos (by omega)]
    · obtain ⟨q1, q2⟩ := l3 c2 c5 h0
      replace q1 : (zXc 6).getD w 0 = 1 := q1
      replace q2 : (zXc 7).getD w 0 = 30 := q2
      rw [q1, q2, if_neg (by omega), if_neg (by omega)]
theorem GF.wr2 {m : zM} {x : Nat} {e p : Int} : GF x m (sI (sI m 772 x e) 771 x p) := (MF.rfl.s (Or.inr (Or.inl rfl))).s (Or.inl rfl)
section ZRH
variable {xs : Nat → Int} {xl d : Nat} {m : zM} {Q : zRes → zM → Prop}
theorem M_wrong {x n E k : Nat} {t : Nat → Int} {e : Int} (h : SR m x n t (E + 1)) (hk : k ≤ E) (hE : E ≤ n) (hQ : ∀ m', GF x m m' → RErr m' x e (tkF t n k).2.2.1 → Q (.inl (some (zI 0))) m') : zC xs xl (d + 1) 177 [zR x, zI e, zI (k : Int)] m Q := by
  obtain ⟨g1, g2, g3⟩ := id h
  obtain ⟨-, w2, -⟩ := g3 k (by omega)
  have hn := g2.2.1
  refine bX12_wrong_0 ⟨g1.1, ?_⟩
  rw [g1.2.2.1.2.2.1, g1.2.2.2.1.2.2.1, g1.2.2.2.2.2.2.1, Int.toNat_natCast, w2]
  exact ⟨rfl, by omega, hQ _ GF.wr2 ⟨(zm_In (by decide)).trans zm_Is, zm_Is⟩⟩
theorem M_mis {x n E i w : Nat} {t : Nat → Int} {st : zPs} {s0 v : Int} (h : RGo m x n E t i st) (hw : w < 8) (hv : w ≤ 1 → s0 = v ∧ 0 ≤ v ∧ v < 5) (hT : outF (w : Int) v st.2.1 st.2.2.1 st.2.2.2 ≠ 0 → Q (.inl (some (zI 1))) m) (hF : outF (w : Int) v st.2.1 st.2.2.1 st.2.2.2 = 0 → Q (.inl (some (zI 0))) m) : zC xs xl (d + 1) 180 [zR x, zI (w : Int), zI s0] m Q := by
  obtain ⟨⟨h1, h2, h3⟩, -, ⟨h7, h8, h9, h10, h11⟩, -⟩ := h
  have o2 : w = 2 → outF (w : Int) v st.2.1 st.2.2.1 st.2.2.2 = st.2.2.1 := fun z => by unfold outF; rw [if_neg (by omega), if_neg (by omega), if_pos (by omega)]
  have p74 : 2 < w → st.2.2.1 ≠ 0 → (w = 6 → st.2.1 ≠ 0) → zW xs xl d cX12_isMisplaced 12 (some .boolean) false [] 74 [zR x, zI (w : Int), zI s0] [] m Q := by
    intro c2 ch c6
    refine bX12_isMisplaced_74 ⟨fun c7 => hF ?_, fun c7 => ⟨h1.1.1, ?_⟩⟩
    · unfold outF
      rw [if_neg (by omega), if_neg (by omega), if_neg (by omega)]
      by_cases e6 : w = 6
      · rw [if_pos (by omega), if_neg (fun z => z.elim ch (c6 e6))]
      · rw [if_neg (by omega), if_neg c7, if_neg ch]
    · rw [h11 (by omega)]
      have e : outF (w : Int) v st.2.1 st.2.2.1 st.2.2.2 = if st.2.2.1 = 0 ∨ st.2.2.2 = 0 then 1 else 0 := by
        unfold outF
        rw [if_neg (by omega), if_neg (by omega), if_neg (by omega), if_neg (by omega), if_pos (Decidable.not_not.mp c7)]
      rw [e] at hT hF
      refine ⟨fun z => hF (if_neg (fun y => y.elim ch z)), fun z => hT ?_⟩
      rw [if_pos (Or.inr (Decidable.not_not.mp z))]
      decide
  refine bX12_isMisplaced_0 ⟨fun c0 => ⟨fun c1 => ⟨fun c2 => ⟨h1.1.1, ?_⟩, fun c2 => ⟨h1.1.1, ?_⟩⟩, fun c1 => ⟨h1.1.1, ?_⟩⟩, fun c0 => ⟨h1.1.1, ?_⟩⟩
  · rw [h7, h9]
    refine ⟨fun ch => hT ?_, fun ch => ⟨fun c6 => p74 (by omega) ch (fun z => by omega), fun c6 => ⟨fun ct => hT ?_, fun ct => p74 (by omega) ch (fun _ => ct)⟩⟩⟩
    · unfold outF
      rw [if_neg c0, if_neg c1, if_neg c2]
      split
      · rw [if_pos (Or.inl ch)]; decide
      · split
        · rw [if_pos (Or.inl ch)]; decide
        · first | decide | (rw [if_pos ch]; decide)
    · unfold outF
      rw [if_neg c0, if_neg c1, if_neg c2, if_pos (Decidable.not_not.mp c6), if_pos (Or.inr ct)]; decide
  · rw [h7]
    refine ⟨h8, ?_⟩
    have e := o2 (by omega)
    rw [e] at hT hF
    rcases h8 with z | z
    · rw [z]; exact hF z
    · rw [z]; exact hT (by rw [z]; decide)
  · rw [h9]
    obtain ⟨es, v0, v5⟩ := hv (by omega)
    subst es
    obtain ⟨b1, b2, -⟩ := bitg_i h10 ⟨v0, v5⟩
    have e : outF (w : Int) s0 st.2.1 st.2.2.1 st.2.2.2 = if bAnd st.2.1 (bShl 1 s0) = 0 then 1 else 0 := by
      unfold outF
      rw [if_neg c0, if_pos (Decidable.not_not.mp c1)]
    rw [e] at hT hF
    refine ⟨fun z => hF (if_neg (fun y => z (b2.mp y))), fun z => hT ?_⟩
    rw [if_pos (b2.mpr (Decidable.not_not.mp z))]; decide
  · rw [h9]
    obtain ⟨es, v0, v5⟩ := hv (by omega)
    subst es
    obtain ⟨b1, b2, -⟩ := bitg_i h10 ⟨v0, v5⟩
    have e : outF (w : Int) s0 st.2.1 st.2.2.1 st.2.2.2 = if bAnd st.2.1 (bShl 1 s0) = 0 then 0 else 1 := by
      unfold outF
      rw [if_pos (Decidable.not_not.mp c0)]
    rw [e] at hT hF
    refine ⟨fun z => hF (if_pos (b2.mpr (by omega))), fun z => hT ?_⟩
    rw [if_neg (fun y => by have := b2.mp y; omega)]; decide
theorem M_act262 {x w : Nat} {a2 a3 a4 : Int} {u : zV} (hC : mC m x = 13) (hw : w < 8) (hQ : ∀ m', MF x (fun f => f = 781 ∨ f = 782) (fun _ _ => False) m m' → mI m' 781 x = (if w = 2 then 1 else if w = 7 then 0 else mI m 781 x) → mI m' 782 x = (if w = 2 ∨ w = 7 then 0 else if w = 5 then 1 else mI m 782 x) → Q (.inl (some (zI 1))) m') : zW xs xl d cX12_goAction 12 (some .boolean) false [] 262 [zR x, zI (w : Int), zI a2, zI a3, zI a4, u] [] m Q := by
  have p288 : ∀ m1 : zM, mC m1 x = 13 → MF x (fun f => f = 782) (fun _ _ => False) m m1 → mI m1 782 x = (if w = 2 ∨ w = 7 then 0 else if w = 5 then 1 else mI m 782 x) → zW xs xl d cX12_goAction 12 (some .boolean) false [] 288 [zR x, zI (w : Int), zI a2, zI a3, zI a4, u] [] m1 Q := by
    intro m1 c1 f1 e1
    have f1' : MF x (fun f => f = 781 ∨ f = 782) (fun _ _ => False) m m1 := f1.mono (fun _ z => Or.inr z) (fun _ _ z => z)
    refine bX12_goAction_288 ⟨fun c => bX12_goAction_299 ⟨fun z => absurd c z, fun z => ⟨c1, hQ _ (f1'.s (Or.inl rfl)) ?_ ((zm_In (by decide)).trans e1)⟩⟩, fun c => ⟨fun c7 => hQ m1 f1' ?_ e1, fun c7 => bX12_goAction_299 ⟨fun z => ⟨c1, hQ _ (f1'.s (Or.inl rfl)) ?_ ((zm_In (by decide)).trans e1)⟩, fun z => absurd c z⟩⟩⟩
    · rw [if_pos (show w = 2 by omega)]; exact zm_Is
    · rw [if_neg (show ¬ w = 2 by omega), if_neg (show ¬ w = 7 by omega)]; exact f1.1 781 x (fun z => absurd z.2 (by decide))
    · rw [if_neg (show ¬ w = 2 by omega), if_pos (show w = 7 by omega)]; exact zm_Is
  have p278 : ∀ m1 : zM, mC m1 x = 13 → MF x (fun f => f = 782) (fun _ _ => False) m m1 → mI m1 782 x = (if w = 2 ∨ w = 7 then 0 else mI m 782 x) → zW xs xl d cX12_goAction 12 (some .boolean) false [] 278 [zR x, zI (w : Int), zI a2, zI a3, zI a4, u] [] m1 Q := by
    intro m1 c1 f1 e1
    refine bX12_goAction_278 ⟨fun c => p288 m1 c1 f1 (e1.trans ?_), fun c => ⟨c1, p288 _ c1 (f1.s rfl) (zm_Is.trans ?_)⟩⟩
    · rw [if_neg (show ¬ w = 5 by omega)]
    · rw [if_neg (show ¬ (w = 2 ∨ w = 7) by omega), if_pos (show w = 5 by omega)]
  refine bX12_goAction_262 ⟨fun c => ⟨hC, p278 _ hC (MF.rfl.s rfl) (zm_Is.trans ?_)⟩, fun c => ⟨fun c7 => p278 m hC MF.rfl ?_, fun c7 => ⟨hC, p278 _ hC (MF.rfl.s rfl) (zm_Is.trans ?_)⟩⟩⟩
  · rw [if_pos (show w = 2 ∨ w = 7 by omega)]
  · rw [if_neg (show ¬ (w = 2 ∨ w = 7) by omega)]
  · rw [if_pos (show w = 2 ∨ w = 7 by omega)]
end ZRH
