/-! the store: itself at s, its row at s + 1, plank i at s + 2 + 2 i -/
theorem Pk.sI {m : zM} {a b f : Nat} {v : Int} {y : zPk} (h : Pk m a y) (hb : b < a) : Pk (sI m f b v) a y := h.mv (Nat.le_refl _) ⟨fun g => if_neg (fun q : g = f ∧ a = b => by omega), fun _ => rfl, fun _ => rfl, fun _ => rfl, rfl, rfl⟩ ⟨fun g => if_neg (fun q : g = f ∧ a + 1 = b => by omega), fun _ => rfl, fun _ => rfl, fun _ => rfl, rfl, rfl⟩
def StC (m : zM) (s : Nat) (w : Int) (n c : Nat) (y : Nat → zPk) : Prop := (mC m s = 8 ∧ mR m 448 s = s + 1 ∧ mC m (s + 1) = 34 ∧ mN m (s + 1) = 60 ∧ s + 122 ≤ mz m) ∧ (mI m 449 s = n ∧ mI m 450 s = w ∧ n ≤ 60) ∧ ∀ i, i < 60 → mO m (s + 1) i = s + 2 + 2 * i ∧ ∃ v, Pk m (s + 2 + 2 * i) v ∧ (i < c → v = y i)
abbrev St (m : zM) (s : Nat) (w : Int) (n : Nat) (y : Nat → zPk) : Prop := StC m s w n n y
abbrev stOk (n : Nat) (y : Nat → zPk) : Prop := ∀ i, i < n → pkOk (y i)
theorem StC.at {m : zM} {s n c i : Nat} {w : Int} {y : Nat → zPk} (h : StC m s w n c y) (hi : i < c) (h6 : i < 60) : mO m (s + 1) i = s + 2 + 2 * i ∧ Pk m (s + 2 + 2 * i) (y i) := by
  obtain ⟨h1, v, h2, h3⟩ := h.2.2 i h6
  rw [h3 hi] at h2
  exact ⟨h1, h2⟩
theorem StC.mv {m m' : zM} {s n c : Nat} {w : Int} {y : Nat → zPk} (h : StC m s w n c y) (hz : mz m ≤ mz m') (e : ∀ b, s ≤ b → b < s + 122 → Eqv m m' b) : StC m' s w n c y := by
  have e0 := e s (by omega) (by omega)
  have e1 := e (s + 1) (by omega) (by omega)
  obtain ⟨⟨h1, h2, h3, h4, h5⟩, h6, hp⟩ := h
  unfold StC
  rw [e0.1, e0.1, e0.2.1, e0.2.2.2.2.1, e1.2.2.2.2.1, e1.2.2.2.2.2]
  refine ⟨⟨h1, h2, h3, h4, Nat.le_trans h5 hz⟩, h6, fun i hi => ?_⟩
  obtain ⟨g1, v, g2, g3⟩ := hp i hi
  rw [e1.2.2.2.1]
  exact ⟨g1, v, g2.mv hz (e _ (by omega) (by omega)) (e _ (by omega) (by omega)), g3⟩
theorem StC.fr {m m' : zM} {s n c k u : Nat} {w : Int} {y : Nat → zPk} {S : Nat → Prop} (h : StC m s w n c y) (f : Fr S k u m m') (hS : ∀ b, s ≤ b → b < s + 122 → ¬ S b) : StC m' s w n c y := h.mv f.2.1 (fun b h1 h2 => f.1 b (by have := h.1.2.2.2.2; omega) (hS b h1 h2))
theorem StC.cg {m : zM} {s n c : Nat} {w : Int} {y z : Nat → zPk} (h : StC m s w n c y) (e : ∀ i, i < c → z i = y i) : StC m s w n c z := ⟨h.1, h.2.1, fun i hi => by
  obtain ⟨g1, v, g2, g3⟩ := h.2.2 i hi
  exact ⟨g1, v, g2, fun hc => (g3 hc).trans (e i hc).symm⟩⟩
theorem StC.zero {m : zM} {s n c : Nat} {w : Int} {y : Nat → zPk} (h : StC m s w n c y) (z : Nat → zPk) : StC m s w n 0 z := ⟨h.1, h.2.1, fun i hi => by
  obtain ⟨g1, v, g2, g3⟩ := h.2.2 i hi
  exact ⟨g1, v, g2, fun hc => absurd hc (by omega)⟩⟩
/-- one plank changed, the c-th also when it was not known -/
theorem StC.set {m m' : zM} {s n c i k u : Nat} {w : Int} {y : Nat → zPk} (h : StC m s w n c y) (hi : i < 60) (f : Fr (rg (s + 2 + 2 * i) (s + 2 + 2 * i + 2)) k u m m') {z : Nat → zPk} {c' : Nat} (hv : Pk m' (s + 2 + 2 * i) (z i)) (hz : ∀ j, j < c' → j ≠ i → j < c ∧ z j = y j) : StC m' s w n c' z := by
  obtain ⟨⟨h1, h2, h3, h4, h5⟩, h6, hp⟩ := h
  have e : ∀ b, b < s + 122 → ¬ (s + 2 + 2 * i ≤ b ∧ b < s + 2 + 2 * i + 2) → Eqv m m' b := fun b hb hn => f.1 b (by omega) hn
  have e0 := e s (by omega) (by omega)
  have e1 := e (s + 1) (by omega) (by omega)
  unfold StC
  rw [e0.1, e0.1, e0.2.1, e0.2.2.2.2.1, e1.2.2.2.2.1, e1.2.2.2.2.2]
  refine ⟨⟨h1, h2, h3, h4, Nat.le_trans h5 f.2.1⟩, h6, fun j hj => ?_⟩
  obtain ⟨g1, v, g2, g3⟩ := hp j hj
  rw [e1.2.2.2.1]
  refine ⟨g1, ?_⟩
  by_cases cc : j = i
  · subst cc
    exact ⟨_, hv, fun _ => rfl⟩
  · refine ⟨v, g2.mv f.2.1 (e _ (by omega) (by omega)) (e _ (by omega) (by omega)), fun hc => ?_⟩
    obtain ⟨q1, q2⟩ := hz j hc cc
    rw [q2]; exact g3 q1
theorem StC.up {m m' : zM} {s n c i k u : Nat} {w : Int} {y : Nat → zPk} {v : zPk} (h : StC m s w n c y) (hi : i < 60) (f : Fr (rg (s + 2 + 2 * i) (s + 2 + 2 * i + 2)) k u m m') (hv : Pk m' (s + 2 + 2 * i) v) : StC m' s w n c (up1 y i v) := by
  have e9 : up1 y i v i = v := if_pos rfl
  exact h.set hi f (by rw [e9]; exact hv) (fun j hj hn => ⟨hj, if_neg hn⟩)
theorem StC.app {m m' : zM} {s n c k u : Nat} {w : Int} {y : Nat → zPk} {v : zPk} (h : StC m s w n c y) (hi : c < 60) (f : Fr (rg (s + 2 + 2 * c) (s + 2 + 2 * c + 2)) k u m m') (hv : Pk m' (s + 2 + 2 * c) v) : StC m' s w n (c + 1) (up1 y c v) := by
  have e9 : up1 y c v c = v := if_pos rfl
  exact h.set hi f (by rw [e9]; exact hv) (fun j hj hn => ⟨by omega, if_neg hn⟩)
theorem StC.n {m : zM} {s n c n' : Nat} {w v : Int} {y : Nat → zPk} (h : StC m s w n c y) (hn : n' ≤ 60) (e : v = n') : StC (sI m 449 s v) s w n' c y := by
  obtain ⟨⟨h1, h2, h3, h4, h5⟩, ⟨h6, h7, h8⟩, hp⟩ := h
  refine ⟨⟨h1, h2, h3, h4, h5⟩, ⟨?_, ?_, hn⟩, fun i hi => ?_⟩
  · rw [zm_Is, e]
  · rw [zm_In (by decide), h7]
  · obtain ⟨g1, v, g2, g3⟩ := hp i hi
    exact ⟨g1, v, g2.sI (by omega), g3⟩
theorem StC.w {m : zM} {s n c : Nat} {w v : Int} {y : Nat → zPk} (h : StC m s w n c y) : StC (sI m 450 s v) s v n c y := by
  obtain ⟨⟨h1, h2, h3, h4, h5⟩, ⟨h6, h7, h8⟩, hp⟩ := h
  refine ⟨⟨h1, h2, h3, h4, h5⟩, ⟨?_, ?_, h8⟩, fun i hi => ?_⟩
  · rw [zm_In (by decide), h6]
  · rw [zm_Is]
  · obtain ⟨g1, v, g2, g3⟩ := hp i hi
    exact ⟨g1, v, g2.sI (by omega), g3⟩
def bestF (y : Nat → zPk) (w l : Int) : Nat → Int
  | 0 => -1
  | i + 1 => if (y i).1 = w ∧ (bestF y w l i < 0 ∨ (y i).2.1 < (y (bestF y w l i).toNat).2.1) ∧ 0 ≤ clearL (y i).2.1 l 0 (y i).2.2.2 then (i : Int) else bestF y w l i
theorem bestF_s (y : Nat → zPk) (w l : Int) (i : Nat) : bestF y w l (i + 1) = if (y i).1 = w ∧ (bestF y w l i < 0 ∨ (y i).2.1 < (y (bestF y w l i).toNat).2.1) ∧ 0 ≤ clearL (y i).2.1 l 0 (y i).2.2.2 then (i : Int) else bestF y w l i := rfl
theorem bestF_in (y : Nat → zPk) (w l : Int) : ∀ i : Nat, -1 ≤ bestF y w l i ∧ bestF y w l i < i
  | 0 => by show -1 ≤ (-1 : Int) ∧ (-1 : Int) < 0; omega
  | i + 1 => by
    have h := bestF_in y w l i
    rw [bestF_s]
    split <;> omega
def wetF (y : zPk) : zPk := if y.2.1 ≤ 0 then y else (y.1, y.2.1, nearF y.2.2.1 15 1, y.2.2.2)
/-- the first i of a row done -/
def fstN {α : Type} (g y : Nat → α) (i : Nat) : Nat → α := fun j => if j < i then g j else y j
theorem fstN_0 {α : Type} {g y : Nat → α} : fstN g y 0 = y := by funext j; exact if_neg (by omega)
theorem fstN_s {α : Type} {g y : Nat → α} {i : Nat} : up1 (fstN g y i) i (g i) = fstN g y (i + 1) := by
  funext j
  show (if j = i then g i else if j < i then g j else y j) = if j < i + 1 then g j else y j
  by_cases c : j = i
  · rw [if_pos c, if_pos (by omega), c]
  · rw [if_neg c]
    by_cases c2 : j < i
    · rw [if_pos c2, if_pos (by omega)]
    · rw [if_neg c2, if_neg (by omega)]
theorem fstN_at {α : Type} {g y : Nat → α} {i : Nat} : fstN g y i i = y i := if_neg (by omega)
def sumL (y : Nat → zPk) : Nat → Int
  | 0 => 0
  | i + 1 => wr (sumL y i + (y i).2.1)
section ZST
variable {xs : Nat → Int} {xl d : Nat} {m : zM} {Q : zRes → zM → Prop}
theorem C_stAdd {s n : Nat} {w a l t : Int} {y : Nat → zPk} (h : St m s w n y) (hn : n < 60) (hQ : ∀ m', St m' s w (n + 1) (up1 y n (a, l, t, [])) → Fr (rg s (s + 122)) 0 0 m m' → Q (.inl (some (zI (n : Int)))) m') : zC xs xl (d + 2) 75 [zR s, zI a, zI l, zI t] m Q := by
  have h0 := h
  obtain ⟨⟨h1, h2, h3, h4, h5⟩, ⟨j0, j1, j2⟩, hp⟩ := h
  obtain ⟨g1, v0, g2, g3⟩ := hp n hn
  have hr : rg s (s + 122) s := by unfold rg; omega
  refine bX7_add_0 ⟨h1, fun _ => ⟨by rw [h2, h3]; decide, by rw [h2, h4, j0]; omega, ?_⟩, fun c => absurd (by rw [j0]; omega) c⟩
  rw [h2, j0, Int.toNat_natCast, g1]
  refine ⟨g2.1.1, C_become g2 (fun m4 p4 _ f4 => ?_)⟩
  have s4 := h0.app hn f4 p4
  refine ⟨rfl, s4.1.1, ?_⟩
  rw [s4.2.1.1, wr_s (by omega)]
  have e : wr (((n + 1 : Nat) : Int) - 1) = (n : Int) := by rw [wr_id (by omega) (by omega)]; omega
  rw [e]
  exact hQ _ (s4.n (by omega) rfl) ((f4.rg (by omega) (by omega)).sI hr)
theorem C_plankFor {s n : Nat} {w a l : Int} {y : Nat → zPk} (h : St m s w n y) (ho : stOk n y) (hQ : Q (.inl (some (zI (bestF y a l n)))) m) : zC xs xl (d + 2) 76 [zR s, zI a, zI l] m Q := by
  have hp : ∀ i, i < n → mO m (s + 1) i = s + 2 + 2 * i ∧ Pk m (s + 2 + 2 * i) (y i) := fun i hi => h.at hi (by have := h.2.1.2.2; omega)
  obtain ⟨⟨h1, h2, h3, h4, h5⟩, ⟨j0, j1, j2⟩, -⟩ := h
  have lp : ∀ (k i : Nat), i + k = n → ∀ (a5 a6 : zV), zW xs xl (d + 1) cX7_plankFor 7 (some .int) false [] 5 [zR s, zI a, zI l, zI (bestF y a l i), zI (i : Int), a5, a6] [] m Q := by
    intro k
    induction k with
    | zero =>
      intro i e a5 a6
      refine bX7_plankFor_5 ⟨h1, fun _ => ?_, fun c => absurd ?_ c⟩
      · rw [show i = n by omega]; exact hQ
      · rw [j0]; omega
    | succ k ih =>
      intro i e a5 a6
      have hi := hp i (by omega)
      have pk := hi.2
      have hb := bestF_in y a l i
      have nx : ∀ (b : Int) (u v : zV), bestF y a l (i + 1) = b → zW xs xl (d + 1) cX7_plankFor 7 (some .int) false [] 5 [zR s, zI a, zI l, zI b, zI (wr ((i : Int) + 1)), u, v] [] m Q := by
        intro b u v hb2
        rw [← hb2, wr_s (by omega)]
        exact ih (i + 1) (by omega) u v
      have h44 : (bestF y a l i < 0 ∨ (y i).2.1 < (y (bestF y a l i).toNat).2.1) → ∀ a6, zW xs xl (d + 1) cX7_plankFor 7 (some .int) false [] 44 [zR s, zI a, zI l, zI (bestF y a l i), zI (i : Int), zR (s + 2 + 2 * i), a6] [] m Q := by
        intro hc a6
        refine bX7_plankFor_44 ⟨pk.1.1, fun c => ?_, fun c => ?_⟩
        · rw [pk.2.1.1] at c
          exact nx _ _ _ (by rw [bestF_s, if_neg (fun q => c q.1)])
        · rw [pk.2.1.1] at c
          refine C_clearPlaceFor pk (ho i (by omega)) ⟨_, rfl, fun c2 => nx _ _ _ ?_, fun c2 => nx _ _ _ ?_⟩
          · rw [bestF_s, if_neg (fun q => by have := q.2.2; omega)]
          · rw [bestF_s, if_pos ⟨Decidable.not_not.mp c, hc, by omega⟩]
      refine bX7_plankFor_5 ⟨h1, fun c => absurd c (by rw [j0]; omega), fun _ => ⟨by rw [h2, h3]; decide, by rw [h2, h4]; omega, ?_⟩⟩
      rw [h2, Int.toNat_natCast, hi.1]
      refine ⟨fun c => h44 (Or.inl c) _, fun c => ?_⟩
      have hq := hp (bestF y a l i).toNat (by omega)
      rw [hq.1, pk.2.1.1, pk.2.1.2.1, hq.2.2.1.2.1]
      refine ⟨pk.1.1, by rw [h4]; omega, hq.2.1.1, fun c2 => ?_, fun c2 => h44 (Or.inr (by omega)) _⟩
      have hn : bestF y a l (i + 1) = bestF y a l i := by rw [bestF_s, if_neg (fun q => by rcases q.2.1 with q | q <;> omega)]
      exact ⟨fun _ => nx _ _ _ hn, fun _ => nx _ _ _ hn⟩
  exact bX7_plankFor_0 (lp n 0 (by omega) _ _)
theorem C_lengthOfAll {s n : Nat} {w : Int} {y : Nat → zPk} (h : St m s w n y) (hQ : Q (.inl (some (zI (sumL y n)))) m) : zC xs xl (d + 1) 79 [zR s] m Q := by
  have hp : ∀ i, i < n → mO m (s + 1) i = s + 2 + 2 * i ∧ Pk m (s + 2 + 2 * i) (y i) := fun i hi => h.at hi (by have := h.2.1.2.2; omega)
  obtain ⟨⟨h1, h2, h3, h4, h5⟩, ⟨j0, j1, j2⟩, -⟩ := h
  have lp : ∀ (k i : Nat), i + k = n → zW xs xl d cX7_lengthOfAll 7 (some .int) false [] 4 [zR s, zI (sumL y i), zI (i : Int)] [] m Q := by
    intro k
    induction k with
    | zero =>
      intro i e
      refine bX7_lengthOfAll_4 ⟨h1, fun _ => ?_, fun c => absurd ?_ c⟩
      · rw [show i = n by omega]; exact hQ
      · rw [j0]; omega
    | succ k ih =>
      intro i e
      have hi := hp i (by omega)
      refine bX7_lengthOfAll_4 ⟨h1, fun c => absurd c (by rw [j0]; omega), fun _ => ⟨by rw [h2, h3]; decide, by rw [h2, h4]; omega, ?_⟩⟩
      rw [h2, Int.toNat_natCast, hi.1, hi.2.2.1.2.1, wr_s (by omega)]
      exact ⟨hi.2.1.1, ih (i + 1) (by omega)⟩
  exact bX7_lengthOfAll_0 (lp n 0 (by omega))
theorem C_moveWetness {s n : Nat} {w : Int} {y : Nat → zPk} (h : St m s w n y) (ho : stOk n y) (hQ : ∀ m', St m' s w n (fun j => wetF (y j)) → Fr (rg s (s + 122)) 0 0 m m' → Q (.inl none) m') : zC xs xl (d + 2) 78 [zR s] m Q := by
  have lp : ∀ (k i : Nat) (m1 : zM), i + k = n → St m1 s w n (fstN (fun j => wetF (y j)) y i) → Fr (rg s (s + 122)) 0 0 m m1 → zW xs xl (d + 1) cX7_moveWetness 7 (none) false [] 2 [zR s, zI (i : Int)] [] m1 Q := by
    intro k
    induction k with
    | zero =>
      intro i m1 e g f
      rw [show i = n by omega] at g ⊢
      exact bX7_moveWetness_2 ⟨g.1.1, fun _ => hQ m1 (g.cg (fun j hj => (if_pos hj).symm)) f, fun c => absurd (by rw [g.2.1.1]; omega) c⟩
    | succ k ih =>
      intro i m1 e g f
      have g0 := g
      obtain ⟨⟨h1, h2, h3, h4, h5⟩, ⟨j0, j1, j2⟩, hp⟩ := g
      have hi := g0.at (i := i) (by omega) (by omega)
      have ht := ho i (by omega)
      have ht3 := ht.2.2.1
      have hpk : Pk m1 (s + 2 + 2 * i) (y i) := by have := hi.2; rwa [fstN_at] at this
      have hgo : ∀ m2, St m2 s w n (up1 (fstN (fun j => wetF (y j)) y i) i (wetF (y i))) → Fr (rg s (s + 122)) 0 0 m m2 → zW xs xl (d + 1) cX7_moveWetness 7 (none) false [] 2 [zR s, zI (((i + 1 : Nat) : Int))] [] m2 Q := fun m2 g2 f2 => ih (i + 1) m2 (by omega) (by rw [← fstN_s (g := fun j => wetF (y j))]; exact g2) f2
      refine bX7_moveWetness_2 ⟨h1, fun c => absurd c (by rw [j0]; omega), fun _ => ⟨by rw [h2, h3]; decide, by rw [h2, h4]; omega, ?_⟩⟩
      rw [h2, Int.toNat_natCast, hi.1, hpk.2.1.2.1, hpk.2.1.2.2.1, wr_s (by omega)]
      refine ⟨hpk.1.1, fun c => hgo m1 ?_ f, fun c => ?_⟩
      · have e1 : wetF (y i) = y i := if_pos c
        rw [e1]
        exact g0.up (by omega) (Fr.rfl (k := 0) (u := 0)) hpk
      · refine C_nearer (by omega) (by omega) (by omega) ⟨_, rfl, hpk.1.1, hgo _ ?_ (f.sI (by unfold rg; omega))⟩
        have e1 : wetF (y i) = ((y i).1, (y i).2.1, nearF (y i).2.2.1 15 1, (y i).2.2.2) := if_neg c
        rw [e1]
        refine g0.up (by omega) ((Fr.rfl (k := 0) (u := 0)).sI (by unfold rg; omega)) ?_
        unfold Pk at hpk ⊢
        simp [zget, hpk]
        exact hpk.2.2.2
  exact bX7_moveWetness_0 (lp n 0 m (by omega) (by rw [fstN_0]; exact h) Fr.rfl)
theorem C_stCopy {s b n n' c : Nat} {w w' : Int} {y z : Nat → zPk} (h : StC m s w n c y) (g : St m b w' n' z) (hab : s + 122 ≤ b ∨ b + 122 ≤ s) (hQ : ∀ m', St m' s w' n' z → Fr (rg s (s + 122)) 0 0 m m' → Q (.inl none) m') : zC xs xl (d + 3) 80 [zR s, zR b] m Q := by
  have hr : rg s (s + 122) s := by unfold rg; omega
  have lp : ∀ (k i : Nat) (m1 : zM), i + k = n' → StC m1 s w' n' i z → Fr (rg s (s + 122)) 0 0 m m1 → zW xs xl (d + 2) cX7_copyFrom 7 (none) false [] 18 [zR s, zR b, zI (i : Int)] [] m1 Q := by
    intro k
    induction k with
    | zero =>
      intro i m1 e g f
      have ei : i = n' := by omega
      subst ei
      exact bX7_copyFrom_18 ⟨g.1.1, fun _ => hQ m1 g f, fun c => absurd (by rw [g.2.1.1]; omega) c⟩
    | succ k ih =>
      intro i m1 e q f
      have hq := q.2.1.2.2
      have g1 : St m1 b w' n' z := g.fr f (fun c c1 c2 c3 => by unfold rg at c3; omega)
      obtain ⟨hi1, v, hi2, hi3⟩ := q.2.2 i (by omega)
      have gi := g1.at (i := i) (by omega) (by omega)
      refine bX7_copyFrom_18 ⟨q.1.1, fun c => absurd c (by rw [q.2.1.1]; omega), fun _ => ⟨by rw [q.1.2.1, q.1.2.2.1]; decide, by rw [q.1.2.1, q.1.2.2.2.1]; omega, g1.1.1, by rw [g1.1.2.1, g1.1.2.2.1]; decide, by rw [g1.1.2.1, g1.1.2.2.2.1]; omega, ?_⟩⟩
      rw [q.1.2.1, g1.1.2.1, Int.toNat_natCast, hi1, gi.1, wr_s (by omega)]
      refine ⟨hi2.1.1, C_pkCopy hi2 gi.2 (by omega) (fun m2 p2 f2 => ⟨rfl, ih (i + 1) m2 (by omega) ?_ (f.tr0 (f2.rg (by omega) (by omega)))⟩)⟩
      exact q.set (by omega) f2 p2 (fun j hj hn => ⟨by omega, rfl⟩)
  refine bX7_copyFrom_0 ⟨g.1.1, h.1.1, ?_⟩
  rw [g.2.1.1, g.2.1.2.1]
  exact lp n' 0 _ (by omega) (((h.n g.2.1.2.2 rfl).w).zero z) ((Fr.rfl.sI hr).sI hr)
end ZST
