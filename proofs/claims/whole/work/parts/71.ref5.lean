/-- the cells C and the numbers I of b alone are changed -/
def MF (b : Nat) (I : Nat → Prop) (C : Nat → Nat → Prop) (m m' : zM) : Prop := (∀ f a, ¬ (a = b ∧ I f) → mI m' f a = mI m f a) ∧ (mR m' = mR m ∧ mO m' = mO m ∧ mC m' = mC m ∧ mN m' = mN m ∧ mz m' = mz m ∧ mc m' = mc m ∧ mu m' = mu m) ∧ ∀ a j, ¬ C a j → mA m' a j = mA m a j
theorem MF.rfl {b : Nat} {I : Nat → Prop} {C : Nat → Nat → Prop} {m : zM} : MF b I C m m := ⟨fun _ _ _ => Eq.refl _, ⟨Eq.refl _, Eq.refl _, Eq.refl _, Eq.refl _, Eq.refl _, Eq.refl _, Eq.refl _⟩, fun _ _ _ => Eq.refl _⟩
theorem MF.tr {b : Nat} {I : Nat → Prop} {C : Nat → Nat → Prop} {m m1 m2 : zM} (h : MF b I C m m1) (g : MF b I C m1 m2) : MF b I C m m2 := ⟨fun f a q => (g.1 f a q).trans (h.1 f a q), ⟨g.2.1.1.trans h.2.1.1, g.2.1.2.1.trans h.2.1.2.1, g.2.1.2.2.1.trans h.2.1.2.2.1, g.2.1.2.2.2.1.trans h.2.1.2.2.2.1, g.2.1.2.2.2.2.1.trans h.2.1.2.2.2.2.1, g.2.1.2.2.2.2.2.1.trans h.2.1.2.2.2.2.2.1, g.2.1.2.2.2.2.2.2.trans h.2.1.2.2.2.2.2.2⟩, fun a j q => (g.2.2 a j q).trans (h.2.2 a j q)⟩
theorem MF.mono {b : Nat} {I I' : Nat → Prop} {C C' : Nat → Nat → Prop} {m m' : zM} (h : MF b I C m m') (hI : ∀ f, I f → I' f) (hC : ∀ a j, C a j → C' a j) : MF b I' C' m m' := ⟨fun f a q => h.1 f a (fun z => q ⟨z.1, hI f z.2⟩), h.2.1, fun a j q => h.2.2 a j (fun z => q (hC a j z))⟩
theorem MF.w {b a j : Nat} {u : Int} {I : Nat → Prop} {C : Nat → Nat → Prop} {m m1 : zM} (h : MF b I C m m1) (hc : C a j) : MF b I C m (sA m1 a j u) := ⟨h.1, h.2.1, fun c i q => (if_neg (fun z : c = a ∧ i = j => q (by rw [z.1, z.2]; exact hc)) : (if c = a ∧ i = j then u else mA m1 c i) = mA m1 c i).trans (h.2.2 c i q)⟩
theorem MF.s {b f : Nat} {u : Int} {I : Nat → Prop} {C : Nat → Nat → Prop} {m m1 : zM} (h : MF b I C m m1) (hI : I f) : MF b I C m (sI m1 f b u) := ⟨fun g a q => (if_neg (fun z : g = f ∧ a = b => q ⟨z.2, by rw [z.1]; exact hI⟩) : (if g = f ∧ a = b then u else mI m1 g a) = mI m1 g a).trans (h.1 g a q), h.2⟩
theorem MF.rf {b : Nat} {I : Nat → Prop} {C : Nat → Nat → Prop} {m m' : zM} (h : MF b I C m m') (g : RF m b) : RF m' b := g.mv h.2.1.1 h.2.1.2.2.1 h.2.1.2.2.2.1 h.2.1.2.2.2.2.1
abbrev pJ (f : Nat) : Prop := f = 705 ∨ f = 738
def pCs (b a j : Nat) : Prop := b + 1 ≤ a ∧ a ≤ b + 5
theorem pC_s {b i a j : Nat} (h : pC b i a j) : pCs b a j := by
  unfold pC at h
  unfold pCs
  omega
section ZRE
variable {xs : Nat → Int} {xl d : Nat} {m : zM} {Q : zRes → zM → Prop}
theorem R_add {b n : Nat} {w l t : Int} (hF : RF m b) (hn : mI m 705 b = n) (h60 : n < 60) (hQ : ∀ m', RP m' b n (w, l, t, []) → mI m' 705 b = (n + 1 : Nat) → mI m' 738 b = mI m 738 b → MF b pJ (pC b n) m m' → Q (.inl (some (zI (n : Int)))) m') : zC xs xl (d + 1) 137 [zR b, zI w, zI l, zI t] m Q := by
  obtain ⟨r1, k1, n1⟩ := hF.at (by decide : (706, 1, 20, 60) ∈ rTab)
  obtain ⟨r2, k2, n2⟩ := hF.at (by decide : (707, 2, 20, 60) ∈ rTab)
  obtain ⟨r3, k3, n3⟩ := hF.at (by decide : (708, 3, 20, 60) ∈ rTab)
  obtain ⟨r4, k4, n4⟩ := hF.at (by decide : (709, 4, 20, 60) ∈ rTab)
  refine bX11_add_0 ?_
  rw [hn, r1, k1, n1, r2, k2, n2, r3, k3, n3, r4, k4, n4, Int.toNat_natCast, wr_s (by omega), show wr (((n + 1 : Nat) : Int) - 1) = (n : Int) by rw [wr_id (by omega) (by omega)]; omega]
  refine ⟨hF.1, by omega, rfl, by omega, rfl, by omega, rfl, by omega, rfl, hQ _ ⟨⟨?_, ?_, ?_, ?_, Nat.zero_le _⟩, [], List.Perm.refl _, fun j q hq => absurd hq (by simp)⟩ zm_Is (zm_In (by decide)) (((((MF.rfl.w (Or.inl (by omega))).w (Or.inl (by omega))).w (Or.inl (by omega))).w (Or.inl (by omega))).s (Or.inl rfl))⟩
  · show mA (sA (sA (sA (sA m (b + 1) n w) (b + 2) n l) (b + 3) n t) (b + 4) n 0) (b + 1) n = w
    rw [(Eqv.nA (by omega)).2.2.1, (Eqv.nA (by omega)).2.2.1, (Eqv.nA (by omega)).2.2.1, zm_As]
  · show mA (sA (sA (sA (sA m (b + 1) n w) (b + 2) n l) (b + 3) n t) (b + 4) n 0) (b + 2) n = l
    rw [(Eqv.nA (by omega)).2.2.1, (Eqv.nA (by omega)).2.2.1, zm_As]
  · show mA (sA (sA (sA (sA m (b + 1) n w) (b + 2) n l) (b + 3) n t) (b + 4) n 0) (b + 3) n = t
    rw [(Eqv.nA (by omega)).2.2.1, zm_As]
  · show mA (sA (sA (sA (sA m (b + 1) n w) (b + 2) n l) (b + 3) n t) (b + 4) n 0) (b + 4) n = 0
    rw [zm_As]
theorem R_addKnot {b i : Nat} {y : zPk} {p : Int} {kl : List Int} (hF : RF m b) (h : mA m (b + 1) i = y.1 ∧ mA m (b + 2) i = y.2.1 ∧ mA m (b + 3) i = y.2.2.1 ∧ mA m (b + 4) i = kl.length) (hk : ∀ (j : Nat) (q : Int), kl[j]? = some q → mA m (b + 5) (8 * i + j) = q) (hi : i < 60) (hl : kl.length < 8) (hQ : ∀ m', (mA m' (b + 1) i = y.1 ∧ mA m' (b + 2) i = y.2.1 ∧ mA m' (b + 3) i = y.2.2.1 ∧ mA m' (b + 4) i = (kl ++ [p]).length) → (∀ (j : Nat) (q : Int), (kl ++ [p])[j]? = some q → mA m' (b + 5) (8 * i + j) = q) → MF b (fun _ => False) (pC b i) m m' → Q (.inl none) m') : zC xs xl (d + 1) 138 [zR b, zI (i : Int), zI p] m Q := by
  obtain ⟨r1, k1, n1⟩ := hF.at (by decide : (709, 4, 20, 60) ∈ rTab)
  obtain ⟨r2, k2, n2⟩ := hF.at (by decide : (710, 5, 20, 480) ∈ rTab)
  obtain ⟨h1, h2, h3, h4⟩ := h
  have el : (kl ++ [p]).length = kl.length + 1 := by rw [List.length_append]; rfl
  refine bX11_addKnot_0 ?_
  rw [r1, k1, n1, r2, k2, n2, Int.toNat_natCast, h4, wr_8i hi (by omega), Int.toNat_natCast, (Eqv.nA (show b + 4 ≠ b + 5 by omega)).2.2.1, h4, wr_s (by omega)]
  refine ⟨hF.1, rfl, by omega, by omega, rfl, hQ _ ⟨?_, ?_, ?_, ?_⟩ (fun j q hq => ?_) ((MF.rfl.w (Or.inr (by omega))).w (Or.inl (by omega)))⟩
  · rw [(Eqv.nA (by omega)).2.2.1, (Eqv.nA (by omega)).2.2.1]; exact h1
  · rw [(Eqv.nA (by omega)).2.2.1, (Eqv.nA (by omega)).2.2.1]; exact h2
  · rw [(Eqv.nA (by omega)).2.2.1, (Eqv.nA (by omega)).2.2.1]; exact h3
  · rw [zm_As, el]
  · rw [(Eqv.nA (show b + 5 ≠ b + 4 by omega)).2.2.1]
    by_cases c : j = kl.length
    · subst c
      rw [List.getElem?_append_right (Nat.le_refl _), Nat.sub_self] at hq
      rw [zm_As]; exact Option.some.inj hq
    · have hlt := (List.getElem?_eq_some_iff.mp hq).1
      rw [el] at hlt
      rw [List.getElem?_append_left (by omega)] at hq
      rw [zm_An (by omega)]; exact hk j q hq
theorem filterMap_end (kl : List Int) (n : Int) (k : Int) : ((kl ++ [k]).filter (fun q => decide (n ≤ q))).map (fun q => q - n) = if n ≤ k then (kl.filter (fun q => decide (n ≤ q))).map (fun q => q - n) ++ [k - n] else (kl.filter (fun q => decide (n ≤ q))).map (fun q => q - n) := endL kl n k
/-- what is left of the plank itself -/
theorem R_cutTail {b i : Nat} {y : zPk} {n : Int} {kl : List Int} {p l u4 : Int} {u7 : zV} (hF : RF m b) (hi : i < 60) (h : mA m (b + 1) i = y.1 ∧ mA m (b + 2) i = n ∧ mA m (b + 3) i = y.2.2.1 ∧ mA m (b + 4) i = kl.length) (hk : ∀ (j : Nat) (q : Int), kl[j]? = some q → mA m (b + 5) (8 * i + j) = q) (hp : kl.Perm y.2.2.2) (hl : y.2.2.2.length ≤ 8) (hQ : ∀ m', RP m' b i (shortF y n) → MF b (fun _ => False) (pC b i) m m' → Q (.inl none) m') : zW xs xl d cX11_cutOut 11 (none) false [] 158 [zR b, zI (i : Int), zI p, zI l, zI u4, zI 0, zI 0, u7] [] m Q := by
  obtain ⟨r1, k1, n1⟩ := hF.at (by decide : (709, 4, 20, 60) ∈ rTab)
  obtain ⟨r2, k2, n2⟩ := hF.at (by decide : (710, 5, 20, 480) ∈ rTab)
  obtain ⟨r3, k3, n3⟩ := hF.at (by decide : (707, 2, 20, 60) ∈ rTab)
  obtain ⟨h1, h2, h3, h4⟩ := h
  have hlen := hp.length_eq
  have lp : ∀ (t s : List Int) (m1 : zM) (u7 : zV), kl = s ++ t → (∀ (j : Nat) (q : Int), (s.filter (fun k => decide (k < n)))[j]? = some q → mA m1 (b + 5) (8 * i + j) = q) → (∀ (j : Nat) (q : Int), t[j]? = some q → mA m1 (b + 5) (8 * i + s.length + j) = q) → MF b (fun _ => False) (fun a j => a = b + 5 ∧ 8 * i ≤ j ∧ j < 8 * i + 8) m m1 → zW xs xl d cX11_cutOut 11 (none) false [] 158 [zR b, zI (i : Int), zI p, zI l, zI u4, zI ((s.filter (fun k => decide (k < n))).length : Int), zI (s.length : Int), u7] [] m1 Q := by
    intro t
    induction t with
    | nil =>
      intro s m1 u7 e hs ht f
      rw [List.append_nil] at e
      have g4 : mA m1 (b + 4) i = kl.length := by rw [f.2.2 _ _ (fun z => by omega)]; exact h4
      have hfl : (s.filter (fun k => decide (k < n))).length ≤ s.length := List.length_filter_le _ _
      have hpf : (s.filter (fun k => decide (k < n))).Perm (y.2.2.2.filter (fun k => decide (k < n))) := by rw [← e]; exact hp.filter _
      refine bX11_cutOut_158 ⟨(f.rf hF).1, ?_⟩
      rw [f.2.1.1, f.2.1.2.2.1, f.2.1.2.2.2.1, r1, k1, n1, Int.toNat_natCast, g4]
      refine ⟨rfl, by omega, fun _ => hQ _ ⟨⟨?_, ?_, ?_, ?_, ?_⟩, s.filter (fun k => decide (k < n)), hpf, fun j q hq => ?_⟩ ((f.mono (fun _ z => z) (fun a j z => Or.inr z)).w (Or.inl (by omega))), fun z => absurd (by rw [e]; exact Int.le_refl _) z⟩
      · rw [(Eqv.nA (by omega)).2.2.1, f.2.2 _ _ (fun z => by omega)]; exact h1
      · rw [(Eqv.nA (by omega)).2.2.1, f.2.2 _ _ (fun z => by omega)]; exact h2
      · rw [(Eqv.nA (by omega)).2.2.1, f.2.2 _ _ (fun z => by omega)]; exact h3
      · rw [zm_As]; exact congrArg (fun z : Nat => (z : Int)) hpf.length_eq
      · show (y.2.2.2.filter (fun k => decide (k < n))).length ≤ 8
        have : (y.2.2.2.filter (fun k => decide (k < n))).length ≤ y.2.2.2.length := List.length_filter_le _ _
        omega
      · rw [(Eqv.nA (by omega)).2.2.1]; exact hs j q hq
    | cons k t ih =>
      intro s m1 u7 e hs ht f
      have g4 : mA m1 (b + 4) i = kl.length := by rw [f.2.2 _ _ (fun z => by omega)]; exact h4
      have g2 : mA m1 (b + 2) i = n := by rw [f.2.2 _ _ (fun z => by omega)]; exact h2
      have hfl : (s.filter (fun k => decide (k < n))).length ≤ s.length := List.length_filter_le _ _
      have hln : kl.length = s.length + (t.length + 1) := by rw [e, List.length_append, List.length_cons]
      have es : (s ++ [k]).length = s.length + 1 := by rw [List.length_append]; rfl
      have ee : kl = (s ++ [k]) ++ t := by rw [e, List.append_assoc]; rfl
      have hat : mA m1 (b + 5) (8 * i + s.length) = k := by have := ht 0 k rfl; rwa [Nat.add_zero] at this
      have ef : (s ++ [k]).filter (fun k => decide (k < n)) = if k < n then s.filter (fun k => decide (k < n)) ++ [k] else s.filter (fun k => decide (k < n)) := by
        rw [List.filter_append]
        by_cases c : k < n
        · rw [if_pos c, List.filter_cons_of_pos (by simpa using c), List.filter_nil]
        · rw [if_neg c, List.filter_cons_of_neg (by simpa using c), List.filter_nil, List.append_nil]
      have hn := ih (s ++ [k])
      rw [es, ef] at hn
      refine bX11_cutOut_158 ⟨(f.rf hF).1, ?_⟩
      rw [f.2.1.1, f.2.1.2.2.1, f.2.1.2.2.2.1, r1, k1, n1, r2, k2, n2, r3, k3, n3, Int.toNat_natCast, g4, g2, wr_8i hi (by omega), Int.toNat_natCast, hat, wr_8i hi (by omega), Int.toNat_natCast, wr_s (by omega), wr_s (by omega)]
      refine ⟨rfl, by omega, fun z => absurd z (by omega), fun _ => ⟨rfl, by omega, rfl, by omega, fun c => ⟨by omega, ?_⟩, fun c => ?_⟩⟩
      · rw [if_pos c] at hn
        have el2 : (s.filter (fun k => decide (k < n)) ++ [k]).length = (s.filter (fun k => decide (k < n))).length + 1 := by rw [List.length_append]; rfl
        rw [el2] at hn
        refine hn _ _ ee (fun j q hq => ?_) (fun j q hq => ?_) (f.w ⟨rfl, by omega, by omega⟩)
        · by_cases cj : j = (s.filter (fun k => decide (k < n))).length
          · subst cj
            rw [List.getElem?_append_right (Nat.le_refl _), Nat.sub_self] at hq
            rw [zm_As]; exact Option.some.inj hq
          · have hlt := (List.getElem?_eq_some_iff.mp hq).1
            rw [el2] at hlt
            rw [List.getElem?_append_left (by omega)] at hq
            rw [zm_An (by omega)]; exact hs j q hq
        · rw [zm_An (by omega)]
          have := ht (j + 1) q hq
          rwa [show 8 * i + s.length + (j + 1) = 8 * i + (s.length + 1) + j by omega] at this
      · rw [if_neg c] at hn
        refine hn m1 _ ee hs (fun j q hq => ?_) f
        have := ht (j + 1) q hq
        rwa [show 8 * i + s.length + (j + 1) = 8 * i + (s.length + 1) + j by omega] at this
  exact lp kl [] m u7 rfl (fun j q hq => absurd hq (by simp)) (fun j q hq => hk j q hq) MF.rfl
theorem R_cutOut {b n i : Nat} {y : Nat → zPk} {w p l : Int} (hF : RF m b) (hn : mI m 705 b = n ∧ n ≤ 60) (hw : mI m 738 b = w) (h : ∀ j, j < n → RP m b j (y j)) (hi : i < n) (ho : pkOk (y i)) (hp : 0 ≤ p ∧ 0 ≤ l ∧ p + l ≤ (y i).2.1) (hQ : ∀ m', (∀ j, j < cutN n (y i) p l → RP m' b j (cutY n y i p l j)) → mI m' 705 b = cutN n (y i) p l → mI m' 738 b = cutW w n (y i) p l → MF b pJ (pCs b) m m' → Q (.inl none) m') : zC xs xl (d + 2) 139 [zR b, zI (i : Int), zI p, zI l] m Q := by
  obtain ⟨r3, k3, n3⟩ := hF.at (by decide : (707, 2, 20, 60) ∈ rTab)
  have h2 := (h i hi).1.2.1
  have hl3 := ho.2.1
  have e1 : wr (wr ((y i).2.1 - p) - l) = (y i).2.1 - (p + l) := by rw [wr_id (x := (y i).2.1 - p) (by omega) (by omega), wr_id (by omega) (by omega)]; omega
  have e2 : wr (p + l) = p + l := wr_id (by omega) (by omega)
  -- behind the new plank
  have h122 : ∀ (m1 : zM) (w1 : Int) (n1 : Nat) (y1 : Nat → zPk) (u v7 : Int) (v5 v6 v8 : zV), n ≤ n1 → n1 ≤ 60 → mI m1 705 b = n1 → mI m1 738 b = w1 → (∀ j, j < n1 → RP m1 b j (y1 j)) → y1 i = y i → MF b pJ (pCs b) m m1 → (∀ m', (∀ j, j < n1 → RP m' b j (up1 y1 i (shortF (y i) (if p < 10 then 0 else p)) j)) → mI m' 705 b = n1 → mI m' 738 b = (if p < 10 then wr (w1 + p) else w1) → MF b pJ (pCs b) m m' → Q (.inl none) m') → zW xs xl (d + 1) cX11_cutOut 11 (none) false [] 122 [zR b, zI (i : Int), zI p, zI l, zI u, v5, v6, v8] [] m1 Q := by
    intro m1 w1 n1 y1 u v7 v5 v6 v8 hn1 h60 g705 g738 g ey f hq
    have gi := g i (by omega)
    rw [ey] at gi
    obtain ⟨⟨g1, g2, g3, g4, g5⟩, kl, g6, g7⟩ := gi
    have hF1 := f.rf hF
    have hlen := g6.length_eq
    have fin : ∀ (m2 : zM) (N : Int), N = (if p < 10 then 0 else p) → mA m2 (b + 2) i = N → MF b pJ (fun a j => a = b + 2 ∧ j = i) m1 m2 → mI m2 705 b = n1 → mI m2 738 b = (if p < 10 then wr (w1 + p) else w1) → ∀ u7, zW xs xl (d + 1) cX11_cutOut 11 (none) false [] 158 [zR b, zI (i : Int), zI p, zI l, zI u, zI 0, zI 0, u7] [] m2 Q := by
      intro m2 N eN a2 f2 x5 x8 u7
      have hF2 := f2.rf hF1
      refine R_cutTail (y := y i) (n := N) (kl := kl) hF2 (by omega) ⟨?_, a2, ?_, ?_⟩ (fun j q hq => ?_) g6 g5 (fun m3 p3 f3 => ?_)
      · rw [f2.2.2 (b + 1) i (fun z => by omega)]; exact g1
      · rw [f2.2.2 (b + 3) i (fun z => by omega)]; exact g3
      · rw [f2.2.2 (b + 4) i (fun z => by omega), hlen]; exact g4
      · rw [f2.2.2 (b + 5) (8 * i + j) (fun z => by omega)]; exact g7 j q hq
      · have f23 : MF b pJ (pC b i) m1 m3 := (f2.mono (fun _ z => z) (fun a j z => Or.inl (by omega))).tr (f3.mono (fun _ z => z.elim) (fun _ _ z => z))
        refine hq m3 (fun j hj => ?_) ((f3.1 705 b (fun z => z.2)).trans x5) ((f3.1 738 b (fun z => z.2)).trans x8) (f.tr (f23.mono (fun _ z => z) (fun a j z => pC_s z)))
        by_cases cj : j = i
        · subst cj
          have e9 : up1 y1 j (shortF (y j) (if p < 10 then 0 else p)) j = shortF (y j) N := by rw [eN]; exact if_pos rfl
          rw [e9]; exact p3
        · have e9 : up1 y1 i (shortF (y i) (if p < 10 then 0 else p)) j = y1 j := if_neg cj
          rw [e9]
          exact (g j hj).mv (fun a k z => f23.2.2 a k (fun z2 => by unfold pC at z z2; omega))
    refine bX11_cutOut_122 ⟨hF1.1, ?_⟩
    rw [f.2.1.1, f.2.1.2.2.1, f.2.1.2.2.2.1, r3, k3, n3, Int.toNat_natCast, g738]
    refine ⟨by omega, rfl, fun c => ?_, fun c => ?_⟩
    · exact fin _ p (by rw [if_neg (by omega)]) zm_As (MF.rfl.w ⟨rfl, rfl⟩) g705 (by rw [if_neg (by omega)]; exact g738) _
    · exact fin _ 0 (by rw [if_pos (by omega)]) zm_As (((MF.rfl.w ⟨rfl, rfl⟩).s (Or.inr rfl)).w ⟨rfl, rfl⟩) ((zm_In (by decide)).trans g705) (by rw [if_pos (by omega)]; exact zm_Is) _
  unfold cutN cutW cutY at hQ
  refine bX11_cutOut_0 ⟨hF.1, ?_⟩
  rw [r3, k3, n3, Int.toNat_natCast, h2, e1, hn.1, hw]
  have hwaste : cutB n (y i) p l → zW xs xl (d + 1) cX11_cutOut 11 (none) false [] 122 [zR b, zI (i : Int), zI p, zI l, zI ((y i).2.1 - (p + l)), zU, zU, zU] [] (sI m 738 b (wr (w + ((y i).2.1 - (p + l))))) Q := by
    intro cb
    rw [if_pos cb, if_pos cb, if_pos cb] at hQ
    exact h122 _ _ n y _ 0 _ _ _ (Nat.le_refl _) hn.2 ((zm_In (by decide)).trans hn.1) zm_Is (fun j hj => h j hj) rfl (MF.rfl.s (Or.inr rfl)) hQ
  refine ⟨rfl, by omega, fun c => hwaste (Or.inl c), fun c => ⟨fun c2 => hwaste (Or.inr (by omega)), fun c2 => ?_⟩⟩
  have cb : ¬ cutB n (y i) p l := fun z => by rcases z with z | z <;> omega
  rw [if_neg cb, if_neg cb, if_neg cb] at hQ
  obtain ⟨r1, k1, n1⟩ := hF.at (by decide : (706, 1, 20, 60) ∈ rTab)
  obtain ⟨r2, k2, n2⟩ := hF.at (by decide : (708, 3, 20, 60) ∈ rTab)
  rw [r1, k1, n1, r2, k2, n2, (h i hi).1.1, (h i hi).1.2.2.1]
  refine ⟨rfl, by omega, rfl, by omega, R_add hF hn.1 (by omega) (fun m8 p8 x5 x8 f8 => ⟨_, rfl, ?_⟩)⟩
  have hi8 : RP m8 b i (y i) := (h i hi).mv (fun a k z => f8.2.2 a k (fun z2 => by unfold pC at z z2; omega))
  obtain ⟨⟨g1, g2, g3, g4, g5⟩, kl, g6, g7⟩ := id hi8
  have hlen := g6.length_eq
  have hF8 := f8.rf hF
  obtain ⟨r4, k4, n4⟩ := hF8.at (by decide : (709, 4, 20, 60) ∈ rTab)
  obtain ⟨r5, k5, n5⟩ := hF8.at (by decide : (710, 5, 20, 480) ∈ rTab)
  obtain ⟨⟨a1, a2, a3, a4, a5⟩, -⟩ := id p8
  have lp : ∀ (t s : List Int) (m1 : zM) (u7 : zV), kl = s ++ t → (mA m1 (b + 1) n = (y i).1 ∧ mA m1 (b + 2) n = (y i).2.1 - (p + l) ∧ mA m1 (b + 3) n = (y i).2.2.1 ∧ mA m1 (b + 4) n = ((s.filter (fun k => decide (p + l ≤ k))).map (fun k => k - (p + l))).length) → (∀ (j : Nat) (q : Int), ((s.filter (fun k => decide (p + l ≤ k))).map (fun k => k - (p + l)))[j]? = some q → mA m1 (b + 5) (8 * n + j) = q) → MF b (fun _ => False) (pC b n) m8 m1 → zW xs xl (d + 1) cX11_cutOut 11 (none) false [] 51 [zR b, zI (i : Int), zI p, zI l, zI ((y i).2.1 - (p + l)), zI (n : Int), zI (s.length : Int), u7] [] m1 Q := by
    intro t
    induction t with
    | nil =>
      intro s m1 u7 e hs ht f
      rw [List.append_nil] at e
      have gi : RP m1 b i (y i) := hi8.mv (fun a k z => f.2.2 a k (fun z2 => by unfold pC at z z2; omega))
      have hpf : ((s.filter (fun k => decide (p + l ≤ k))).map (fun k => k - (p + l))).Perm ((y i).2.2.2.filter (fun k => decide (p + l ≤ k)) |>.map (fun k => k - (p + l))) := by rw [← e]; exact (g6.filter _).map _
      have gn : RP m1 b n (endF (y i) (p + l)) := by
        refine ⟨⟨hs.1, hs.2.1, hs.2.2.1, hs.2.2.2.trans (congrArg (fun z : Nat => (z : Int)) hpf.length_eq), ?_⟩, _, hpf, ht⟩
        show (((y i).2.2.2.filter (fun k => decide (p + l ≤ k))).map (fun k => k - (p + l))).length ≤ 8
        rw [List.length_map]
        have : ((y i).2.2.2.filter (fun k => decide (p + l ≤ k))).length ≤ (y i).2.2.2.length := List.length_filter_le _ _
        omega
      have fm : MF b pJ (pCs b) m m1 := (f8.mono (fun _ z => z) (fun a j z => pC_s z)).tr (f.mono (fun _ z => z.elim) (fun a j z => pC_s z))
      refine bX11_cutOut_51 ⟨(f.rf hF8).1, ?_⟩
      rw [f.2.1.1, f.2.1.2.2.1, f.2.1.2.2.2.1, r4, k4, n4, Int.toNat_natCast, gi.1.2.2.2.1]
      refine ⟨rfl, by omega, fun _ => ?_, fun z => absurd (by rw [← hlen, e]; exact Int.le_refl _) z⟩
      refine h122 m1 w (n + 1) (up1 y n (endF (y i) (p + l))) _ 0 _ _ _ (by omega) (by omega) ((f.1 705 b (fun z => z.2)).trans x5) ((f.1 738 b (fun z => z.2)).trans (x8.trans hw)) (fun j hj => ?_) (if_neg (by omega)) fm hQ
      by_cases cj : j = n
      · rw [cj, show up1 y n (endF (y i) (p + l)) n = endF (y i) (p + l) from if_pos rfl]; exact gn
      · rw [show up1 y n (endF (y i) (p + l)) j = y j from if_neg cj]
        exact (h j (by omega)).mv (fun a k z => (f.2.2 a k (fun z2 => by unfold pC at z z2; omega)).trans (f8.2.2 a k (fun z2 => by unfold pC at z z2; omega)))
    | cons k t ih =>
      intro s m1 u7 e hs ht f
      have gi : RP m1 b i (y i) := hi8.mv (fun a k z => f.2.2 a k (fun z2 => by unfold pC at z z2; omega))
      have hln : kl.length = s.length + (t.length + 1) := by rw [e, List.length_append, List.length_cons]
      have es : (s ++ [k]).length = s.length + 1 := by rw [List.length_append]; rfl
      have ee : kl = (s ++ [k]) ++ t := by rw [e, List.append_assoc]; rfl
      have hat : mA m1 (b + 5) (8 * i + s.length) = k := by
        rw [f.2.2 _ _ (fun z => by unfold pC at z; omega)]
        exact g7 _ _ (by rw [e, List.getElem?_append_right (Nat.le_refl _), Nat.sub_self]; rfl)
      have hkk := ho.2.2.2.1 k (g6.subset (by rw [e]; exact List.mem_append_right _ List.mem_cons_self))
      have ef := filterMap_end s (p + l) k
      have hn2 := ih (s ++ [k])
      rw [es, ef] at hn2
      have hfl : ((s.filter (fun k => decide (p + l ≤ k))).map (fun k => k - (p + l))).length ≤ s.length := by rw [List.length_map]; exact List.length_filter_le _ _
      refine bX11_cutOut_51 ⟨(f.rf hF8).1, ?_⟩
      rw [f.2.1.1, f.2.1.2.2.1, f.2.1.2.2.2.1, r4, k4, n4, r5, k5, n5, Int.toNat_natCast, gi.1.2.2.2.1, wr_8i (by omega) (by omega), Int.toNat_natCast, hat, e2, wr_s (by omega)]
      refine ⟨rfl, by omega, fun z => absurd z (by omega), fun _ => ⟨rfl, by omega, fun c => ?_, fun c => ?_⟩⟩
      · rw [if_neg (by omega)] at hn2
        exact hn2 m1 _ ee hs ht f
      · rw [if_pos (by omega)] at hn2
        rw [wr_id (x := k - p) (by omega) (by omega), wr_id (x := k - p - l) (by omega) (by omega), show k - p - l = k - (p + l) by omega]
        refine R_addKnot (y := ((y i).1, (y i).2.1 - (p + l), (y i).2.2.1, [])) (kl := (s.filter (fun k => decide (p + l ≤ k))).map (fun k => k - (p + l))) (f.rf hF8) hs ht (by omega) (by omega) (fun m2 b1 b2 f2 => ⟨rfl, ?_⟩)
        exact hn2 m2 _ ee b1 b2 (f.tr f2)
  exact lp kl [] m8 _ rfl ⟨a1, a2, a3, a4⟩ (fun j q hq => absurd hq (by simp)) MF.rfl
end ZRE
