/-! the tokens in their order; the form of a plan -/
theorem tokF_in {t : Nat → Int} {n p : Nat} (hp : p ≤ n) : p ≤ (tokF t n p).2.2.2 ∧ (tokF t n p).2.2.2 ≤ n ∧ (tokF t n p).2.2.1 ≤ n := by
  have hb := blankF_in (t := t) (k := n - p) (p := p)
  unfold tokF
  generalize blankF t (n - p) p = s at hb ⊢
  split
  · have hw := wordF_in (t := t) (k := n - s) (p := s) (a := 0)
    have hm := numF_in (t := t) (s := s) (k := n - s) (p := s) (a := 0)
    unfold tokW
    split
    · show p ≤ (wordF t (n - s) s 0).1 ∧ (wordF t (n - s) s 0).1 ≤ n ∧ s ≤ n
      omega
    · split
      · show p ≤ (numF t s (n - s) s 0).1 ∧ (numF t s (n - s) s 0).1 ≤ n ∧ s ≤ n
        omega
      · show p ≤ s + 1 ∧ s + 1 ≤ n ∧ s ≤ n
        omega
  · show p ≤ s ∧ s ≤ n ∧ s ≤ n
    omega
theorem tokF_go {t : Nat → Int} {n p : Nat} (hp : p ≤ n) (h : (tokF t n p).1 ≠ 46) : p < (tokF t n p).2.2.2 := by
  have hb := blankF_in (t := t) (k := n - p) (p := p)
  unfold tokF at h ⊢
  generalize blankF t (n - p) p = s at hb h ⊢
  split
  · rename_i c
    obtain ⟨j, hj⟩ : ∃ j, n - s = j + 1 := ⟨n - s - 1, by omega⟩
    unfold tokW
    split
    · rename_i cl
      show p < (wordF t (n - s) s 0).1
      rw [hj]
      have e1 : wordF t (j + 1) s 0 = wordF t j (s + 1) (pk1 0 (t s)) := if_pos cl
      rw [e1]
      have hw := wordF_in (t := t) (k := j) (p := s + 1) (a := pk1 0 (t s))
      omega
    · split
      · rename_i cd
        show p < (numF t s (n - s) s 0).1
        rw [hj]
        have e1 : numF t s (j + 1) s 0 = numF t s j (s + 1) (if s < s + 3 then wr (wr (wr (0 * 10) + t s) - 48) else 0) := if_pos cd
        rw [e1]
        have hm := numF_in (t := t) (s := s) (k := j) (p := s + 1) (a := (if s < s + 3 then wr (wr (wr (0 * 10) + t s) - 48) else 0))
        omega
      · show p < s + 1
        omega
  · rename_i c
    rw [if_neg c] at h
    exact absurd rfl h
def plF (t : Nat → Int) (n : Nat) : Nat → Nat
  | 0 => 0
  | i + 1 => (tokF t n (plF t n i)).2.2.2
abbrev tkF (t : Nat → Int) (n i : Nat) : Int × Int × Nat × Nat := tokF t n (plF t n i)
theorem plF_in (t : Nat → Int) (n : Nat) : ∀ i, plF t n i ≤ n
  | 0 => Nat.zero_le _
  | i + 1 => (tokF_in (plF_in t n i)).2.1
theorem plF_le (t : Nat → Int) (n i : Nat) : plF t n i ≤ plF t n (i + 1) := (tokF_in (plF_in t n i)).1
theorem plF_go {t : Nat → Int} {n i : Nat} (h : (tkF t n i).1 ≠ 46) : plF t n i < plF t n (i + 1) := tokF_go (plF_in t n i) h
def formI (w : Int) : Nat := if w = 0 ∨ w = 1 then 23 else if w = 2 then 24 else if w = 5 then 25 else if w = 7 then 26 else if w = 8 then 27 else 28
theorem formI_in (w : Int) : 20 ≤ formI w ∧ formI w < 50 := by
  unfold formI
  split
  · omega
  · split
    · omega
    · split
      · omega
      · split
        · omega
        · split <;> omega
def formL (w : Int) : List Int := zSTR (formI w - 20)
def restF (t : Nat → Int) (n : Nat) : List Int → Nat → Bool × Nat
  | [], i => (true, i)
  | k :: r, i => if (tkF t n i).1 = k then restF t n r (i + 1) else (false, i)
def formF (t : Nat → Int) (n : Nat) : Nat → Nat → Nat → Bool → Bool × Nat
  | 0, i, _, _ => (false, i)
  | k + 1, i, dep, hs =>
    if hs = true ∧ dep = 0 ∧ (tkF t n i).1 = 46 then (true, i)
    else if hs = true ∧ 0 < dep ∧ (tkF t n i).1 = 125 then formF t n k (i + 1) (dep - 1) true
    else if (tkF t n i).1 ≠ 115 then (false, i)
    else if (restF t n (formL (tkF t n i).2.1) (i + 1)).1 = true then formF t n k (restF t n (formL (tkF t n i).2.1) (i + 1)).2 (if (tkF t n i).2.1 = 8 then dep + 1 else dep) (if (tkF t n i).2.1 = 8 then false else true)
    else (false, (restF t n (formL (tkF t n i).2.1) (i + 1)).2)
abbrev ScT (m : zM) (a tp : Nat) (t : Nat → Int) (n i : Nat) : Prop := Sc m a tp (plF t n (i + 1)) (tkF t n i).1 (tkF t n i).2.1 (tkF t n i).2.2.1
def Cp (m : zM) (c tp : Nat) : Prop := (mC m c = 2 ∧ mR m 64 c = tp ∧ mR m 65 c = c + 5 ∧ mR m 66 c = c + 1 ∧ mR m 67 c = c + 2 ∧ mR m 68 c = c + 3 ∧ mR m 69 c = c + 4 ∧ c + 6 ≤ mz m) ∧ ∀ j, 1 ≤ j → j ≤ 4 → mC m (c + j) = 20 ∧ mN m (c + j) = 3
theorem Cp.mv {m m' : zM} {c tp : Nat} (h : Cp m c tp) (hz : mz m ≤ mz m') (e0 : mC m' c = mC m c ∧ ∀ f, mR m' f c = mR m f c) (e : ∀ j, 1 ≤ j → j ≤ 4 → mC m' (c + j) = mC m (c + j) ∧ mN m' (c + j) = mN m (c + j)) : Cp m' c tp := by
  obtain ⟨⟨h1, h2, h3, h4, h5, h6, h7, h8⟩, h9⟩ := h
  unfold Cp
  rw [e0.1, e0.2, e0.2, e0.2, e0.2, e0.2, e0.2]
  exact ⟨⟨h1, h2, h3, h4, h5, h6, h7, Nat.le_trans h8 hz⟩, fun j j1 j2 => by rw [(e j j1 j2).1, (e j j1 j2).2]; exact h9 j j1 j2⟩
theorem Cp.fr {m m' : zM} {c tp lo hi k u : Nat} (h : Cp m c tp) (f : Fr (rg lo hi) k u m m') (hl : c + 5 ≤ lo ∨ hi ≤ c) : Cp m' c tp := by
  have hz := h.1.2.2.2.2.2.2.2
  have e : ∀ b, c ≤ b → b < c + 5 → Eqv m m' b := fun b b1 b2 => f.1 b (by omega) (fun q => by unfold rg at q; omega)
  have e0 := e c (by omega) (by omega)
  exact h.mv f.2.1 ⟨e0.2.2.2.2.1, e0.2.1⟩ (fun j j1 j2 => by have q := e (c + j) (by omega) (by omega); exact ⟨q.2.2.2.2.1, q.2.2.2.2.2⟩)
section ZCP
variable {xs : Nat → Int} {xl d : Nat} {m : zM} {Q : zRes → zM → Prop}
theorem C_nextT {a tp n i s : Nat} {k v : Int} {t : Nat → Int} (h : Sc m a tp (plF t n i) k v s) (hT : Tp m tp n t) (ht : ∀ i, i < n → 0 ≤ t i) (ha : tp + 2 ≤ a ∨ a < tp) (hQ : ∀ m', ScT m' a tp t n i → Fr (rg a (a + 1)) 0 0 m m' → Q (.inl none) m') : zC xs xl (d + 7) 48 [zR a] m Q := C_next h hT ht (plF_in t n i) ha hQ
theorem C_formOf {w : Int} (hQ : Q (.inl (some (zE (formI w)))) m) : zC xs xl (d + 1) 6 [zI w] m Q := by
  unfold formI at hQ
  refine bX1_formOf_0 ⟨fun c => ?_, fun c0 => ⟨fun c => ?_, fun c1 => ⟨fun c => ?_, fun c2 => ⟨fun c => ?_, fun c3 => ⟨fun c => ?_, fun c4 => ⟨fun c => ?_, fun c5 => ⟨fun c => ?_, fun c6 => ⟨fun c => ?_, fun c7 => ⟨fun c => ?_, fun c8 => ?_⟩⟩⟩⟩⟩⟩⟩⟩⟩
  · rwa [if_pos (Or.inl c)] at hQ
  · rwa [if_pos (Or.inr c)] at hQ
  · rwa [if_neg (by omega), if_pos c] at hQ
  · rwa [if_neg (by omega), if_neg (by omega), if_neg (by omega), if_neg (by omega), if_neg (by omega)] at hQ
  · rwa [if_neg (by omega), if_neg (by omega), if_neg (by omega), if_neg (by omega), if_neg (by omega)] at hQ
  · rwa [if_neg (by omega), if_neg (by omega), if_pos c] at hQ
  · rwa [if_neg (by omega), if_neg (by omega), if_neg (by omega), if_neg (by omega), if_neg (by omega)] at hQ
  · rwa [if_neg (by omega), if_neg (by omega), if_neg (by omega), if_pos c] at hQ
  · rwa [if_neg (by omega), if_neg (by omega), if_neg (by omega), if_neg (by omega), if_pos c] at hQ
  · rwa [if_neg (by omega), if_neg (by omega), if_neg (by omega), if_neg (by omega), if_neg (by omega)] at hQ
theorem C_hasRest {c tp n i s : Nat} {k v w : Int} {t : Nat → Int} (h : Cp m c tp) (hS : Sc m (c + 5) tp (plF t n i) k v s) (hT : Tp m tp n t) (ht : ∀ i, i < n → 0 ≤ t i) (ha : tp + 2 ≤ c ∨ c + 6 ≤ tp) (h0 : (restF t n (formL w) i).1 = false → ∀ m', ScT m' (c + 5) tp t n (restF t n (formL w) i).2 → Fr (rg (c + 5) (c + 6)) 0 0 m m' → Q (.inl (some (zI 0))) m') (h1 : (restF t n (formL w) i).1 = true → ∀ m' k' v' s', Sc m' (c + 5) tp (plF t n (restF t n (formL w) i).2) k' v' s' → Fr (rg (c + 5) (c + 6)) 0 0 m m' → Q (.inl (some (zI 1))) m') : zC xs xl (d + 8) 5 [zR c, zI w] m Q := by
  have hw := formI_in w
  have hl : (formL w).length < 100 := (str_chr ⟨formI w - 20, by omega⟩).2.1
  have lp : ∀ (r q : List Int) (i1 : Nat) (m1 : zM) (k1 v1 : Int) (s1 : Nat), formL w = q ++ r → Sc m1 (c + 5) tp (plF t n i1) k1 v1 s1 → Fr (rg (c + 5) (c + 6)) 0 0 m m1 → restF t n r i1 = restF t n (formL w) i → zW xs xl (d + 7) cX1_hasRestOf 1 (some .boolean) false [] 7 [zR c, zI w, zE (formI w), zI (q.length : Int)] [] m1 Q := by
    intro r
    induction r with
    | nil =>
      intro q i1 m1 k1 v1 s1 e g f hr
      rw [List.append_nil] at e
      have e1 : restF t n [] i1 = (true, i1) := rfl
      rw [← hr, e1] at h1
      refine bX1_hasRestOf_7 ⟨hw, C_strlen hw ⟨_, rfl, fun _ => h1 rfl m1 _ _ _ g f, fun c => absurd ?_ c⟩⟩
      show (((formL w).length : Nat) : Int) ≤ _
      rw [e]; exact Int.le_refl _
    | cons c0 r ih =>
      intro q i1 m1 k1 v1 s1 e g f hr
      have el : (zSTR (formI w - 20)).length = q.length + (r.length + 1) := by show (formL w).length = _; rw [e, List.length_append, List.length_cons]
      have hl' : (zSTR (formI w - 20)).length < 100 := hl
      have ec : (zSTR (formI w - 20)).getD q.length 0 = c0 := by
        show (formL w).getD q.length 0 = c0
        rw [e, List.getD_eq_getElem?_getD, List.getElem?_append_right (Nat.le_refl _), Nat.sub_self]; rfl
      have es : (q ++ [c0]).length = q.length + 1 := by rw [List.length_append]; rfl
      have ee : formL w = (q ++ [c0]) ++ r := by rw [e, List.append_assoc]; rfl
      have e1 : restF t n (c0 :: r) i1 = if (tkF t n i1).1 = c0 then restF t n r (i1 + 1) else (false, i1) := rfl
      have hr1 := hr
      rw [e1] at hr1
      have hC1 := h.fr f (by omega)
      have hT1 := hT.fr f (by omega)
      refine bX1_hasRestOf_7 ⟨hw, C_strlen hw ⟨_, rfl, fun c => absurd c (by omega), fun _ => ⟨hC1.1.1, ?_⟩⟩⟩
      rw [hC1.1.2.2.1]
      refine ⟨g.1, C_nextT g hT1 ht (by omega) (fun m2 g2 f2 => ?_)⟩
      have hC2 := hC1.fr f2 (by omega)
      refine ⟨rfl, hC2.1.1, ?_⟩
      rw [hC2.1.2.2.1]
      refine ⟨g2.1, C_charAt hw (by omega) ⟨_, rfl, ?_⟩⟩
      rw [ec, g2.2.2.2.1, wr_s (by omega), ← es]
      refine ⟨fun c2 => ?_, fun c2 => ?_⟩
      · rw [if_pos c2] at hr1
        exact ih (q ++ [c0]) (i1 + 1) m2 _ _ _ ee g2 (f.tr0 f2) hr1
      · rw [if_neg c2] at hr1
        rw [← hr1] at h0
        exact h0 rfl m2 g2 (f.tr0 f2)
  exact bX1_hasRestOf_0 (C_formOf ⟨_, rfl, lp (formL w) [] i m k v s rfl hS Fr.rfl rfl⟩)
theorem restF_in {t : Nat → Int} {n : Nat} : ∀ {l : List Int} {i : Nat}, i ≤ (restF t n l i).2
  | [], i => Nat.le_refl _
  | k :: r, i => by
    unfold restF
    split
    · have := restF_in (t := t) (n := n) (l := r) (i := i + 1); omega
    · exact Nat.le_refl _
theorem plF_mono {t : Nat → Int} {n i j : Nat} (h : i ≤ j) : plF t n i ≤ plF t n j := by
  induction j with
  | zero => rw [show i = 0 by omega]; exact Nat.le_refl _
  | succ j ih =>
    by_cases c : i = j + 1
    · rw [c]; exact Nat.le_refl _
    · exact Nat.le_trans (ih (by omega)) (plF_le t n j)
theorem C_wellFormed {c tp n s p : Nat} {k v : Int} {t : Nat → Int} (h : Cp m c tp) (hS : Sc m (c + 5) tp p k v s) (hT : Tp m tp n t) (ht : ∀ i, i < n → 0 ≤ t i) (ha : tp + 2 ≤ c ∨ c + 6 ≤ tp) (hQ : ∀ m', ScT m' (c + 5) tp t n (formF t n (n + 1) 0 0 false).2 → Fr (rg (c + 5) (c + 6)) 0 0 m m' → Q (.inl (some (zI (if (formF t n (n + 1) 0 0 false).1 = true then 1 else 0)))) m') : zC xs xl (d + 9) 4 [zR c] m Q := by
  have hn := hT.2.1.2
  generalize hR : formF t n (n + 1) 0 0 false = R at hQ
  have hr : rg (c + 5) (c + 6) (c + 5) := by unfold rg; omega
  have lp : ∀ (j i dep : Nat) (hs : Bool) (a3 : Nat) (m1 : zM) (k1 v1 : Int) (s1 : Nat) (u : zV), a3 + j = n + 1 → a3 ≤ plF t n i → dep ≤ a3 → Sc m1 (c + 5) tp (plF t n i) k1 v1 s1 → Fr (rg (c + 5) (c + 6)) 0 0 m m1 → formF t n j i dep hs = R → zW xs xl (d + 8) cX1_isWellFormed 1 (some .boolean) false [] 14 [zR c, zI (dep : Int), zI (if hs = true then 1 else 0), zI (a3 : Int), u] [] m1 Q := by
    intro j
    induction j with
    | zero =>
      intro i dep hs a3 m1 k1 v1 s1 u e hp hd g f hF
      have := plF_in t n i
      omega
    | succ j ih =>
      intro i dep hs a3 m1 k1 v1 s1 u e hp hd g f hF
      have hC1 := h.fr f (by omega)
      have hT1 := hT.fr f (by omega)
      refine bX1_isWellFormed_14 ⟨hC1.1.1, ?_⟩
      rw [hC1.1.2.1, hC1.1.2.2.1]
      refine ⟨hT1.1.1, fun c => absurd c (by rw [hT1.2.1.1]; omega), fun _ => ⟨g.1, C_nextT g hT1 ht (by omega) (fun m2 g2 f2 => ⟨rfl, ?_⟩)⟩⟩
      have hC2 := hC1.fr f2 (by omega)
      have hT2 := hT1.fr f2 (by omega)
      have f12 := f.tr0 f2
      unfold formF at hF
      have h80 : ¬ (hs = true ∧ dep = 0 ∧ (tkF t n i).1 = 46) → ¬ (hs = true ∧ 0 < dep ∧ (tkF t n i).1 = 125) → ∀ u, zW xs xl (d + 8) cX1_isWellFormed 1 (some .boolean) false [] 80 [zR c, zI (dep : Int), zI (if hs = true then 1 else 0), zI (a3 : Int), u] [] m2 Q := by
        intro n1 n2 u
        rw [if_neg n1, if_neg n2] at hF
        refine bX1_isWellFormed_80 ⟨hC2.1.1, ?_⟩
        rw [hC2.1.2.2.1, g2.2.2.2.1, g2.2.2.2.2.2]
        have h111 : (tkF t n i).1 = 115 → ∀ s0 : Int, s0 = (if (tkF t n i).2.1 = 8 then 1 else 0) → zW xs xl (d + 8) cX1_isWellFormed 1 (some .boolean) false [] 111 [zR c, zI (dep : Int), zI (if hs = true then 1 else 0), zI (a3 : Int), u] [zI s0] m2 Q := by
          intro e115 s0 es0
          rw [if_neg (fun q => q e115)] at hF
          refine bX1_isWellFormed_111 ⟨hC2.1.1, ?_⟩
          rw [hC2.1.2.2.1, g2.2.2.2.2.2, wr_s (by omega)]
          refine ⟨g2.1, C_hasRest hC2 g2 hT2 ht ha (fun e0 m3 g3 f3 => ⟨_, rfl, fun c => absurd rfl c, fun _ => ?_⟩) (fun e0 m3 k3 v3 s3 g3 f3 => ⟨_, rfl, fun _ => ?_, fun c => absurd (by decide) c⟩)⟩
          · rw [if_neg (by rw [e0]; decide)] at hF
            rw [← hF] at hQ
            exact hQ m3 g3 (f12.tr0 f3)
          · rw [if_pos e0] at hF
            have hgo := plF_go (t := t) (n := n) (i := i) (by rw [e115]; decide)
            have hri := restF_in (t := t) (n := n) (l := formL (tkF t n i).2.1) (i := i + 1)
            have hmo := plF_mono (t := t) (n := n) hri
            by_cases c8 : (tkF t n i).2.1 = 8
            · rw [if_pos c8] at es0
              rw [if_pos c8, if_pos c8] at hF
              have q := ih _ (dep + 1) false (a3 + 1) m3 k3 v3 s3 (zI s0) (by omega) (by omega) (by omega) g3 (f12.tr0 f3) hF
              refine ⟨fun z => absurd z (by omega), fun _ => ⟨fun _ => ?_, fun z => absurd (by omega) z⟩⟩
              rw [wr_s (by omega)]
              exact q
            · rw [if_neg c8] at es0
              rw [if_neg c8, if_neg c8] at hF
              have q := ih _ dep true (a3 + 1) m3 k3 v3 s3 (zI s0) (by omega) (by omega) (by omega) g3 (f12.tr0 f3) hF
              refine ⟨fun _ => ⟨fun z => absurd es0 z, fun _ => ?_⟩, fun z => absurd es0 z⟩
              rw [Int.add_zero, wr_id (x := (dep : Int)) (by omega) (by omega)]
              exact q
        refine ⟨g2.1, fun c5 => ⟨fun c8 => h111 c5 0 (by rw [if_neg c8]), fun c8 => h111 c5 1 (by rw [if_pos (Decidable.not_not.mp c8)])⟩, fun c5 => ?_⟩
        rw [if_pos c5] at hF
        rw [← hF] at hQ
        exact hQ m2 g2 f12
      have h54 : ¬ (hs = true ∧ dep = 0 ∧ (tkF t n i).1 = 46) → zW xs xl (d + 8) cX1_isWellFormed 1 (some .boolean) false [] 54 [zR c, zI (dep : Int), zI (if hs = true then 1 else 0), zI (a3 : Int), u] [] m2 Q := by
        intro n1
        refine bX1_isWellFormed_54 ⟨fun c1 => h80 n1 (fun q => ?_) u, fun c1 => ⟨fun c2 => h80 n1 (fun q => by omega) u, fun c2 => ⟨hC2.1.1, ?_⟩⟩⟩
        · rw [if_pos q.1] at c1; exact absurd c1 (by decide)
        · have ehs : hs = true := Decidable.byContradiction (fun q => c1 (if_neg q))
          rw [hC2.1.2.2.1, g2.2.2.2.1]
          refine ⟨g2.1, fun c3 => h80 n1 (fun q => c3 q.2.2) u, fun c3 => ?_⟩
          have c3' := Decidable.not_not.mp c3
          have hgo := plF_go (t := t) (n := n) (i := i) (by rw [c3']; decide)
          rw [if_neg n1, if_pos ⟨ehs, by omega, c3'⟩] at hF
          have q := ih (i + 1) (dep - 1) true (a3 + 1) m2 _ _ _ u (by omega) (by omega) (by omega) g2 f12 hF
          rw [wr_s (by omega), wr_id (x := (dep : Int) + (-1)) (by omega) (by omega), ehs, show (dep : Int) + (-1) = ((dep - 1 : Nat) : Int) by omega]
          exact q
      refine ⟨fun c1 => h54 (fun q => ?_), fun c1 => ⟨fun c2 => h54 (fun q => by omega), fun c2 => ⟨hC2.1.1, ?_⟩⟩⟩
      · rw [if_pos q.1] at c1; exact absurd c1 (by decide)
      · have ehs : hs = true := Decidable.byContradiction (fun q => c1 (if_neg q))
        rw [hC2.1.2.2.1, g2.2.2.2.1]
        refine ⟨g2.1, fun c3 => h54 (fun q => c3 q.2.2), fun c3 => ?_⟩
        rw [if_pos ⟨ehs, by omega, Decidable.not_not.mp c3⟩] at hF
        rw [← hF] at hQ
        exact hQ m2 g2 f12
  refine bX1_isWellFormed_0 ⟨h.1.1, ?_⟩
  rw [h.1.2.2.1]
  refine ⟨hS.1, bX5_goTo_0 ⟨hS.1, rfl, ?_⟩⟩
  exact lp (n + 1) 0 0 false 0 _ k v s _ (by omega) (Nat.zero_le _) (Nat.le_refl _) (hS.go rfl) (Fr.rfl.sI hr) hR
end ZCP
