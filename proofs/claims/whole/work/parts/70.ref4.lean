/-! the reference's planks -/
def pC (b i a j : Nat) : Prop := (b + 1 ≤ a ∧ a ≤ b + 4 ∧ j = i) ∨ (a = b + 5 ∧ 8 * i ≤ j ∧ j < 8 * i + 8)
def RP (m : zM) (b i : Nat) (y : zPk) : Prop := (mA m (b + 1) i = y.1 ∧ mA m (b + 2) i = y.2.1 ∧ mA m (b + 3) i = y.2.2.1 ∧ mA m (b + 4) i = y.2.2.2.length ∧ y.2.2.2.length ≤ 8) ∧ ∃ kl : List Int, kl.Perm y.2.2.2 ∧ ∀ (j : Nat) (q : Int), kl[j]? = some q → mA m (b + 5) (8 * i + j) = q
theorem RP.mv {m m' : zM} {b i : Nat} {y : zPk} (h : RP m b i y) (e : ∀ a j, pC b i a j → mA m' a j = mA m a j) : RP m' b i y := by
  obtain ⟨⟨h1, h2, h3, h4, h5⟩, kl, h6, h7⟩ := h
  have hl := h6.length_eq
  refine ⟨⟨?_, ?_, ?_, ?_, h5⟩, kl, h6, fun j q hq => ?_⟩
  · rw [e _ _ (Or.inl (by omega))]; exact h1
  · rw [e _ _ (Or.inl (by omega))]; exact h2
  · rw [e _ _ (Or.inl (by omega))]; exact h3
  · rw [e _ _ (Or.inl (by omega))]; exact h4
  · have := (List.getElem?_eq_some_iff.mp hq).1
    rw [e _ _ (Or.inr (by omega))]; exact h7 j q hq
theorem wr_8i {i j : Nat} (hi : i < 60) (hj : j ≤ 8) : wr (wr (8 * (i : Int)) + (j : Int)) = ((8 * i + j : Nat) : Int) := by
  rw [wr_id (x := 8 * (i : Int)) (by omega) (by omega), wr_id (by omega) (by omega)]; omega
theorem clearL_ge {len w : Int} : ∀ {l : List Int} {f : Int}, 0 ≤ f → (∀ k ∈ l, 0 ≤ k) → clearL len w f l = -1 ∨ 0 ≤ clearL len w f l
  | [], f, hf, _ => by
    unfold clearL
    split
    · exact Or.inr hf
    · exact Or.inl rfl
  | k :: t, f, hf, hk => by
    unfold clearL
    split
    · exact Or.inr hf
    · exact clearL_ge (by have := hk k List.mem_cons_self; omega) (fun q hq => hk q (List.mem_cons_of_mem _ hq))
section ZRD
variable {xs : Nat → Int} {xl d : Nat} {m : zM} {Q : zRes → zM → Prop}
theorem R_isKnot {b i : Nat} {y : zPk} {p : Int} (hF : RF m b) (h : RP m b i y) (hi : i < 60) (hQ : Q (.inl (some (zI (if p ∈ y.2.2.2 then 1 else 0)))) m) : zC xs xl (d + 1) 133 [zR b, zI (i : Int), zI p] m Q := by
  obtain ⟨r1, k1, n1⟩ := hF.at (by decide : (709, 4, 20, 60) ∈ rTab)
  obtain ⟨r2, k2, n2⟩ := hF.at (by decide : (710, 5, 20, 480) ∈ rTab)
  obtain ⟨⟨h1, h2, h3, h4, h5⟩, kl, h6, h7⟩ := h
  have hl := h6.length_eq
  have hmem : p ∈ y.2.2.2 ↔ p ∈ kl := (h6.mem_iff).symm
  have lp : ∀ (t s : List Int) (a3 : Int), kl = s ++ t → (a3 = if p ∈ s then 1 else 0) → zW xs xl d cX11_isKnot 11 (some .boolean) false [] 5 [zR b, zI (i : Int), zI p, zI a3, zI (s.length : Int)] [] m Q := by
    intro t
    induction t with
    | nil =>
      intro s a3 e ha
      rw [List.append_nil] at e
      refine bX11_isKnot_5 ⟨hF.1, ?_⟩
      rw [r1, k1, n1, Int.toNat_natCast, h4]
      refine ⟨rfl, by omega, fun _ => ⟨by rw [ha]; split <;> simp, ?_⟩, fun z => absurd (by rw [← hl, e]; exact Int.le_refl _) z⟩
      rw [ha]
      by_cases c : p ∈ s
      · rw [if_pos c]; rwa [if_pos (hmem.mpr (by rw [e]; exact c))] at hQ
      · rw [if_neg c]; rwa [if_neg (fun z => c (by have := hmem.mp z; rwa [e] at this))] at hQ
    | cons k t ih =>
      intro s a3 e ha
      have hlen : kl.length = s.length + (t.length + 1) := by rw [e, List.length_append, List.length_cons]
      have es : (s ++ [k]).length = s.length + 1 := by rw [List.length_append]; rfl
      have ee : kl = (s ++ [k]) ++ t := by rw [e, List.append_assoc]; rfl
      have hat : mA m (b + 5) (8 * i + s.length) = k := h7 _ _ (by rw [e, List.getElem?_append_right (Nat.le_refl _), Nat.sub_self]; rfl)
      have hn := ih (s ++ [k])
      rw [es] at hn
      refine bX11_isKnot_5 ⟨hF.1, ?_⟩
      rw [r1, k1, n1, r2, k2, n2, Int.toNat_natCast, h4, wr_8i hi (by omega), Int.toNat_natCast, hat, wr_s (by omega)]
      refine ⟨rfl, by omega, fun z => absurd z (by omega), fun _ => ⟨fun c => ?_, fun c => ⟨rfl, by omega, fun c2 => ?_, fun c2 => ?_⟩⟩⟩
      · have hp : p ∈ s := Decidable.byContradiction (fun z => c (by rw [ha, if_neg z]))
        exact hn 1 ee (by rw [if_pos (List.mem_append_left _ hp)])
      · have hp : p ∉ s := fun z => by rw [if_pos z] at ha; exact c (by rw [ha]; decide)
        exact hn 0 ee (by rw [if_neg (fun z => by rcases List.mem_append.mp z with z | z; exact hp z; exact c2 (List.mem_singleton.mp z).symm)])
      · exact hn 1 ee (by rw [if_pos (List.mem_append_right _ (List.mem_singleton.mpr (Decidable.not_not.mp c2).symm))])
  exact bX11_isKnot_0 (lp kl [] 0 rfl (by rw [if_neg List.not_mem_nil]))
theorem R_place {b i : Nat} {y : zPk} {w : Int} (hF : RF m b) (h : RP m b i y) (hi : i < 60) (ho : pkOk y) (hw : 1 ≤ w ∧ w ≤ 1000) (hQ : Q (.inl (some (zI (clearL y.2.1 w 0 y.2.2.2)))) m) : zC xs xl (d + 2) 134 [zR b, zI (i : Int), zI w] m Q := by
  obtain ⟨r1, k1, n1⟩ := hF.at (by decide : (707, 2, 20, 60) ∈ rTab)
  have h2 := h.1.2.1
  obtain ⟨-, ho2, -, ho4, ho5⟩ := ho
  have lp : ∀ (r p : Nat) (f : Int) (l0 l1 : List Int), (p : Int) + r = y.2.1 → y.2.2.2 = l0 ++ l1 → (∀ k ∈ l0, k < (p : Int)) → (∀ k ∈ l1, (p : Int) ≤ k) → 0 ≤ f → f ≤ (p : Int) → (p : Int) - f < w → Q (.inl (some (zI (clearL y.2.1 w f l1)))) m → zW xs xl (d + 1) cX11_place 11 (some .int) false [] 5 [zR b, zI (i : Int), zI w, zI f, zI (p : Int)] [] m Q := by
    intro r
    induction r with
    | zero =>
      intro p f l0 l1 e el h0 h1 hf0 hf hfw hq
      have e1 : l1 = [] := by
        cases l1 with
        | nil => rfl
        | cons k t =>
          have a1 := h1 k List.mem_cons_self
          have a2 := (ho4 k (by rw [el]; exact List.mem_append_right _ List.mem_cons_self)).2
          omega
      rw [e1] at hq
      unfold clearL at hq
      rw [if_neg (by omega)] at hq
      refine bX11_place_5 ⟨hF.1, ?_⟩
      rw [r1, k1, n1, Int.toNat_natCast, h2]
      exact ⟨rfl, by omega, fun _ => hq, fun z => absurd (by omega) z⟩
    | succ r ih =>
      intro p f l0 l1 e el h0 h1 hf0 hf hfw hq
      have hpw : p < 1000 := by omega
      refine bX11_place_5 ⟨hF.1, ?_⟩
      rw [r1, k1, n1, Int.toNat_natCast, h2, wr_s (by omega)]
      refine ⟨rfl, by omega, fun z => absurd z (by omega), fun _ => R_isKnot hF h hi ⟨_, rfl, fun c => ?_, fun c => ?_⟩⟩
      · have hnk : (p : Int) ∉ y.2.2.2 := isb.mp c
        have h1' : ∀ k ∈ l1, ((p + 1 : Nat) : Int) ≤ k := fun k hk => by
          have a1 := h1 k hk
          have a2 : k ≠ (p : Int) := fun z => hnk (by rw [el, ← z]; exact List.mem_append_right _ hk)
          omega
        rw [wr_id (x := ((p + 1 : Nat) : Int) - f) (by omega) (by omega)]
        refine ⟨fun c2 => ih (p + 1) f l0 l1 (by omega) el (fun k hk => by have := h0 k hk; omega) h1' hf0 (by omega) (by omega) hq, fun c2 => ?_⟩
        cases l1 with
        | nil =>
          unfold clearL at hq
          rwa [if_pos (by omega)] at hq
        | cons k t =>
          have a1 := h1' k List.mem_cons_self
          unfold clearL at hq
          rwa [if_pos (by omega)] at hq
      · have hk : (p : Int) ∈ y.2.2.2 := Decidable.byContradiction (fun z => c (isb.mpr z))
        rw [el] at hk
        have hkl : (p : Int) ∈ l1 := by
          rcases List.mem_append.mp hk with z | z
          · have := h0 _ z; omega
          · exact z
        cases l1 with
        | nil => exact absurd hkl List.not_mem_nil
        | cons k t =>
          have hs := ho5
          rw [el, List.pairwise_append, List.pairwise_cons] at hs
          have ek : k = (p : Int) := by
            rcases List.mem_cons.mp hkl with z | z
            · exact z.symm
            · have a1 := hs.2.1.1 _ z
              have a2 := h1 k List.mem_cons_self
              omega
          unfold clearL at hq
          rw [if_neg (by omega), ek] at hq
          have e3 : ((p + 1 : Nat) : Int) = (p : Int) + 1 := by omega
          rw [e3]
          have hn := ih (p + 1) ((p : Int) + 1) (l0 ++ [k]) t (by omega) (by rw [el, List.append_assoc]; rfl) (fun q hq2 => by
            rcases List.mem_append.mp hq2 with z | z
            · have := h0 q z; omega
            · rw [List.mem_singleton] at z; omega) (fun q hq2 => by have := hs.2.1.1 q hq2; omega) (by omega) (by omega) (by omega) hq
          rwa [e3] at hn
  obtain ⟨len, hlen⟩ := Int.eq_ofNat_of_zero_le ho2.1
  exact bX11_place_0 (lp len 0 0 [] y.2.2.2 (by omega) rfl (fun k hk => absurd hk List.not_mem_nil) (fun k hk => (ho4 k hk).1) (Int.le_refl _) (Int.le_refl _) (by omega) hQ)
theorem R_clearM {b i : Nat} {y : zPk} (hF : RF m b) (h : RP m b i y) (hi : i < 60) (ho : pkOk y) (hQ : Q (.inl (some (zI (mostL y.2.1 0 0 y.2.2.2)))) m) : zC xs xl (d + 2) 135 [zR b, zI (i : Int)] m Q := by
  obtain ⟨r1, k1, n1⟩ := hF.at (by decide : (707, 2, 20, 60) ∈ rTab)
  have h2 := h.1.2.1
  obtain ⟨-, ho2, -, ho4, ho5⟩ := ho
  have lp : ∀ (r p : Nat) (f g : Int) (l0 l1 : List Int), (p : Int) + r = y.2.1 → y.2.2.2 = l0 ++ l1 → (∀ k ∈ l0, k < (p : Int)) → (∀ k ∈ l1, (p : Int) ≤ k) → 0 ≤ f → f ≤ (p : Int) → 0 ≤ g → Q (.inl (some (zI (mostL y.2.1 f g l1)))) m → zW xs xl (d + 1) cX11_clear 11 (some .int) false [] 7 [zR b, zI (i : Int), zI (if g < (p : Int) - f then (p : Int) - f else g), zI f, zI (p : Int)] [] m Q := by
    intro r
    induction r with
    | zero =>
      intro p f g l0 l1 e el h0 h1 hf0 hf hg hq
      have e1 : l1 = [] := by
        cases l1 with
        | nil => rfl
        | cons k t =>
          have a1 := h1 k List.mem_cons_self
          have a2 := (ho4 k (by rw [el]; exact List.mem_append_right _ List.mem_cons_self)).2
          omega
      rw [e1] at hq
      unfold mostL at hq
      rw [show y.2.1 = (p : Int) by omega] at hq
      refine bX11_clear_7 ⟨hF.1, ?_⟩
      rw [r1, k1, n1, Int.toNat_natCast, h2]
      exact ⟨rfl, by omega, fun _ => hq, fun z => absurd (by omega) z⟩
    | succ r ih =>
      intro p f g l0 l1 e el h0 h1 hf0 hf hg hq
      have hpw : p < 1000 := by omega
      refine bX11_clear_7 ⟨hF.1, ?_⟩
      rw [r1, k1, n1, Int.toNat_natCast, h2, wr_s (by omega)]
      refine ⟨rfl, by omega, fun z => absurd z (by omega), fun _ => R_isKnot hF h hi ⟨_, rfl, fun c => ?_, fun c => ?_⟩⟩
      · have hnk : (p : Int) ∉ y.2.2.2 := isb.mp c
        have h1' : ∀ k ∈ l1, ((p + 1 : Nat) : Int) ≤ k := fun k hk => by
          have a1 := h1 k hk
          have a2 : k ≠ (p : Int) := fun z => hnk (by rw [el, ← z]; exact List.mem_append_right _ hk)
          omega
        rw [wr_id (x := ((p + 1 : Nat) : Int) - f) (by omega) (by omega)]
        have hn := ih (p + 1) f g l0 l1 (by omega) el (fun k hk => by have := h0 k hk; omega) h1' hf0 (by omega) hg hq
        have em : (if (if g < (p : Int) - f then (p : Int) - f else g) < ((p + 1 : Nat) : Int) - f then ((p + 1 : Nat) : Int) - f else (if g < (p : Int) - f then (p : Int) - f else g)) = (if g < ((p + 1 : Nat) : Int) - f then ((p + 1 : Nat) : Int) - f else g) := by
          by_cases c1 : g < (p : Int) - f
          · rw [if_pos c1, if_pos (by omega), if_pos (by omega)]
          · rw [if_neg c1]
        rw [em]; exact hn
      · have hk : (p : Int) ∈ y.2.2.2 := Decidable.byContradiction (fun z => c (isb.mpr z))
        rw [el] at hk
        have hkl : (p : Int) ∈ l1 := by
          rcases List.mem_append.mp hk with z | z
          · have := h0 _ z; omega
          · exact z
        cases l1 with
        | nil => exact absurd hkl List.not_mem_nil
        | cons k t =>
          have hs := ho5
          rw [el, List.pairwise_append, List.pairwise_cons] at hs
          have ek : k = (p : Int) := by
            rcases List.mem_cons.mp hkl with z | z
            · exact z.symm
            · have a1 := hs.2.1.1 _ z
              have a2 := h1 k List.mem_cons_self
              omega
          unfold mostL at hq
          rw [ek] at hq
          have e3 : ((p + 1 : Nat) : Int) = (p : Int) + 1 := by omega
          have hg2 : 0 ≤ (if g < (p : Int) - f then (p : Int) - f else g) := by split <;> omega
          have hn := ih (p + 1) ((p : Int) + 1) _ (l0 ++ [k]) t (by omega) (by rw [el, List.append_assoc]; rfl) (fun q hq2 => by
            rcases List.mem_append.mp hq2 with z | z
            · have := h0 q z; omega
            · rw [List.mem_singleton] at z; omega) (fun q hq2 => by have := hs.2.1.1 q hq2; omega) (by omega) (by omega) hg2 hq
          rw [e3] at hn ⊢
          rw [if_neg (show ¬ ((if g < (p : Int) - f then (p : Int) - f else g) < (p : Int) + 1 - ((p : Int) + 1)) by omega)] at hn
          exact hn
  obtain ⟨len, hlen⟩ := Int.eq_ofNat_of_zero_le ho2.1
  have hn := lp len 0 0 0 [] y.2.2.2 (by omega) rfl (fun k hk => absurd hk List.not_mem_nil) (fun k hk => (ho4 k hk).1) (Int.le_refl _) (Int.le_refl _) (Int.le_refl _) hQ
  exact bX11_clear_0 hn
theorem R_find {b n : Nat} {y : Nat → zPk} {w l : Int} (hF : RF m b) (hn : mI m 705 b = n ∧ n ≤ 60) (h : ∀ i, i < n → RP m b i (y i)) (ho : stOk n y) (hl : 1 ≤ l ∧ l ≤ 1000) (hQ : Q (.inl (some (zI (bestF y w l n)))) m) : zC xs xl (d + 3) 136 [zR b, zI w, zI l] m Q := by
  obtain ⟨r1, k1, n1⟩ := hF.at (by decide : (706, 1, 20, 60) ∈ rTab)
  obtain ⟨r2, k2, n2⟩ := hF.at (by decide : (707, 2, 20, 60) ∈ rTab)
  have lp : ∀ (k i : Nat), i + k = n → zW xs xl (d + 2) cX11_find 11 (some .int) false [] 5 [zR b, zI w, zI l, zI (bestF y w l i), zI (i : Int)] [] m Q := by
    intro k
    induction k with
    | zero =>
      intro i e
      have ei : i = n := by omega
      subst ei
      refine bX11_find_5 ⟨hF.1, ?_⟩
      rw [hn.1]
      exact ⟨fun _ => hQ, fun z => absurd (Int.le_refl _) z⟩
    | succ k ih =>
      intro i e
      have hi := h i (by omega)
      have hoi := ho i (by omega)
      have hb := bestF_in y w l i
      have nx : ∀ (v : Int), bestF y w l (i + 1) = v → zW xs xl (d + 2) cX11_find 11 (some .int) false [] 5 [zR b, zI w, zI l, zI v, zI ((i + 1 : Nat) : Int)] [] m Q := by
        intro v hv
        rw [← hv]
        exact ih (i + 1) (by omega)
      have hge := clearL_ge (len := (y i).2.1) (w := l) (l := (y i).2.2.2) (f := 0) (Int.le_refl _) (fun k hk => (hoi.2.2.2.1 k hk).1)
      have h46 : (y i).1 = w → (bestF y w l i < 0 ∨ (y i).2.1 < (y (bestF y w l i).toNat).2.1) → zW xs xl (d + 2) cX11_find 11 (some .int) false [] 46 [zR b, zI w, zI l, zI (bestF y w l i), zI (i : Int)] [] m Q := by
        intro cw cb
        refine bX11_find_46 ⟨hF.1, R_place hF hi (by omega) hoi hl ⟨_, rfl, ?_⟩⟩
        rw [wr_s (by omega)]
        refine ⟨fun c => nx _ ?_, fun c => nx _ ?_⟩
        · rw [bestF_s, if_neg (fun z => by have := z.2.2; omega)]
        · rw [bestF_s, if_pos ⟨cw, cb, by omega⟩]
      refine bX11_find_5 ⟨hF.1, ?_⟩
      rw [hn.1, r1, k1, n1, r2, k2, n2, Int.toNat_natCast, hi.1.1, hi.1.2.1, wr_s (by omega)]
      refine ⟨fun z => absurd z (by omega), fun _ => ⟨rfl, by omega, fun c => nx _ ?_, fun c => ⟨fun c2 => h46 (Decidable.not_not.mp c) (Or.inl (by omega)), fun c2 => ⟨rfl, by omega, by omega, ?_⟩⟩⟩⟩
      · rw [bestF_s, if_neg (fun z => c z.1)]
      · have hq := h (bestF y w l i).toNat (by omega)
        rw [hq.1.2.1]
        refine ⟨fun c3 => nx _ ?_, fun c3 => h46 (Decidable.not_not.mp c) (Or.inr (by omega))⟩
        rw [bestF_s, if_neg (fun z => by rcases z.2.1 with z | z <;> omega)]
  exact bX11_find_0 (lp n 0 (by omega))
end ZRD
