/-! planks: wood, length, wetness, knots in ascending order; the places of the knots lie at a + 1 -/
abbrev zPk : Type := Int × Int × Int × List Int
def Pk (m : zM) (a : Nat) (y : zPk) : Prop := (mC m a = 5 ∧ mR m 260 a = a + 1 ∧ mC m (a + 1) = 20 ∧ mN m (a + 1) = 8 ∧ a + 2 ≤ mz m) ∧ (mI m 256 a = y.1 ∧ mI m 257 a = y.2.1 ∧ mI m 258 a = y.2.2.1 ∧ mI m 259 a = y.2.2.2.length) ∧ y.2.2.2.length ≤ 8 ∧ ∀ (i : Nat) (k : Int), y.2.2.2[i]? = some k → mA m (a + 1) i = k
theorem Pk.mv {m m' : zM} {a : Nat} {y : zPk} (h : Pk m a y) (hz : mz m ≤ mz m') (e0 : Eqv m m' a) (e1 : Eqv m m' (a + 1)) : Pk m' a y := by
  unfold Pk
  simp only [e0.1, e0.2.1, e0.2.2.2.2.1, e1.2.2.1, e1.2.2.2.2.1, e1.2.2.2.2.2]
  exact ⟨⟨h.1.1, h.1.2.1, h.1.2.2.1, h.1.2.2.2.1, Nat.le_trans h.1.2.2.2.2 hz⟩, h.2⟩
def pkOk (y : zPk) : Prop := (0 ≤ y.1 ∧ y.1 ≤ 3) ∧ (0 ≤ y.2.1 ∧ y.2.1 ≤ 300) ∧ (0 ≤ y.2.2.1 ∧ y.2.2.1 ≤ 100) ∧ (∀ k ∈ y.2.2.2, 0 ≤ k ∧ k < y.2.1) ∧ y.2.2.2.Pairwise (· < ·)
def clearL (len w : Int) : Int → List Int → Int
  | f, [] => if w ≤ len - f then f else -1
  | f, k :: t => if w ≤ k - f then f else clearL len w (k + 1) t
def mostL (len : Int) : Int → Int → List Int → Int
  | f, b, [] => if b < len - f then len - f else b
  | f, b, k :: t => mostL len (k + 1) (if b < k - f then k - f else b) t
section ZPK
variable {xs : Nat → Int} {xl d : Nat} {m : zM} {Q : zRes → zM → Prop}
theorem C_become {a : Nat} {y : zPk} {w l t : Int} (h : Pk m a y) (hQ : ∀ m', Pk m' a (w, l, t, []) → (∀ j, mA m' (a + 1) j = mA m (a + 1) j) → Fr (rg a (a + 2)) 0 0 m m' → Q (.inl none) m') : zC xs xl (d + 1) 36 [zR a, zI w, zI l, zI t] m Q := by
  have hr : rg a (a + 2) a := by unfold rg; omega
  refine bX4_become_0 ⟨h.1.1, hQ _ ?_ (fun j => rfl) ((((Fr.rfl.sI hr).sI hr).sI hr).sI hr)⟩
  unfold Pk at h ⊢
  simp [zget, h]
theorem C_hasKnotAt {a : Nat} {y : zPk} {p : Int} (h : Pk m a y) (hQ : Q (.inl (some (zI (if p ∈ y.2.2.2 then 1 else 0)))) m) : zC xs xl (d + 1) 37 [zR a, zI p] m Q := by
  obtain ⟨⟨h1, h2, h3, h4, h5⟩, ⟨i0, i1, i2, i3⟩, hl, hk⟩ := h
  have lp : ∀ (t s : List Int), y.2.2.2 = s ++ t → p ∉ s → zW xs xl d cX4_hasKnotAt 4 (some .boolean) false [] 2 [zR a, zI p, zI (s.length : Int)] [] m Q := by
    intro t
    induction t with
    | nil =>
      intro s e hp
      rw [List.append_nil] at e
      refine bX4_hasKnotAt_2 ⟨h1, fun _ => ?_, fun c => absurd ?_ c⟩
      · rwa [e, if_neg hp] at hQ
      · rw [i3, e]; omega
    | cons k t ih =>
      intro s e hp
      have hlen : y.2.2.2.length = s.length + (t.length + 1) := by rw [e]; simp
      have hat : mA m (a + 1) s.length = k := hk _ _ (by rw [e]; simp)
      refine bX4_hasKnotAt_2 ⟨h1, fun c => absurd c (by rw [i3]; omega), fun _ => ⟨by rw [h2]; exact h3, by rw [h2, h4]; omega, ?_⟩⟩
      rw [h2, Int.toNat_natCast, hat]
      refine ⟨fun c => ?_, fun c => ?_⟩
      · have q := ih (s ++ [k]) (by rw [e]; simp) (by simp [hp]; exact fun q => c q.symm)
        have e1 : wr ((s.length : Int) + 1) = ((s ++ [k]).length : Int) := by rw [wr_id (by omega) (by omega)]; simp
        rw [e1]; exact q
      · have c2 : k = p := Decidable.not_not.mp c
        rwa [e, if_pos (by simp [c2])] at hQ
  exact bX4_hasKnotAt_0 (lp y.2.2.2 [] rfl (by simp))
theorem C_clearPlaceFor {a : Nat} {y : zPk} {w : Int} (h : Pk m a y) (ho : pkOk y) (hQ : Q (.inl (some (zI (clearL y.2.1 w 0 y.2.2.2)))) m) : zC xs xl (d + 1) 39 [zR a, zI w] m Q := by
  obtain ⟨⟨h1, h2, h3, h4, h5⟩, ⟨i0, i1, i2, i3⟩, hl, hk⟩ := h
  obtain ⟨-, ho2, -, ho4, -⟩ := ho
  have lp : ∀ (t s : List Int) (f : Int), y.2.2.2 = s ++ t → 0 ≤ f ∧ f ≤ 300 → Q (.inl (some (zI (clearL y.2.1 w f t)))) m → zW xs xl d cX4_clearPlaceFor 4 (some .int) false [] 4 [zR a, zI w, zI f, zI (s.length : Int)] [] m Q := by
    intro t
    induction t with
    | nil =>
      intro s f e hf hq
      rw [List.append_nil] at e
      have e1 : wr (y.2.1 - f) = y.2.1 - f := wr_id (by omega) (by omega)
      unfold clearL at hq
      refine bX4_clearPlaceFor_4 ⟨h1, fun _ => ?_, fun c => absurd ?_ c⟩
      · rw [i1, e1]
        refine ⟨fun c => ?_, fun c => ?_⟩
        · rwa [if_neg (by omega)] at hq
        · rwa [if_pos (by omega)] at hq
      · rw [i3, e]; omega
    | cons k t ih =>
      intro s f e hf hq
      have hlen : y.2.2.2.length = s.length + (t.length + 1) := by rw [e]; simp
      have hat : mA m (a + 1) s.length = k := hk _ _ (by rw [e]; simp)
      have hkk := ho4 k (by rw [e]; simp)
      have e1 : wr (k - f) = k - f := wr_id (by omega) (by omega)
      have e2 : wr (k + 1) = k + 1 := wr_id (by omega) (by omega)
      unfold clearL at hq
      refine bX4_clearPlaceFor_4 ⟨h1, fun c => absurd c (by rw [i3]; omega), fun _ => ⟨by rw [h2]; exact h3, by rw [h2, h4]; omega, ?_⟩⟩
      rw [h2, Int.toNat_natCast, hat, e1, e2]
      refine ⟨fun c => ?_, fun c => ?_⟩
      · rw [if_neg (by omega)] at hq
        have q := ih (s ++ [k]) (k + 1) (by rw [e]; simp) (by omega) hq
        have e3 : wr ((s.length : Int) + 1) = ((s ++ [k]).length : Int) := by rw [wr_id (by omega) (by omega)]; simp
        rw [e3]; exact q
      · rwa [if_pos (by omega)] at hq
  exact bX4_clearPlaceFor_0 (lp y.2.2.2 [] 0 rfl (by omega) hQ)
theorem C_mostClear {a : Nat} {y : zPk} (h : Pk m a y) (ho : pkOk y) (hQ : Q (.inl (some (zI (mostL y.2.1 0 0 y.2.2.2)))) m) : zC xs xl (d + 1) 40 [zR a] m Q := by
  obtain ⟨⟨h1, h2, h3, h4, h5⟩, ⟨i0, i1, i2, i3⟩, hl, hk⟩ := h
  obtain ⟨-, ho2, -, ho4, -⟩ := ho
  have lp : ∀ (t s : List Int) (f b : Int), y.2.2.2 = s ++ t → 0 ≤ f ∧ f ≤ 300 → Q (.inl (some (zI (mostL y.2.1 f b t)))) m → zW xs xl d cX4_mostClear 4 (some .int) false [] 6 [zR a, zI f, zI b, zI (s.length : Int)] [] m Q := by
    intro t
    induction t with
    | nil =>
      intro s f b e hf hq
      rw [List.append_nil] at e
      have e1 : wr (y.2.1 - f) = y.2.1 - f := wr_id (by omega) (by omega)
      unfold mostL at hq
      refine bX4_mostClear_6 ⟨h1, fun _ => ?_, fun c => absurd ?_ c⟩
      · rw [i1, e1]; exact hq
      · rw [i3, e]; omega
    | cons k t ih =>
      intro s f b e hf hq
      have hlen : y.2.2.2.length = s.length + (t.length + 1) := by rw [e]; simp
      have hat : mA m (a + 1) s.length = k := hk _ _ (by rw [e]; simp)
      have hkk := ho4 k (by rw [e]; simp)
      have e1 : wr (k - f) = k - f := wr_id (by omega) (by omega)
      have e2 : wr (k + 1) = k + 1 := wr_id (by omega) (by omega)
      unfold mostL at hq
      refine bX4_mostClear_6 ⟨h1, fun c => absurd c (by rw [i3]; omega), fun _ => ⟨by rw [h2]; exact h3, by rw [h2, h4]; omega, ?_⟩⟩
      rw [h2, Int.toNat_natCast, hat, e1, e2]
      have q := ih (s ++ [k]) (k + 1) _ (by rw [e]; simp) (by omega) hq
      have e3 : wr ((s.length : Int) + 1) = ((s ++ [k]).length : Int) := by rw [wr_id (by omega) (by omega)]; simp
      rw [e3]; exact q
  exact bX4_mostClear_0 (lp y.2.2.2 [] 0 0 rfl (by omega) hQ)
/-- what a plank tells -/
def pkT (y : zPk) (k : Nat) : Int := if k = 0 then y.1 else if k = 1 then y.2.1 else if k = 2 then y.2.2.1 else if k = 3 then y.2.2.2.length else mostL y.2.1 0 0 y.2.2.2
theorem C_pkTell {a k : Nat} {y : zPk} (h : Pk m a y) (ho : pkOk y) (hQ : Q (.inl (some (zI (pkT y k)))) m) : zC xs xl (d + 2) 43 [zR a, zI k] m Q := by
  have g := h
  obtain ⟨⟨h1, h2, h3, h4, h5⟩, ⟨i0, i1, i2, i3⟩, hl, hk⟩ := g
  unfold pkT at hQ
  refine bX4_tell_0 ⟨fun c => ?_, fun c0 => ⟨fun c => ?_, fun c1 => ⟨fun c => ?_, fun c2 => ⟨fun c => ?_, fun c3 => ?_⟩⟩⟩⟩
  · rw [if_pos (by omega)] at hQ
    rw [i0]; exact ⟨h1, hQ⟩
  · rw [if_neg (by omega), if_pos (by omega)] at hQ
    rw [i1]; exact ⟨h1, hQ⟩
  · rw [if_neg (by omega), if_neg (by omega), if_pos (by omega)] at hQ
    rw [i2]; exact ⟨h1, hQ⟩
  · rw [if_neg (by omega), if_neg (by omega), if_neg (by omega), if_pos (by omega)] at hQ
    rw [i3]; exact ⟨h1, hQ⟩
  · rw [if_neg (by omega), if_neg (by omega), if_neg (by omega), if_neg (by omega)] at hQ
    exact ⟨h1, C_mostClear h ho ⟨_, rfl, hQ⟩⟩
end ZPK
