/-! strings, the tape, tokens -/
theorem chr_id : ∀ c : Fin 256, bI2c (bAnd (c.1 : Int) 255) = c.1 := by decide +kernel
theorem chr_in {c : Int} (h : 0 ≤ c ∧ c ≤ 255) : bI2c (bAnd c 255) = c := by
  have q := chr_id ⟨c.toNat, by omega⟩
  have e : ((c.toNat : Nat) : Int) = c := by omega
  rwa [show (((⟨c.toNat, by omega⟩ : Fin 256).1 : Nat) : Int) = c from e] at q
theorem str_len : ∀ k : Fin 30, bShr (wr (((zXc (120 + k.1)).length : Nat) : Int)) 0 = (((zSTR k.1).length : Nat) : Int) := by decide +kernel
theorem str_chr : ∀ k : Fin 30, (zXc (120 + k.1) = zSTR k.1 ∧ (zSTR k.1).length < 100 ∧ (zSTR k.1).all (fun c => decide (0 ≤ c) && decide (c ≤ 255)) = true) := by decide +kernel
theorem str_k {a : Nat} (h : 20 ≤ a ∧ a < 50) : zXk (a + 100) = 2 := by
  unfold zXk
  rw [if_neg (by omega), if_neg (by omega), if_neg (by omega), if_pos (by unfold zSN; omega)]
theorem str_N {a xl : Nat} (h : 20 ≤ a ∧ a < 50) : zXN xl (a + 100) = (zSTR (a - 20)).length := by
  have q := (str_chr ⟨a - 20, by omega⟩).1
  have e : 120 + (a - 20) = a + 100 := by omega
  have q' : zXc (a + 100) = zSTR (a - 20) := by rw [← e]; exact q
  unfold zXN
  rw [if_neg (by omega), if_neg (by omega), q']
theorem str_I {a j : Nat} {xs : Nat → Int} (h : 20 ≤ a ∧ a < 50) : zXI xs (a + 100) j = (zSTR (a - 20)).getD j 0 := by
  have q := (str_chr ⟨a - 20, by omega⟩).1
  have e : 120 + (a - 20) = a + 100 := by omega
  have q' : zXc (a + 100) = zSTR (a - 20) := by rw [← e]; exact q
  unfold zXI
  rw [if_neg (by omega), q']
theorem bCmp_0 {a b : Int} : bCmp a b = 0 ↔ a = b := by
  unfold bCmp
  split
  · exact ⟨fun q => absurd q (by decide), fun q => by omega⟩
  · split
    · exact ⟨fun _ => by assumption, fun _ => rfl⟩
    · exact ⟨fun q => absurd q (by decide), fun q => by omega⟩
section ZTK
variable {xs : Nat → Int} {xl d : Nat} {m : zM} {Q : zRes → zM → Prop}
theorem C_strlen {a : Nat} (h : 20 ≤ a ∧ a < 50) (hQ : Q (.inl (some (zI ((zSTR (a - 20)).length : Int)))) m) : zC xs xl (d + 2) 209 [zE a] m Q := by
  refine bJ0_length_8abf5_0 ⟨h, by rw [str_k h]; decide, bJ0_coder_7d493_0 ⟨h, _, rfl, ?_⟩⟩
  have e : bShr (wr ((zXN xl (a + 100) : Nat) : Int)) 0 = (((zSTR (a - 20)).length : Nat) : Int) := by
    have q := str_len ⟨a - 20, by omega⟩
    have q2 := (str_chr ⟨a - 20, by omega⟩).1
    rw [str_N h]
    rw [show zXc (120 + (⟨a - 20, by omega⟩ : Fin 30).1) = zSTR (a - 20) from q2] at q
    exact q
  rw [e]; exact hQ
theorem C_charAt {a j : Nat} (h : 20 ≤ a ∧ a < 50) (hj : j < (zSTR (a - 20)).length) (hQ : Q (.inl (some (zI ((zSTR (a - 20)).getD j 0)))) m) : zC xs xl (d + 4) 210 [zE a, zI (j : Int)] m Q := by
  have hs := (str_chr ⟨a - 20, by omega⟩).2
  have hc : 0 ≤ (zSTR (a - 20)).getD j 0 ∧ (zSTR (a - 20)).getD j 0 ≤ 255 := by
    have h2 : (zSTR (a - 20)).all (fun c => decide (0 ≤ c) && decide (c ≤ 255)) = true := hs.2
    rw [List.getD_eq_getElem?_getD, List.getElem?_eq_getElem hj, Option.getD_some]
    have h3 := List.all_eq_true.mp h2 _ (List.getElem_mem hj)
    rw [Bool.and_eq_true, decide_eq_true_iff, decide_eq_true_iff] at h3
    exact h3
  have hl : (zSTR (a - 20)).length < 100 := hs.1
  refine bJ0_charAt_5068e_0 ⟨h, bJ0_isLatin1_aae02_0 ⟨h, _, rfl, fun c => absurd c (by decide), fun _ => ?_⟩⟩
  refine bJ1_charAt_3b067_0 ⟨by rw [str_k h]; decide, bJ0_checkIndex_df160_0 (bJ3_checkIndex_8e157_0 ⟨fun c => absurd c (by omega), fun _ => ⟨fun _ => ?_, fun c => absurd ?_ c⟩⟩)⟩
  · rw [str_N h, str_I h, Int.toNat_natCast, chr_in hc]
    exact ⟨_, rfl, rfl, ⟨str_k h, by omega, by omega⟩, by omega, _, rfl, by omega, hQ⟩
  · rw [str_N h, wr_id (by omega) (by omega)]; omega
end ZTK
def atF (t : Nat → Int) (n p : Nat) : Int := if p < n then t p else -1
abbrev isB (c : Int) : Prop := c = 32 ∨ c = 10
abbrev isL (c : Int) : Prop := 97 ≤ c ∧ c ≤ 122
abbrev isD (c : Int) : Prop := 48 ≤ c ∧ c ≤ 57
abbrev isS (c : Int) : Prop := c = 59 ∨ c = 123 ∨ c = 125
def Tp (m : zM) (a n : Nat) (t : Nat → Int) : Prop := (mC m a = 9 ∧ mR m 512 a = a + 1 ∧ mC m (a + 1) = 22 ∧ mN m (a + 1) = 1000 ∧ a + 2 ≤ mz m) ∧ (mI m 513 a = n ∧ n ≤ 1000) ∧ ∀ i, i < n → bAnd (mA m (a + 1) i) 255 = t i
theorem Tp.mv {m m' : zM} {a n : Nat} {t : Nat → Int} (h : Tp m a n t) (hz : mz m ≤ mz m') (e0 : Eqv m m' a) (e1 : Eqv m m' (a + 1)) : Tp m' a n t := by
  unfold Tp
  rw [e0.2.2.2.2.1, e0.2.1, e1.2.2.2.2.1, e1.2.2.2.2.2, e0.1]
  exact ⟨⟨h.1.1, h.1.2.1, h.1.2.2.1, h.1.2.2.2.1, Nat.le_trans h.1.2.2.2.2 hz⟩, h.2.1, fun i hi => by rw [e1.2.2.1]; exact h.2.2 i hi⟩
def Sc (m : zM) (a tp p : Nat) (k v : Int) (s : Nat) : Prop := mC m a = 6 ∧ mR m 320 a = tp ∧ mI m 321 a = p ∧ mI m 322 a = k ∧ mI m 323 a = s ∧ mI m 324 a = v
def blankF (t : Nat → Int) : Nat → Nat → Nat
  | 0, p => p
  | k + 1, p => if isB (t p) then blankF t k (p + 1) else p
def pk1 (a c : Int) : Int := wl (wl (wl (wl (a * 32) + c) - 97) + 1)
def wordF (t : Nat → Int) : Nat → Nat → Int → Nat × Int
  | 0, p, a => (p, a)
  | k + 1, p, a => if isL (t p) then wordF t k (p + 1) (pk1 a (t p)) else (p, a)
def numF (t : Nat → Int) (s : Nat) : Nat → Nat → Int → Nat × Int
  | 0, p, v => (p, v)
  | k + 1, p, v => if isD (t p) then numF t s k (p + 1) (if p < s + 3 then wr (wr (wr (v * 10) + t p) - 48) else v) else (p, v)
def amongF : List Int → Int → Int → Int → Int × Int
  | [], L, acc, v => (if acc = L then 1 else 0, v)
  | c :: r, L, acc, v => if c = 32 then (if acc = L then (1, v) else amongF r L 0 (wr (v + 1))) else amongF r L (pk1 acc c) v
def wordK (L : Int) : Int × Int := if (amongF (zSTR 0) L 0 0).1 ≠ 0 then (115, (amongF (zSTR 0) L 0 0).2) else if (amongF (zSTR 1) L 0 0).1 ≠ 0 then (102, (amongF (zSTR 1) L 0 0).2) else if (amongF (zSTR 2) L 0 0).1 ≠ 0 then (119, (amongF (zSTR 2) L 0 0).2) else (63, (amongF (zSTR 2) L 0 0).2)
def wordR (t : Nat → Int) (n s : Nat) : Int × Int := if s + 8 < (wordF t (n - s) s 0).1 then (63, 0) else wordK (wordF t (n - s) s 0).2
/-- kind, value, start, end -/
def tokW (t : Nat → Int) (n s : Nat) : Int × Int × Nat × Nat :=
  if isL (t s) then ((wordR t n s).1, (wordR t n s).2, s, (wordF t (n - s) s 0).1)
  else if isD (t s) then ((if (numF t s (n - s) s 0).1 ≤ s + 3 then 110 else 63), (numF t s (n - s) s 0).2, s, (numF t s (n - s) s 0).1)
  else ((if isS (t s) then t s else 63), 0, s, s + 1)
def tokF (t : Nat → Int) (n p : Nat) : Int × Int × Nat × Nat := if blankF t (n - p) p < n then tokW t n (blankF t (n - p) p) else (46, 0, blankF t (n - p) p, blankF t (n - p) p)
theorem blankF_in {t : Nat → Int} : ∀ {k p : Nat}, p ≤ blankF t k p ∧ blankF t k p ≤ p + k
  | 0, p => ⟨Nat.le_refl _, Nat.le_refl _⟩
  | k + 1, p => by
    unfold blankF
    split
    · have := blankF_in (t := t) (k := k) (p := p + 1); omega
    · omega
theorem wordF_in {t : Nat → Int} : ∀ {k p : Nat} {a : Int}, p ≤ (wordF t k p a).1 ∧ (wordF t k p a).1 ≤ p + k
  | 0, p, a => ⟨Nat.le_refl _, Nat.le_refl _⟩
  | k + 1, p, a => by
    unfold wordF
    split
    · have := wordF_in (t := t) (k := k) (p := p + 1) (a := pk1 a (t p)); omega
    · exact ⟨Nat.le_refl _, Nat.le_add_right _ _⟩
theorem numF_in {t : Nat → Int} {s : Nat} : ∀ {k p : Nat} {a : Int}, p ≤ (numF t s k p a).1 ∧ (numF t s k p a).1 ≤ p + k
  | 0, p, a => ⟨Nat.le_refl _, Nat.le_refl _⟩
  | k + 1, p, a => by
    unfold numF
    split
    · have := numF_in (t := t) (s := s) (k := k) (p := p + 1) (a := if p < s + 3 then wr (wr (wr (a * 10) + t p) - 48) else a); omega
    · exact ⟨Nat.le_refl _, Nat.le_add_right _ _⟩
theorem Sc.fr {m m' : zM} {a tp p s k u : Nat} {c v : Int} {S : Nat → Prop} (h : Sc m a tp p c v s) (f : Fr S k u m m') (ha : a < mz m) (hS : ¬ S a) : Sc m' a tp p c v s := by
  have e := f.1 a ha hS
  unfold Sc
  rw [e.2.2.2.2.1, e.2.1, e.1, e.1, e.1, e.1]
  exact h
section ZTL
variable {xs : Nat → Int} {xl d : Nat} {m : zM} {Q : zRes → zM → Prop}
theorem C_at {a n p : Nat} {t : Nat → Int} (h : Tp m a n t) (hQ : Q (.inl (some (zI (atF t n p)))) m) : zC xs xl (d + 1) 83 [zR a, zI (p : Int)] m Q := by
  unfold atF at hQ
  obtain ⟨⟨h1, h2, h3, h4, h5⟩, ⟨h6, h7⟩, h8⟩ := h
  refine bX8_at_0 ⟨fun c => absurd c (by omega), fun _ => ⟨h1, fun c => ?_, fun c => ?_⟩⟩
  · rwa [if_neg (by omega)] at hQ
  · rw [if_pos (by omega)] at hQ
    rw [h2, h3, h4, Int.toNat_natCast, h8 p (by omega)]
    exact ⟨Or.inr rfl, by omega, hQ⟩
theorem C_isB {c : Int} (hQ : Q (.inl (some (zI (if isB c then 1 else 0)))) m) : zC xs xl (d + 1) 53 [zI c] m Q := by
  refine bX5_isBlank_0 ⟨fun q => ?_, fun q => ⟨fun r => ?_, fun r => ?_⟩⟩
  · rwa [if_pos (Or.inl q)] at hQ
  · rwa [if_neg (fun z => by rcases z with z | z <;> omega)] at hQ
  · rwa [if_pos (Or.inr (Decidable.not_not.mp r))] at hQ
theorem C_isL {c : Int} (hQ : Q (.inl (some (zI (if isL c then 1 else 0)))) m) : zC xs xl (d + 1) 54 [zI c] m Q := by
  refine bX5_isLetter_0 ⟨fun q => ?_, fun q => ⟨fun r => ?_, fun r => ?_⟩⟩
  · rwa [if_neg (fun z => by omega)] at hQ
  · rwa [if_neg (fun z => by omega)] at hQ
  · rwa [if_pos ⟨by omega, by omega⟩] at hQ
theorem C_isD {c : Int} (hQ : Q (.inl (some (zI (if isD c then 1 else 0)))) m) : zC xs xl (d + 1) 55 [zI c] m Q := by
  refine bX5_isDigit_0 ⟨fun q => ?_, fun q => ⟨fun r => ?_, fun r => ?_⟩⟩
  · rwa [if_neg (fun z => by omega)] at hQ
  · rwa [if_neg (fun z => by omega)] at hQ
  · rwa [if_pos ⟨by omega, by omega⟩] at hQ
theorem C_isS {c : Int} (hQ : Q (.inl (some (zI (if isS c then 1 else 0)))) m) : zC xs xl (d + 1) 56 [zI c] m Q := by
  refine bX5_isSymbol_0 ⟨fun q => ?_, fun q => ⟨fun r => ?_, fun r => ⟨fun s => ?_, fun s => ?_⟩⟩⟩
  · rwa [if_pos (Or.inl q)] at hQ
  · rwa [if_pos (Or.inr (Or.inl r))] at hQ
  · rwa [if_neg (fun z => by rcases z with z | z | z <;> omega)] at hQ
  · rwa [if_pos (Or.inr (Or.inr (Decidable.not_not.mp s)))] at hQ
theorem C_isAmong {a tp p s w : Nat} {k v L : Int} (h : Sc m a tp p k v s) (hw : 20 ≤ w ∧ w < 50) (hQ : ∀ m', Sc m' a tp p k (amongF (zSTR (w - 20)) L 0 0).2 s → Fr (rg a (a + 1)) 0 0 m m' → Q (.inl (some (zI (amongF (zSTR (w - 20)) L 0 0).1))) m') : zC xs xl (d + 5) 51 [zR a, zE w, zL L] m Q := by
  have hr : rg a (a + 1) a := by unfold rg; omega
  have hl : (zSTR (w - 20)).length < 100 := (str_chr ⟨w - 20, by omega⟩).2.1
  have lp : ∀ (r q : List Int) (acc v1 : Int) (m1 : zM) (u1 u2 : zV), zSTR (w - 20) = q ++ r → Sc m1 a tp p k v1 s → Fr (rg a (a + 1)) 0 0 m m1 → amongF r L acc v1 = amongF (zSTR (w - 20)) L 0 0 → zW xs xl (d + 4) cX5_isAmong 5 (some .boolean) false [] 11 [zR a, zE w, zL L, u1, zL acc, u2, zI (q.length : Int)] [] m1 Q := by
    intro r
    induction r with
    | nil =>
      intro q acc v1 m1 u1 u2 e g f ha
      rw [List.append_nil] at e
      rw [← ha] at hQ
      have e1 : amongF [] L acc v1 = (if acc = L then 1 else 0, v1) := rfl
      rw [e1] at hQ
      refine bX5_isAmong_11 ⟨hw, C_strlen hw ⟨_, rfl, fun _ => ⟨fun c => ?_, fun c => ?_⟩, fun c => absurd (by rw [e]; exact Int.le_refl _) c⟩⟩
      · rw [if_neg (fun z => c (bCmp_0.mpr z))] at hQ
        exact hQ m1 g f
      · rw [if_pos (bCmp_0.mp (Decidable.not_not.mp c))] at hQ
        exact hQ m1 g f
    | cons c0 r ih =>
      intro q acc v1 m1 u1 u2 e g f ha
      have el : (zSTR (w - 20)).length = q.length + (r.length + 1) := by rw [e, List.length_append, List.length_cons]
      have ec : (zSTR (w - 20)).getD q.length 0 = c0 := by
        rw [e, List.getD_eq_getElem?_getD, List.getElem?_append_right (Nat.le_refl _), Nat.sub_self]; rfl
      have es : (q ++ [c0]).length = q.length + 1 := by rw [List.length_append]; rfl
      have ee : zSTR (w - 20) = (q ++ [c0]) ++ r := by rw [e, List.append_assoc]; rfl
      have e1 : amongF (c0 :: r) L acc v1 = if c0 = 32 then (if acc = L then (1, v1) else amongF r L 0 (wr (v1 + 1))) else amongF r L (pk1 acc c0) v1 := rfl
      have hq := ha
      rw [e1] at hq
      refine bX5_isAmong_11 ⟨hw, C_strlen hw ⟨_, rfl, fun c => absurd c (by omega), fun _ => C_charAt hw (by omega) ⟨_, rfl, ?_⟩⟩⟩
      rw [ec, wr_s (by omega), ← es]
      refine ⟨fun c => ⟨fun c2 => ⟨g.1, ?_⟩, fun c2 => ?_⟩, fun c => C_charAt hw (by omega) ⟨_, rfl, ?_⟩⟩
      · rw [if_pos c, if_neg (fun z => c2 (bCmp_0.mpr z))] at hq
        rw [g.2.2.2.2.2]
        exact ih (q ++ [c0]) 0 _ _ _ _ ee ⟨g.1, g.2.1, (zm_In (by decide)).trans g.2.2.1, (zm_In (by decide)).trans g.2.2.2.1, (zm_In (by decide)).trans g.2.2.2.2.1, zm_Is⟩ (f.sI hr) hq
      · rw [if_pos c, if_pos (bCmp_0.mp (Decidable.not_not.mp c2))] at hq
        rw [← hq] at hQ
        exact hQ m1 g f
      · rw [if_neg c] at hq
        rw [ec]
        exact bX5_withLetter_0 ⟨_, rfl, ih (q ++ [c0]) (pk1 acc c0) v1 m1 _ _ ee g f hq⟩
  refine bX5_isAmong_0 ⟨h.1, lp (zSTR (w - 20)) [] 0 0 _ _ _ rfl ⟨h.1, h.2.1, (zm_In (by decide)).trans h.2.2.1, (zm_In (by decide)).trans h.2.2.2.1, (zm_In (by decide)).trans h.2.2.2.2.1, zm_Is⟩ (Fr.rfl.sI hr) rfl⟩
end ZTL
