/-! one step of a plan -/
abbrev zPs : Type := List zAc × Int × Int × Int
def valF (t : Nat → Int) (n i : Nat) (w : Int) (j : Nat) : Int := if j < (formL w).length then (tkF t n (i + j)).2.1 else 0
def outF (w v tk hp bt : Int) : Int :=
  if w = 0 then (if bAnd tk (bShl 1 v) = 0 then 0 else 1) else if w = 1 then (if bAnd tk (bShl 1 v) = 0 then 1 else 0)
  else if w = 2 then hp else if w = 6 then (if hp = 0 ∨ tk = 0 then 1 else 0) else if w = 7 then (if hp = 0 ∨ bt = 0 then 1 else 0) else (if hp = 0 then 1 else 0)
abbrev allowB (w k : Int) : Prop := if w = 2 then 10 ≤ k ∧ k ≤ 200 else if w = 5 then 0 ≤ k ∧ k ≤ 40 else if w = 8 then 1 ≤ k ∧ k ≤ 9 else 1 ≤ k ∧ k ≤ 30
def wnF (w : Int) (v : Nat → Int) : List Int → Nat → Int
  | [], _ => -1
  | c :: r, j => if 3 ≤ j then -1 else if c = 110 ∧ ¬ allowB w (v j) then (j : Int) else wnF w v r (j + 1)
theorem wnF_in {w : Int} {v : Nat → Int} : ∀ {l : List Int} {j : Nat}, -1 ≤ wnF w v l j ∧ wnF w v l j < 3
  | [], j => by show -1 ≤ (-1 : Int) ∧ (-1 : Int) < 3; omega
  | c :: r, j => by
    unfold wnF
    split
    · omega
    · split
      · omega
      · exact wnF_in
def followF (w v : Int) (st : Int × Int × Int) : Int × Int × Int :=
  if w = 0 then (bOr st.1 (bShl 1 v), st.2.1, st.2.2) else if w = 1 then (bAnd st.1 (bXor (bShl 1 v) (-1)), st.2.1, st.2.2)
  else if w = 2 then (st.1, 1, 0) else if w = 5 then (st.1, st.2.1, 1) else if w = 7 then (st.1, 0, st.2.2) else st
def cutsL (l : List zAc) : Int := l.foldl (fun a q => if q.1 = 2 then wr (a + 1) else a) 0
def lensL (l : List zAc) : Int := l.foldl (fun a q => if q.1 = 2 then wr (a + q.2.2.1) else a) 0
def leastL (l : List zAc) : Int := l.foldl (fun a q => if q.1 = 3 ∨ q.1 = 4 ∨ q.1 = 6 then wr (a + q.2.1) else wr (a + 1)) 0
def PlT (P : Nat) (m : zM) (p : Nat) (l : List zAc) : Prop := Pl P m p l ∧ mR m 192 p = p + 1 ∧ mI m 194 p = cutsL l ∧ mI m 195 p = lensL l ∧ mI m 196 p = leastL l
def plT (l : List zAc) (k : Nat) : Int := if k = 0 then (l.length : Int) else if k = 1 then cutsL l else if k = 2 then lensL l else leastL l
def CSt (m : zM) (c : Nat) (st : Int × Int × Int) (q : Nat) : Prop := mI m 71 c = st.1 ∧ mI m 72 c = st.2.1 ∧ mI m 73 c = st.2.2 ∧ mI m 70 c = q ∧ (st.2.1 = 0 ∨ st.2.1 = 1)
theorem CSt.mv {m m' : zM} {c q : Nat} {st : Int × Int × Int} (h : CSt m c st q) (e : ∀ f, f ≠ 74 → mI m' f c = mI m f c) : CSt m' c st q := by
  unfold CSt
  rw [e 71 (by decide), e 72 (by decide), e 73 (by decide), e 70 (by decide)]
  exact h
section ZCQ
variable {xs : Nat → Int} {xl d : Nat} {m : zM} {Q : zRes → zM → Prop}
theorem C_plTell {p k : Nat} {l : List zAc} (hC : mC m p = 4) (h0 : mI m 193 p = l.length) (h : mI m 194 p = cutsL l ∧ mI m 195 p = lensL l ∧ mI m 196 p = leastL l) (hQ : Q (.inl (some (zI (plT l k)))) m) : zC xs xl (d + 1) 34 [zR p, zI (k : Int)] m Q := by
  unfold plT at hQ
  refine bX3_tell_0 ⟨fun c => ⟨hC, ?_⟩, fun c0 => ⟨fun c => ⟨hC, ?_⟩, fun c1 => ⟨fun c => ⟨hC, ?_⟩, fun c2 => ⟨hC, ?_⟩⟩⟩⟩
  · rw [if_pos (by omega)] at hQ
    rw [h0]; exact hQ
  · rw [if_neg (by omega), if_pos (by omega)] at hQ
    rw [h.1]; exact hQ
  · rw [if_neg (by omega), if_neg (by omega), if_pos (by omega)] at hQ
    rw [h.2.1]; exact hQ
  · rw [if_neg (by omega), if_neg (by omega), if_neg (by omega)] at hQ
    rw [h.2.2]; exact hQ
theorem C_fail {c tp : Nat} {e p : Int} (h : Cp m c tp) (hQ : Q (.inl (some (zI e))) (sI m 74 c p)) : zC xs xl (d + 1) 2 [zR c, zI e, zI p] m Q := bX1_fail_0 ⟨h.1.1, hQ⟩
theorem C_readValues {c tp n i s : Nat} {k v w : Int} {t : Nat → Int} (h : Cp m c tp) (hS : Sc m (c + 5) tp (plF t n i) k v s) (hT : Tp m tp n t) (ht : ∀ i, i < n → 0 ≤ t i) (ha : tp + 2 ≤ c ∨ c + 6 ≤ tp) (hQ : ∀ m' k' v' s', Cp m' c tp → Sc m' (c + 5) tp (plF t n (i + (formL w).length)) k' v' s' → (∀ j, j < 3 → mA m' (c + 3) j = valF t n i w j) → (∀ j, j < 3 → j < (formL w).length → mA m' (c + 4) j = ((tkF t n (i + j)).2.2.1 : Nat)) → Fr (rg (c + 3) (c + 6)) 0 0 m m' → Q (.inl none) m') : zC xs xl (d + 8) 9 [zR c, zI w] m Q := by
  have hw := formI_in w
  have hl : (formL w).length < 100 := (str_chr ⟨formI w - 20, by omega⟩).2.1
  have hr3 : rg (c + 3) (c + 6) (c + 3) := by unfold rg; omega
  have hr4 : rg (c + 3) (c + 6) (c + 4) := by unfold rg; omega
  have lp : ∀ (x j : Nat) (m1 : zM) (k1 v1 : Int) (s1 : Nat), j + x = (formL w).length → Sc m1 (c + 5) tp (plF t n (i + j)) k1 v1 s1 → Fr (rg (c + 3) (c + 6)) 0 0 m m1 → (∀ y, y < 3 → mA m1 (c + 3) y = if y < j then (tkF t n (i + y)).2.1 else 0) → (∀ y, y < 3 → y < j → mA m1 (c + 4) y = ((tkF t n (i + y)).2.2.1 : Nat)) → Cp m1 c tp → zW xs xl (d + 7) cX1_readValues 1 (none) false [] 18 [zR c, zI w, zI ((formL w).length : Int), zI (j : Int)] [] m1 Q := by
    intro x
    induction x with
    | zero =>
      intro j m1 k1 v1 s1 e g f hv hp hC
      have ej : j = (formL w).length := by omega
      subst ej
      exact bX1_readValues_18 ⟨fun _ => hQ m1 _ _ _ hC g hv hp f, fun c => absurd (Int.le_refl _) c⟩
    | succ x ih =>
      intro j m1 k1 v1 s1 e g f hv hp hC
      have hT1 : Tp m1 tp n t := hT.mv f.2.1 (f.1 tp (by have := hT.1.2.2.2.2; omega) (fun q => by unfold rg at q; omega)) (f.1 (tp + 1) (by have := hT.1.2.2.2.2; omega) (fun q => by unfold rg at q; omega))
      have hz := hC.1.2.2.2.2.2.2.2
      refine bX1_readValues_18 ⟨fun c => absurd c (by omega), fun _ => ⟨hC.1.1, ?_⟩⟩
      rw [hC.1.2.2.1]
      refine ⟨g.1, C_nextT g hT1 ht (by omega) (fun m2 g2 f2 => ⟨rfl, ?_⟩)⟩
      have hC2 := hC.fr f2 (by omega)
      have e3 : ∀ y, mA m2 (c + 3) y = mA m1 (c + 3) y := (f2.1 (c + 3) (by omega) (fun q => by unfold rg at q; omega)).2.2.1
      have e4 : ∀ y, mA m2 (c + 4) y = mA m1 (c + 4) y := (f2.1 (c + 4) (by omega) (fun q => by unfold rg at q; omega)).2.2.1
      have f12 : Fr (rg (c + 3) (c + 6)) 0 0 m m2 := f.tr0 (f2.rg (by omega) (by omega))
      rw [wr_s (by omega)]
      refine ⟨fun c3 => ?_, fun c3 => ⟨hC2.1.1, ?_⟩⟩
      · exact ih (j + 1) m2 _ _ _ (by omega) g2 f12 (fun y hy => by rw [e3, hv y hy, if_pos (by omega), if_pos (by omega)]) (fun y hy hy2 => by rw [e4]; exact hp y hy (by omega)) hC2
      · have k3 := hC2.2 3 (by omega) (by omega)
        have k4 := hC2.2 4 (by omega) (by omega)
        rw [hC2.1.2.2.1, hC2.1.2.2.2.2.2.1, hC2.1.2.2.2.2.2.2.1, k3.1, k3.2, k4.1, k4.2, g2.2.2.2.2.2, g2.2.2.2.2.1, Int.toNat_natCast]
        refine ⟨g2.1, by omega, rfl, by omega, rfl, ?_⟩
        refine ih (j + 1) _ _ _ _ (by omega) ⟨g2.1, g2.2.1, g2.2.2.1, g2.2.2.2.1, g2.2.2.2.2.1, g2.2.2.2.2.2⟩ ((f12.sA hr3).sA hr4) (fun y hy => ?_) (fun y hy hy2 => ?_) ⟨hC2.1, hC2.2⟩
        · rw [(Eqv.nA (by omega)).2.2.1]
          by_cases cy : y = j
          · subst cy
            rw [zm_As, if_pos (by omega)]
          · rw [zm_An cy, e3, hv y hy]
            by_cases cj : y < j
            · rw [if_pos cj, if_pos (by omega)]
            · rw [if_neg cj, if_neg (by omega)]
        · by_cases cy : y = j
          · subst cy
            rw [zm_As]
          · rw [zm_An cy, (Eqv.nA (by omega)).2.2.1, e4]
            exact hp y hy (by omega)
  have k3 := h.2 3 (by omega) (by omega)
  refine bX1_readValues_0 (C_formOf ⟨_, rfl, hw, C_strlen hw ⟨_, rfl, h.1.1, ?_⟩⟩)
  rw [h.1.2.2.2.2.2.1]
  refine C_fill k3.1 k3.2 (by omega) ⟨rfl, ?_⟩
  exact lp (formL w).length 0 _ k v s (by omega) ⟨hS.1, hS.2.1, hS.2.2.1, hS.2.2.2.1, hS.2.2.2.2.1, hS.2.2.2.2.2⟩ (Fr.rfl.flA hr3) (fun y hy => by rw [if_neg (by omega)]; exact if_pos ⟨rfl, hy⟩) (fun y _ hy => absurd hy (by omega)) ⟨h.1, h.2⟩
theorem C_outOf {c tp q : Nat} {w : Int} {st : Int × Int × Int} (h : Cp m c tp) (hs : CSt m c st q) (hQ : Q (.inl (some (zI (outF w (mA m (c + 3) 0) st.1 st.2.1 st.2.2)))) m) : zC xs xl (d + 1) 11 [zR c, zI w] m Q := by
  have k3 := h.2 3 (by omega) (by omega)
  obtain ⟨s1, s2, s3, s4, s5⟩ := hs
  unfold outF at hQ
  refine bX1_isOutOfTurn_0 ⟨h.1.1, ?_⟩
  rw [h.1.2.2.2.2.2.1, k3.1, k3.2, s1, s2, s3]
  refine ⟨rfl, by decide, fun cb => ?_, fun cb => ?_⟩
  · refine ⟨fun c0 => ?_, fun c0 => ⟨fun c1 => ?_, fun c1 => ⟨fun c2 => ⟨s5, ?_⟩, fun c2 => ⟨fun c3 => ⟨fun ch => ?_, fun ch => ?_⟩, fun c3 => ⟨fun c4 => ⟨fun ch => ?_, fun ch => ?_⟩, fun c4 => ⟨fun c5 => ⟨fun ch => ?_, fun ch => ?_⟩, fun c5 => ⟨fun c6 => ⟨fun ch => ?_, fun ch => ⟨fun ct => ?_, fun ct => ?_⟩⟩, fun c6 => ⟨fun c7 => ⟨fun ch => ?_, fun ch => ⟨fun ct => ?_, fun ct => ?_⟩⟩, fun c7 => ⟨fun ch => ?_, fun ch => ?_⟩⟩⟩⟩⟩⟩⟩⟩⟩
    · rwa [if_pos c0, if_pos cb] at hQ
    · rwa [if_neg c0, if_pos c1, if_pos cb] at hQ
    · rwa [if_neg c0, if_neg c1, if_pos c2] at hQ
    · rwa [if_neg c0, if_neg c1, if_neg c2, if_neg (by omega), if_neg (by omega), if_neg ch] at hQ
    · rwa [if_neg c0, if_neg c1, if_neg c2, if_neg (by omega), if_neg (by omega), if_pos (by omega)] at hQ
    · rwa [if_neg c0, if_neg c1, if_neg c2, if_neg (by omega), if_neg (by omega), if_neg ch] at hQ
    · rwa [if_neg c0, if_neg c1, if_neg c2, if_neg (by omega), if_neg (by omega), if_pos (by omega)] at hQ
    · rwa [if_neg c0, if_neg c1, if_neg c2, if_neg (by omega), if_neg (by omega), if_neg ch] at hQ
    · rwa [if_neg c0, if_neg c1, if_neg c2, if_neg (by omega), if_neg (by omega), if_pos (by omega)] at hQ
    · rwa [if_neg c0, if_neg c1, if_neg c2, if_pos c6, if_pos (Or.inl ch)] at hQ
    · rwa [if_neg c0, if_neg c1, if_neg c2, if_pos c6, if_neg (by omega)] at hQ
    · rwa [if_neg c0, if_neg c1, if_neg c2, if_pos c6, if_pos (by omega)] at hQ
    · rwa [if_neg c0, if_neg c1, if_neg c2, if_neg c6, if_pos c7, if_pos (Or.inl ch)] at hQ
    · rwa [if_neg c0, if_neg c1, if_neg c2, if_neg c6, if_pos c7, if_neg (by omega)] at hQ
    · rwa [if_neg c0, if_neg c1, if_neg c2, if_neg c6, if_pos c7, if_pos (by omega)] at hQ
    · rwa [if_neg c0, if_neg c1, if_neg c2, if_neg c6, if_neg c7, if_neg ch] at hQ
    · rwa [if_neg c0, if_neg c1, if_neg c2, if_neg c6, if_neg c7, if_pos (by omega)] at hQ
  · refine ⟨fun c0 => ?_, fun c0 => ⟨fun c1 => ?_, fun c1 => ⟨fun c2 => ⟨s5, ?_⟩, fun c2 => ⟨fun c3 => ⟨fun ch => ?_, fun ch => ?_⟩, fun c3 => ⟨fun c4 => ⟨fun ch => ?_, fun ch => ?_⟩, fun c4 => ⟨fun c5 => ⟨fun ch => ?_, fun ch => ?_⟩, fun c5 => ⟨fun c6 => ⟨fun ch => ?_, fun ch => ⟨fun ct => ?_, fun ct => ?_⟩⟩, fun c6 => ⟨fun c7 => ⟨fun ch => ?_, fun ch => ⟨fun ct => ?_, fun ct => ?_⟩⟩, fun c7 => ⟨fun ch => ?_, fun ch => ?_⟩⟩⟩⟩⟩⟩⟩⟩⟩
    · rwa [if_pos c0, if_neg cb] at hQ
    · rwa [if_neg c0, if_pos c1, if_neg cb] at hQ
    · rwa [if_neg c0, if_neg c1, if_pos c2] at hQ
    · rwa [if_neg c0, if_neg c1, if_neg c2, if_neg (by omega), if_neg (by omega), if_neg ch] at hQ
    · rwa [if_neg c0, if_neg c1, if_neg c2, if_neg (by omega), if_neg (by omega), if_pos (by omega)] at hQ
    · rwa [if_neg c0, if_neg c1, if_neg c2, if_neg (by omega), if_neg (by omega), if_neg ch] at hQ
    · rwa [if_neg c0, if_neg c1, if_neg c2, if_neg (by omega), if_neg (by omega), if_pos (by omega)] at hQ
    · rwa [if_neg c0, if_neg c1, if_neg c2, if_neg (by omega), if_neg (by omega), if_neg ch] at hQ
    · rwa [if_neg c0, if_neg c1, if_neg c2, if_neg (by omega), if_neg (by omega), if_pos (by omega)] at hQ
    · rwa [if_neg c0, if_neg c1, if_neg c2, if_pos c6, if_pos (Or.inl ch)] at hQ
    · rwa [if_neg c0, if_neg c1, if_neg c2, if_pos c6, if_neg (by omega)] at hQ
    · rwa [if_neg c0, if_neg c1, if_neg c2, if_pos c6, if_pos (by omega)] at hQ
    · rwa [if_neg c0, if_neg c1, if_neg c2, if_neg c6, if_pos c7, if_pos (Or.inl ch)] at hQ
    · rwa [if_neg c0, if_neg c1, if_neg c2, if_neg c6, if_pos c7, if_neg (by omega)] at hQ
    · rwa [if_neg c0, if_neg c1, if_neg c2, if_neg c6, if_pos c7, if_pos (by omega)] at hQ
    · rwa [if_neg c0, if_neg c1, if_neg c2, if_neg c6, if_neg c7, if_neg ch] at hQ
    · rwa [if_neg c0, if_neg c1, if_neg c2, if_neg c6, if_neg c7, if_pos (by omega)] at hQ
theorem C_allowed {w k : Int} (hQ : Q (.inl (some (zI (if allowB w k then 1 else 0)))) m) : zC xs xl (d + 1) 13 [zI w, zI k] m Q := by
  refine bX1_isAllowed_0 ⟨fun c2 => ⟨fun a => ?_, fun a => ⟨fun b => ?_, fun b => ?_⟩⟩, fun c2 => ⟨fun c5 => ⟨fun a => ?_, fun a => ⟨fun b => ?_, fun b => ?_⟩⟩, fun c5 => ⟨fun c8 => ⟨fun a => ?_, fun a => ⟨fun b => ?_, fun b => ?_⟩⟩, fun c8 => ⟨fun a => ?_, fun a => ⟨fun b => ?_, fun b => ?_⟩⟩⟩⟩⟩
  · have e : ¬ allowB w k := by
      unfold allowB
      rw [if_pos c2]
      omega
    rwa [if_neg e] at hQ
  · have e : ¬ allowB w k := by
      unfold allowB
      rw [if_pos c2]
      omega
    rwa [if_neg e] at hQ
  · have e : allowB w k := by
      unfold allowB
      rw [if_pos c2]
      omega
    rwa [if_pos e] at hQ
  · have e : ¬ allowB w k := by
      unfold allowB
      rw [if_neg c2, if_pos c5]
      omega
    rwa [if_neg e] at hQ
  · have e : ¬ allowB w k := by
      unfold allowB
      rw [if_neg c2, if_pos c5]
      omega
    rwa [if_neg e] at hQ
  · have e : allowB w k := by
      unfold allowB
      rw [if_neg c2, if_pos c5]
      omega
    rwa [if_pos e] at hQ
  · have e : ¬ allowB w k := by
      unfold allowB
      rw [if_neg c2, if_neg c5, if_pos c8]
      omega
    rwa [if_neg e] at hQ
  · have e : ¬ allowB w k := by
      unfold allowB
      rw [if_neg c2, if_neg c5, if_pos c8]
      omega
    rwa [if_neg e] at hQ
  · have e : allowB w k := by
      unfold allowB
      rw [if_neg c2, if_neg c5, if_pos c8]
      omega
    rwa [if_pos e] at hQ
  · have e : ¬ allowB w k := by
      unfold allowB
      rw [if_neg c2, if_neg c5, if_neg c8]
      omega
    rwa [if_neg e] at hQ
  · have e : ¬ allowB w k := by
      unfold allowB
      rw [if_neg c2, if_neg c5, if_neg c8]
      omega
    rwa [if_neg e] at hQ
  · have e : allowB w k := by
      unfold allowB
      rw [if_neg c2, if_neg c5, if_neg c8]
      omega
    rwa [if_pos e] at hQ
theorem C_errWord {c tp q pd : Nat} {w : Int} {st : Int × Int × Int} {l : List zAc} (h : Cp m c tp) (hs : CSt m c st q) (hw : w ≠ 8) (hC : mC m pd = 4) (hl : mI m 193 pd = l.length) (hQ : Q (.inl (some (zI (if outF w (mA m (c + 3) 0) st.1 st.2.1 st.2.2 ≠ 0 then 3 else if 60 ≤ l.length then 4 else 0)))) m) : zC xs xl (d + 2) 10 [zR c, zI w, zR pd] m Q := by
  refine bX1_errorAtWord_0 ⟨fun _ => ⟨h.1.1, C_outOf h hs ⟨_, rfl, fun c0 => ⟨hC, ?_⟩, fun c0 => ?_⟩⟩, fun c => absurd hw c⟩
  · rw [if_neg (fun z => z c0)] at hQ
    rw [hl]
    refine ⟨fun c1 => ?_, fun c1 => ?_⟩
    · rwa [if_neg (by omega)] at hQ
    · rwa [if_pos (by omega)] at hQ
  · rwa [if_pos c0] at hQ
theorem C_errTimes {c tp q pd : Nat} {st : Int × Int × Int} (h : Cp m c tp) (hs : CSt m c st q) (hQ : Q (.inl (some (zI (if q < 3 then 0 else 4)))) m) : zC xs xl (d + 2) 10 [zR c, zI 8, zR pd] m Q := by
  refine bX1_errorAtWord_0 ⟨fun c => absurd rfl c, fun _ => ⟨h.1.1, ?_⟩⟩
  rw [hs.2.2.2.1]
  refine ⟨fun c1 => ?_, fun c1 => ?_⟩
  · rwa [if_pos (by omega)] at hQ
  · rwa [if_neg (by omega)] at hQ
theorem C_wrongNum {c tp : Nat} {w : Int} {v : Nat → Int} (h : Cp m c tp) (hv : ∀ j, j < 3 → mA m (c + 3) j = v j) (hQ : Q (.inl (some (zI (wnF w v (formL w) 0)))) m) : zC xs xl (d + 5) 12 [zR c, zI w] m Q := by
  have hw := formI_in w
  have hl : (zSTR (formI w - 20)).length < 100 := (str_chr ⟨formI w - 20, by omega⟩).2.1
  have k3 := h.2 3 (by omega) (by omega)
  have lp : ∀ (r q : List Int), formL w = q ++ r → wnF w v r q.length = wnF w v (formL w) 0 → zW xs xl (d + 4) cX1_wrongNumber 1 (some .int) false [] 7 [zR c, zI w, zE (formI w), zI (q.length : Int)] [] m Q := by
    intro r
    induction r with
    | nil =>
      intro q e hr
      rw [List.append_nil] at e
      have e1 : wnF w v [] q.length = -1 := rfl
      rw [← hr, e1] at hQ
      refine bX1_wrongNumber_7 ⟨hw, C_strlen hw ⟨_, rfl, fun _ => hQ, fun c => absurd ?_ c⟩⟩
      show (((formL w).length : Nat) : Int) ≤ _
      rw [e]; exact Int.le_refl _
    | cons c0 r ih =>
      intro q e hr
      have el : (zSTR (formI w - 20)).length = q.length + (r.length + 1) := by show (formL w).length = _; rw [e, List.length_append, List.length_cons]
      have ec : (zSTR (formI w - 20)).getD q.length 0 = c0 := by
        show (formL w).getD q.length 0 = c0
        rw [e, List.getD_eq_getElem?_getD, List.getElem?_append_right (Nat.le_refl _), Nat.sub_self]; rfl
      have es : (q ++ [c0]).length = q.length + 1 := by rw [List.length_append]; rfl
      have ee : formL w = (q ++ [c0]) ++ r := by rw [e, List.append_assoc]; rfl
      have e1 : wnF w v (c0 :: r) q.length = if 3 ≤ q.length then -1 else if c0 = 110 ∧ ¬ allowB w (v q.length) then (q.length : Int) else wnF w v r (q.length + 1) := rfl
      have hr1 := hr
      rw [e1] at hr1
      refine bX1_wrongNumber_7 ⟨hw, C_strlen hw ⟨_, rfl, fun c => absurd c (by omega), fun _ => ⟨fun c3 => ?_, fun c3 => C_charAt hw (by omega) ⟨_, rfl, ?_⟩⟩⟩⟩
      · rw [if_pos (by omega)] at hr1
        rw [← hr1] at hQ
        exact hQ
      · rw [if_neg (by omega)] at hr1
        rw [ec, wr_s (by omega), ← es]
        refine ⟨fun c4 => ?_, fun c4 => ⟨h.1.1, ?_⟩⟩
        · rw [if_neg (fun z => c4 z.1)] at hr1
          exact ih (q ++ [c0]) ee (by rw [es]; exact hr1)
        · rw [h.1.2.2.2.2.2.1, k3.1, k3.2, Int.toNat_natCast, hv q.length (by omega)]
          refine ⟨rfl, by omega, C_allowed ⟨_, rfl, fun c5 => ?_, fun c5 => ?_⟩⟩
          · rw [if_neg (fun z => by rw [if_neg z.2] at c5; exact c5 rfl)] at hr1
            exact ih (q ++ [c0]) ee (by rw [es]; exact hr1)
          · rw [if_pos ⟨Decidable.not_not.mp c4, fun z => c5 (by rw [if_pos z]; decide)⟩] at hr1
            rw [← hr1] at hQ
            exact hQ
  exact bX1_wrongNumber_0 (C_formOf ⟨_, rfl, lp (formL w) [] rfl rfl⟩)
theorem C_follow {c tp q : Nat} {w : Int} {st : Int × Int × Int} (h : Cp m c tp) (hs : CSt m c st q) (hQ : ∀ m', CSt m' c (followF w (mA m (c + 3) 0) st) q → Fr (rg c (c + 1)) 0 0 m m' → (mR m' = mR m ∧ mC m' = mC m) → mI m' 74 c = mI m 74 c → Q (.inl none) m') : zC xs xl (d + 1) 14 [zR c, zI w] m Q := by
  have k3 := h.2 3 (by omega) (by omega)
  have hr : rg c (c + 1) c := by unfold rg; omega
  obtain ⟨s1, s2, s3, s4, s5⟩ := hs
  unfold followF at hQ
  refine bX1_follow_0 ⟨fun c0 => ⟨fun c1 => ⟨fun c2 => ⟨fun c5 => ⟨fun c7 => ?_, fun c7 => ⟨h.1.1, ?_⟩⟩, fun c5 => ⟨h.1.1, ?_⟩⟩, fun c2 => ⟨h.1.1, ?_⟩⟩, fun c1 => ⟨h.1.1, ?_⟩⟩, fun c0 => ⟨h.1.1, ?_⟩⟩
  · rw [if_neg c0, if_neg c1, if_neg c2, if_neg c5, if_neg c7] at hQ
    exact hQ m ⟨s1, s2, s3, s4, s5⟩ Fr.rfl ⟨rfl, rfl⟩ rfl
  · rw [if_neg c0, if_neg c1, if_neg c2, if_neg c5, if_pos (Decidable.not_not.mp c7)] at hQ
    exact hQ _ ⟨(zm_In (by decide)).trans s1, zm_Is, (zm_In (by decide)).trans s3, (zm_In (by decide)).trans s4, Or.inl rfl⟩ (Fr.rfl.sI hr) ⟨rfl, rfl⟩ (zm_In (by decide))
  · rw [if_neg c0, if_neg c1, if_neg c2, if_pos (Decidable.not_not.mp c5)] at hQ
    exact hQ _ ⟨(zm_In (by decide)).trans s1, (zm_In (by decide)).trans s2, zm_Is, (zm_In (by decide)).trans s4, s5⟩ (Fr.rfl.sI hr) ⟨rfl, rfl⟩ (zm_In (by decide))
  · rw [if_neg c0, if_neg c1, if_pos (Decidable.not_not.mp c2)] at hQ
    exact hQ _ ⟨(zm_In (by decide)).trans ((zm_In (by decide)).trans s1), (zm_In (by decide)).trans zm_Is, zm_Is, (zm_In (by decide)).trans ((zm_In (by decide)).trans s4), Or.inr rfl⟩ ((Fr.rfl.sI hr).sI hr) ⟨rfl, rfl⟩ ((zm_In (by decide)).trans (zm_In (by decide)))
  · rw [if_neg c0, if_pos (Decidable.not_not.mp c1)] at hQ
    rw [h.1.2.2.2.2.2.1, k3.1, k3.2, s1]
    exact ⟨rfl, by decide, hQ _ ⟨zm_Is, (zm_In (by decide)).trans s2, (zm_In (by decide)).trans s3, (zm_In (by decide)).trans s4, s5⟩ (Fr.rfl.sI hr) ⟨rfl, rfl⟩ (zm_In (by decide))⟩
  · rw [if_pos (Decidable.not_not.mp c0)] at hQ
    rw [h.1.2.2.2.2.2.1, k3.1, k3.2, s1]
    exact ⟨rfl, by decide, hQ _ ⟨zm_Is, (zm_In (by decide)).trans s2, (zm_In (by decide)).trans s3, (zm_In (by decide)).trans s4, s5⟩ (Fr.rfl.sI hr) ⟨rfl, rfl⟩ (zm_In (by decide))⟩
end ZCQ
