/-! what a tick keeps: slip by slip -/
theorem hpL_s {l : List zAc} {i : Nat} {q : zAc} (h : l[i]? = some q) : hpL l (i + 1) = if q.1 = 2 then 1 else if q.1 = 7 then 0 else hpL l i := by
  show (match l[i]? with
    | none => hpL l i
    | some q => if q.1 = 2 then 1 else if q.1 = 7 then 0 else hpL l i) = _
  rw [h]
theorem hpL_in {l : List zAc} : ∀ i, hpL l i = 0 ∨ hpL l i = 1
  | 0 => Or.inl rfl
  | i + 1 => by
    have h := hpL_in (l := l) i
    show (match l[i]? with
      | none => hpL l i
      | some q => if q.1 = 2 then 1 else if q.1 = 7 then 0 else hpL l i) = 0 ∨ (match l[i]? with
      | none => hpL l i
      | some q => if q.1 = 2 then 1 else if q.1 = 7 then 0 else hpL l i) = 1
    cases l[i]? with
    | none => exact h
    | some q =>
      show (if q.1 = 2 then 1 else if q.1 = 7 then 0 else hpL l i) = 0 ∨ (if q.1 = 2 then 1 else if q.1 = 7 then 0 else hpL l i) = 1
      by_cases c : q.1 = 2
      · rw [if_pos c]; exact Or.inr rfl
      · rw [if_neg c]
        by_cases c7 : q.1 = 7
        · rw [if_pos c7]; exact Or.inl rfl
        · rw [if_neg c7]; exact h
theorem givenL.mono {l : List zAc} {i j : Nat} {f : Int} (h : givenL l j f) (hij : i ≤ j) : givenL l i f := by
  obtain ⟨k, q, h1, h2⟩ := h
  exact ⟨k, q, Nat.le_trans hij h1, h2⟩
theorem givenL.step {l : List zAc} {D : Nat} {f : Int} {q : zAc} (h : givenL l D f) (hq : l[D]? = some q) (hn : ¬ (q.1 = 1 ∧ q.2.1 = f)) : givenL l (D + 1) f := by
  obtain ⟨k, r, h1, h2, h3, h4⟩ := h
  by_cases c : k = D
  · subst c
    rw [hq] at h2
    have e := Option.some.inj h2
    subst e
    exact absurd ⟨h3, h4⟩ hn
  · exact ⟨k, r, by omega, h2, h3, h4⟩
theorem givenL.no {l : List zAc} {f : Int} (h : givenL l l.length f) : False := by
  obtain ⟨k, r, h1, h2, -⟩ := h
  have := (List.getElem?_eq_some_iff.mp h2).1
  omega
theorem bits0_f : ∀ h : Fin 32, (∀ f : Fin 5, bAnd (h.1 : Int) (bShl 1 (f.1 : Int)) = 0) → h.1 = 0 := by decide +kernel
theorem bits0 {h : Int} (hh : 0 ≤ h ∧ h ≤ 31) (hf : ∀ f : Nat, f < 5 → bAnd h (bShl 1 (f : Int)) = 0) : h = 0 := by
  have e : ((h.toNat : Nat) : Int) = h := by omega
  have q := bits0_f ⟨h.toNat, by omega⟩ (fun f => by
    show bAnd ((h.toNat : Nat) : Int) (bShl 1 (f.1 : Int)) = 0
    rw [e]; exact hf f.1 f.2)
  have q' : h.toNat = 0 := q
  omega
theorem and0_32 : ∀ f : Fin 5, bAnd 0 (bShl 1 (f.1 : Int)) = 0 := by decide +kernel
theorem slOk.busy {x : Nat → Int} {l : List zAc} (h : slOk x l) (h0 : x 0 ≠ 0) : busyOk x l := h.2.2.2.2.2.2.2.2.2.2 h0
/-- on to the next action; or the end -/
theorem goOn_ok {x : Nat → Int} {l : List zAc} {D : Nat} (hx2 : x 2 = (D : Int)) (hD : D < l.length) (hpl : planOk l) (a1 : flagOk x) (a2 : pcOk x) (a3 : pbOk x) (a4 : 0 ≤ x 8 ∧ x 8 ≤ 2) (a9 : x 9 = -1) (a11 : x 11 = 0) (a12 : 0 ≤ x 12 ∧ x 12 ≤ 31) (api : pieceOk x) (a0 : x 0 ≠ 0) (ahp : x 5 = hpL l (D + 1)) (acut : x 5 ≠ 0 → (0 ≤ x 17 ∧ x 17 ≤ D) ∧ ∃ q, l[(x 17).toNat]? = some q ∧ q.1 = 2) (ahe : ∀ f : Nat, f < 5 → bAnd (x 12) (bShl 1 (f : Int)) ≠ 0 → givenL l (D + 1) f) : (D + 1 < l.length → slOk (goOnF x) l) ∧ (D + 1 = l.length → slOk (up1 (goOnF x) 0 0) l) := by
  have hl60 := hpl.2.1.1
  have y2 : goOnF x 2 = ((D + 1 : Nat) : Int) := by
    show wr (x 2 + 1) = _
    rw [hx2, wr_s (by omega)]
  have y16 : goOnF x 16 = 0 := rfl
  have yk : ∀ k, k ≠ 2 → k ≠ 16 → goOnF x k = x k := fun k h1 h2 => (if_neg h2).trans (if_neg h1)
  generalize goOnF x = y at y2 y16 yk ⊢
  have b1 : flagOk y := by unfold flagOk; rw [yk 0 (by decide) (by decide), yk 5 (by decide) (by decide), yk 11 (by decide) (by decide)]; exact a1
  have b2 : pcOk y := by unfold pcOk; rw [yk 6 (by decide) (by decide), yk 7 (by decide) (by decide)]; exact a2
  have b3 : pbOk y := fun k k1 k2 => by rw [yk k (by omega) (by omega)]; exact a3 k k1 k2
  have b4 : 0 ≤ y 8 ∧ y 8 ≤ 2 := by rw [yk 8 (by decide) (by decide)]; exact a4
  have b9 : y 9 = -1 := by rw [yk 9 (by decide) (by decide)]; exact a9
  have b11 : y 11 = 0 := by rw [yk 11 (by decide) (by decide)]; exact a11
  have b12 : 0 ≤ y 12 ∧ y 12 ≤ 31 := by rw [yk 12 (by decide) (by decide)]; exact a12
  have bpi : pieceOk y := by
    unfold pieceOk
    rw [yk 5 (by decide) (by decide), yk 6 (by decide) (by decide), yk 7 (by decide) (by decide), yk 8 (by decide) (by decide), yk 18 (by decide) (by decide)]
    exact ⟨fun c => ⟨(api.1 c).1, (api.1 c).2.1, (api.1 c).2.2.1, fun k k1 k2 => by rw [yk k (by omega) (by omega)]; exact (api.1 c).2.2.2 k k1 k2⟩, api.2⟩
  refine ⟨fun hlt => ?_, fun hend => ?_⟩
  · refine ⟨b1, b2, b3, b4, by omega, by omega, b12, fun c => absurd b11 c, bpi, fun c => absurd ((yk 0 (by decide) (by decide)).symm.trans c) a0, fun _ => ⟨hpl, by omega, ?_, ⟨by omega, fun q hq hw => ?_⟩, fun c => ?_, fun f hf hh => ?_, fun c => by omega, fun _ c => by omega⟩⟩
    · rw [yk 5 (by decide) (by decide), y2, Int.toNat_natCast]; exact ahp
    · have := (hpl.1 q (List.mem_of_getElem? hq)).2.2.2.2 hw
      omega
    · rw [yk 5 (by decide) (by decide)] at c
      rw [yk 17 (by decide) (by decide), y2]
      have := acut c
      exact ⟨by omega, this.2⟩
    · rw [y2, Int.toNat_natCast]
      rcases hh with z | z
      · rw [yk 12 (by decide) (by decide)] at z
        exact ahe f hf z
      · exact absurd b11 z.1
  · have hz : ∀ k, k ≠ 0 → up1 y 0 0 k = y k := fun k hk => if_neg hk
    have z0 : up1 y 0 0 0 = 0 := rfl
    generalize up1 y 0 0 = z at hz z0 ⊢
    have h12 : x 12 = 0 := bits0 a12 (fun f hf => Decidable.byContradiction (fun c => by
      have := ahe f hf c
      rw [hend] at this
      exact this.no))
    have h5 : x 5 = 0 := by rw [ahp, hend]; exact hpl.2.2.2
    refine ⟨?_, ?_, fun k k1 k2 => by rw [hz k (by omega)]; exact b3 k k1 k2, by rw [hz 8 (by decide)]; exact b4, by rw [hz 2 (by decide)]; omega, by rw [hz 9 (by decide)]; omega, by rw [hz 12 (by decide)]; exact b12, fun c => absurd ((hz 11 (by decide)).trans b11) c, ?_, fun _ => ⟨?_, ?_, ?_, ?_⟩, fun c => absurd z0 c⟩
    · unfold flagOk; rw [z0, hz 5 (by decide), hz 11 (by decide)]; exact ⟨Or.inl rfl, b1.2⟩
    · unfold pcOk; rw [hz 6 (by decide), hz 7 (by decide)]; exact b2
    · unfold pieceOk
      rw [hz 5 (by decide), hz 6 (by decide), hz 7 (by decide), hz 8 (by decide), hz 18 (by decide)]
      exact ⟨fun c => ⟨(bpi.1 c).1, (bpi.1 c).2.1, (bpi.1 c).2.2.1, fun k k1 k2 => by rw [hz k (by omega)]; exact (bpi.1 c).2.2.2 k k1 k2⟩, bpi.2⟩
    · rw [hz 12 (by decide), yk 12 (by decide) (by decide)]; exact h12
    · rw [hz 9 (by decide)]; exact b9
    · rw [hz 5 (by decide), yk 5 (by decide) (by decide)]; exact h5
    · rw [hz 11 (by decide)]; exact b11
/-- the piece is lost -/
theorem lose_ok {x : Nat → Int} {l : List zAc} {D : Nat} (hpl : planOk l) (hD : D < l.length) (a0 : x 0 = 0 ∨ x 0 = 1) (a0' : x 0 ≠ 0) (a9 : x 9 = -1) (a11 : x 11 = 0) (a12 : 0 ≤ x 12 ∧ x 12 ≤ 31) (acut : (0 ≤ x 17 ∧ x 17 < D) ∧ ∃ q, l[(x 17).toNat]? = some q ∧ q.1 = 2) (ahe : ∀ f : Nat, f < 5 → bAnd (x 12) (bShl 1 (f : Int)) ≠ 0 → givenL l D f) : slOk (loseF x) l := by
  have hl60 := hpl.2.1.1
  have y2 : loseF x 2 = x 17 := rfl
  have y16 : loseF x 16 = 0 := rfl
  have yz : ∀ k, (5 ≤ k ∧ k ≤ 8) ∨ (20 ≤ k ∧ k ≤ 25) → loseF x k = 0 := fun k hk => by
    show (if k = 16 then 0 else if k = 2 then x 17 else if k = 13 then _ else vanishF x k) = 0
    rw [if_neg (by omega), if_neg (by omega), if_neg (by omega)]
    exact if_pos (by omega)
  have yk : ∀ k, k = 0 ∨ (9 ≤ k ∧ k ≤ 12) ∨ k = 17 → loseF x k = x k := fun k hk => by
    show (if k = 16 then 0 else if k = 2 then x 17 else if k = 13 then _ else vanishF x k) = x k
    rw [if_neg (by omega), if_neg (by omega), if_neg (by omega)]
    exact if_neg (by omega)
  generalize loseF x = y at y2 y16 yz yk ⊢
  obtain ⟨⟨c1, c2⟩, q, c3, c4⟩ := acut
  refine ⟨⟨by rw [yk 0 (by omega)]; exact a0, Or.inl (yz 5 (by omega)), Or.inl (by rw [yk 11 (by omega)]; exact a11)⟩, ⟨by rw [yz 6 (by omega)]; omega, by rw [yz 7 (by omega)]; omega⟩, fun k k1 k2 => by rw [yz k (by omega)]; omega, by rw [yz 8 (by omega)]; omega, by omega, by rw [yk 9 (by omega)]; omega, by rw [yk 12 (by omega)]; exact a12, fun c => absurd ((yk 11 (by omega)).trans a11) c, ⟨fun _ => ⟨yz 6 (by omega), yz 7 (by omega), yz 8 (by omega), fun k k1 k2 => yz k (by omega)⟩, fun c => absurd (yz 5 (by omega)) c⟩, fun c => absurd ((yk 0 (by omega)).symm.trans c) a0', fun _ => ⟨hpl, by omega, ?_, ⟨by omega, fun r hr hw => ?_⟩, fun c => absurd (yz 5 (by omega)) c, fun f hf hh => ?_, fun c => by rw [yk 9 (by omega)] at c; omega, fun _ c => by rw [yk 9 (by omega)] at c; omega⟩⟩
  · rw [yz 5 (by omega), y2]
    exact ((hpl.2.2.1 _ q c3).2.1 c4).symm
  · rw [y2, c3] at hr
    have e := Option.some.inj hr
    subst e
    omega
  · rw [y2]
    rcases hh with z | z
    · rw [yk 12 (by omega)] at z
      exact (ahe f hf z).mono (by omega)
    · exact absurd ((yk 11 (by omega)).trans a11) z.1
/-- the piece alone has changed, the action goes on -/
theorem stay_ok {x y : Nat → Int} {l : List zAc} (h : slOk x l) (e : ∀ k, (k ≤ 5 ∨ (9 ≤ k ∧ k ≤ 15) ∨ (17 ≤ k ∧ k ≤ 18)) → y k = x k) (h0 : x 0 ≠ 0) (h5 : x 5 ≠ 0) (hpc : pcOk y) (hpb : pbOk y) (hcr : 0 ≤ y 8 ∧ y 8 ≤ 2) (hgo : 0 ≤ y 16 ∧ ∀ q, l[(x 2).toNat]? = some q → q.1 = 3 ∨ q.1 = 4 ∨ q.1 = 6 → y 16 < q.2.1) : slOk y l := by
  obtain ⟨b1, b2, b3, b4, b5, b6, b7, b8, b9, b10, b11⟩ := h
  obtain ⟨c1, c2, c3, c4, c5, c6, c7, c8⟩ := b11 h0
  refine ⟨?_, hpc, hpb, hcr, by rw [e 2 (by omega)]; exact b5, by rw [e 9 (by omega)]; exact b6, by rw [e 12 (by omega)]; exact b7, by rw [e 11 (by omega), e 9 (by omega)]; exact b8, ⟨fun c => absurd ((e 5 (by omega)).symm.trans c) h5, fun _ => by rw [e 18 (by omega)]; exact b9.2 h5⟩, fun c => absurd ((e 0 (by omega)).symm.trans c) h0, fun _ => ⟨c1, by rw [e 2 (by omega)]; exact c2, by rw [e 5 (by omega), e 2 (by omega)]; exact c3, ⟨hgo.1, by rw [e 2 (by omega)]; exact hgo.2⟩, by rw [e 5 (by omega), e 17 (by omega), e 2 (by omega)]; exact c5, by rw [e 12 (by omega), e 11 (by omega), e 9 (by omega), e 2 (by omega)]; exact c6, by rw [e 12 (by omega), e 9 (by omega)]; exact c7, by rw [e 11 (by omega), e 9 (by omega), e 2 (by omega)]; exact c8⟩⟩
  unfold flagOk
  rw [e 0 (by omega), e 5 (by omega), e 11 (by omega)]
  exact b1
/-- it waits for the frame that it wants to take -/
theorem await_ok {x : Nat → Int} {l : List zAc} {t : Int} {q : zAc} (h : slOk x l) (h0 : x 0 ≠ 0) (hq : l[(x 2).toNat]? = some q) (hw : q.1 = 0) (hf : 0 ≤ q.2.1 ∧ q.2.1 ≤ 4) (hn : bAnd (x 12) (bShl 1 q.2.1) = 0) (h11 : x 11 = 0) : slOk (awaitF x q.2.1 t 0) l := by
  obtain ⟨b1, b2, b3, b4, b5, b6, b7, b8, b9, b10, b11⟩ := h
  obtain ⟨c1, c2, c3, c4, c5, c6, c7, c8⟩ := b11 h0
  have y9 : awaitF x q.2.1 t 0 9 = q.2.1 := rfl
  have y11 : awaitF x q.2.1 t 0 11 = 0 := rfl
  have e : ∀ k, k ≠ 9 → k ≠ 10 → k ≠ 11 → awaitF x q.2.1 t 0 k = x k := fun k k1 k2 k3 => (if_neg k3).trans ((if_neg k2).trans (if_neg k1))
  generalize awaitF x q.2.1 t 0 = y at y9 y11 e ⊢
  refine ⟨⟨by rw [e 0 (by decide) (by decide) (by decide)]; exact b1.1, by rw [e 5 (by decide) (by decide) (by decide)]; exact b1.2.1, Or.inl y11⟩, ?_, fun k k1 k2 => by rw [e k (by omega) (by omega) (by omega)]; exact b3 k k1 k2, by rw [e 8 (by decide) (by decide) (by decide)]; exact b4, by rw [e 2 (by decide) (by decide) (by decide)]; exact b5, by omega, by rw [e 12 (by decide) (by decide) (by decide)]; exact b7, fun c => absurd y11 c, ?_, fun c => absurd ((e 0 (by decide) (by decide) (by decide)).symm.trans c) h0, fun _ => ⟨c1, by rw [e 2 (by decide) (by decide) (by decide)]; exact c2, by rw [e 5 (by decide) (by decide) (by decide), e 2 (by decide) (by decide) (by decide)]; exact c3, by rw [e 16 (by decide) (by decide) (by decide), e 2 (by decide) (by decide) (by decide)]; exact c4, by rw [e 5 (by decide) (by decide) (by decide), e 17 (by decide) (by decide) (by decide), e 2 (by decide) (by decide) (by decide)]; exact c5, fun f hf hh => ?_, fun _ => ?_, fun _ _ => ?_⟩⟩
  · unfold pcOk; rw [e 6 (by decide) (by decide) (by decide), e 7 (by decide) (by decide) (by decide)]; exact b2
  · unfold pieceOk
    rw [e 5 (by decide) (by decide) (by decide), e 6 (by decide) (by decide) (by decide), e 7 (by decide) (by decide) (by decide), e 8 (by decide) (by decide) (by decide), e 18 (by decide) (by decide) (by decide)]
    exact ⟨fun c => ⟨(b9.1 c).1, (b9.1 c).2.1, (b9.1 c).2.2.1, fun k k1 k2 => by rw [e k (by omega) (by omega) (by omega)]; exact (b9.1 c).2.2.2 k k1 k2⟩, b9.2⟩
  · rw [e 2 (by decide) (by decide) (by decide)]
    rcases hh with z | z
    · rw [e 12 (by decide) (by decide) (by decide)] at z
      exact c6 f hf (Or.inl z)
    · exact absurd y11 z.1
  · rw [y9, e 12 (by decide) (by decide) (by decide)]; exact hn
  · rw [e 2 (by decide) (by decide) (by decide), y9]
    exact ⟨q, hq, hw, rfl⟩
/-- it gets the frame that it waits for -/
theorem receive_ok {x : Nat → Int} {l : List zAc} {f : Nat} (h : slOk x l) (hf : f < 5) (h9 : x 9 = (f : Int)) : slOk (receiveF x (f : Int)) l := by
  obtain ⟨b1, b2, b3, b4, b5, b6, b7, b8, b9, b10, b11⟩ := h
  have h0 : x 0 ≠ 0 := fun c => by
    have := (b10 c).2.1
    omega
  obtain ⟨c1, c2, c3, c4, c5, c6, c7, c8⟩ := b11 h0
  have y9 : receiveF x (f : Int) 9 = -1 := rfl
  have y11 : receiveF x (f : Int) 11 = 0 := rfl
  have y12 : receiveF x (f : Int) 12 = bOr (x 12) (bShl 1 (f : Int)) := rfl
  have e : ∀ k, k ≠ 9 → k ≠ 10 → k ≠ 11 → k ≠ 12 → receiveF x (f : Int) k = x k := fun k k1 k2 k3 k4 => (if_neg k3).trans ((if_neg k2).trans ((if_neg k1).trans (if_neg k4)))
  generalize receiveF x (f : Int) = y at y9 y11 y12 e ⊢
  have e0 : y 0 = x 0 := e 0 (by decide) (by decide) (by decide) (by decide)
  have e2 : y 2 = x 2 := e 2 (by decide) (by decide) (by decide) (by decide)
  have e5 : y 5 = x 5 := e 5 (by decide) (by decide) (by decide) (by decide)
  have e6 : y 6 = x 6 := e 6 (by decide) (by decide) (by decide) (by decide)
  have e7 : y 7 = x 7 := e 7 (by decide) (by decide) (by decide) (by decide)
  have e8 : y 8 = x 8 := e 8 (by decide) (by decide) (by decide) (by decide)
  have e16 : y 16 = x 16 := e 16 (by decide) (by decide) (by decide) (by decide)
  have e17 : y 17 = x 17 := e 17 (by decide) (by decide) (by decide) (by decide)
  have e18 : y 18 = x 18 := e 18 (by decide) (by decide) (by decide) (by decide)
  refine ⟨⟨by rw [e0]; exact b1.1, by rw [e5]; exact b1.2.1, Or.inl y11⟩, by unfold pcOk; rw [e6, e7]; exact b2, fun k k1 k2 => by rw [e k (by omega) (by omega) (by omega) (by omega)]; exact b3 k k1 k2, by rw [e8]; exact b4, by rw [e2]; exact b5, by omega, by rw [y12]; exact (bit_3 b7 hf).1, fun c => absurd y11 c, ?_, fun c => absurd (e0.symm.trans c) h0, fun _ => ⟨c1, by rw [e2]; exact c2, by rw [e5, e2]; exact c3, by rw [e16, e2]; exact c4, by rw [e5, e17, e2]; exact c5, fun g hg hh => ?_, fun c => by omega, fun _ c => by omega⟩⟩
  · unfold pieceOk
    rw [e5, e6, e7, e8, e18]
    exact ⟨fun c => ⟨(b9.1 c).1, (b9.1 c).2.1, (b9.1 c).2.2.1, fun k k1 k2 => by rw [e k (by omega) (by omega) (by omega) (by omega)]; exact (b9.1 c).2.2.2 k k1 k2⟩, b9.2⟩
  · rw [e2]
    rcases hh with z | z
    · rw [y12] at z
      by_cases cg : g = f
      · subst cg
        by_cases cl : x 11 = 0
        · obtain ⟨q, q1, q2, q3⟩ := c8 cl (by omega)
          have := (c1.2.2.1 _ q q1).1 q2
          rw [q3, h9] at this
          exact this.mono (by omega)
        · exact c6 g hg (Or.inr ⟨cl, h9⟩)
      · exact c6 g hg (Or.inl (fun w => z ((bit_4 b7 hf hg).1.mpr ⟨cg, w⟩)))
    · exact absurd y11 z.1
