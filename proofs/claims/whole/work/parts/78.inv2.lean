/-! what a tick keeps: the yard -/
theorem endF_ok {y : zPk} {n : Int} (h : pkOk y) (hn : 0 ≤ n ∧ n ≤ y.2.1) : pkOk (endF y n) := by
  obtain ⟨h1, h2, h3, h4, h5⟩ := h
  refine ⟨h1, ⟨by show 0 ≤ y.2.1 - n; omega, by show y.2.1 - n ≤ 300; omega⟩, h3, fun k hk => ?_, ?_⟩
  · obtain ⟨q, hq, e⟩ := List.mem_map.mp hk
    have q1 := List.mem_filter.mp hq
    have q2 := of_decide_eq_true q1.2
    have q3 := h4 q q1.1
    show 0 ≤ k ∧ k < y.2.1 - n
    omega
  · show ((y.2.2.2.filter (fun k => decide (n ≤ k))).map (fun k => k - n)).Pairwise (· < ·)
    rw [List.pairwise_map]
    exact (h5.filter _).imp (fun hab => by omega)
theorem shortF_ok {y : zPk} {n : Int} (h : pkOk y) (hn : 0 ≤ n ∧ n ≤ y.2.1) : pkOk (shortF y n) := by
  obtain ⟨h1, h2, h3, h4, h5⟩ := h
  refine ⟨h1, ⟨hn.1, by show n ≤ 300; omega⟩, h3, fun k hk => ?_, h5.filter _⟩
  have q1 := List.mem_filter.mp hk
  have q2 := of_decide_eq_true q1.2
  have q3 := h4 k q1.1
  show 0 ≤ k ∧ k < n
  omega
theorem nearF_100 {a : Int} (h : 0 ≤ a ∧ a ≤ 100) : 0 ≤ nearF a 15 1 ∧ nearF a 15 1 ≤ 100 := by
  rw [← near_1]
  rcases sgn_pm (15 - a) with ⟨h1, h2⟩ | ⟨h1, h2⟩ | ⟨h1, h2⟩ <;> rw [h2] <;> omega
theorem wetF_ok {y : zPk} (h : pkOk y) : pkOk (wetF y) := by
  unfold wetF
  split
  · exact h
  · exact ⟨h.1, h.2.1, nearF_100 h.2.2.1, h.2.2.2⟩
theorem stOk_cut {n j : Nat} {y : Nat → zPk} {p l : Int} (h : stOk n y) (hj : j < n) (hp : 0 ≤ p ∧ 0 ≤ l ∧ p + l ≤ (y j).2.1) : stOk (cutN n (y j) p l) (cutY n y j p l) := by
  intro i hi
  have hs : pkOk (shortF (y j) (if p < 10 then 0 else p)) := shortF_ok (h j hj) (by
    have := (h j hj).2.1
    split <;> omega)
  unfold cutN at hi
  unfold cutY
  by_cases c : i = j
  · rw [show up1 _ j (shortF (y j) (if p < 10 then 0 else p)) i = shortF (y j) (if p < 10 then 0 else p) from if_pos c]; exact hs
  · rw [show up1 (if cutB n (y j) p l then y else up1 y n (endF (y j) (p + l))) j (shortF (y j) (if p < 10 then 0 else p)) i = (if cutB n (y j) p l then y else up1 y n (endF (y j) (p + l))) i from if_neg c]
    by_cases cb : cutB n (y j) p l
    · rw [if_pos cb] at hi ⊢
      exact h i hi
    · rw [if_neg cb] at hi ⊢
      by_cases cn : i = n
      · rw [show up1 y n (endF (y j) (p + l)) i = endF (y j) (p + l) from if_pos cn]
        exact endF_ok (h j hj) (by omega)
      · rw [show up1 y n (endF (y j) (p + l)) i = y i from if_neg cn]
        exact h i (by omega)
theorem cutN_60 {n : Nat} {y : zPk} {p l : Int} (h : n ≤ 60) : cutN n y p l ≤ 60 := by
  unfold cutN
  split
  · exact h
  · rename_i z
    unfold cutB at z
    omega
def yOkX (Y : zY) (i : Nat) : Prop := (stOk (yN Y) (yY Y) ∧ yN Y ≤ 60) ∧ (yS Y ≤ 6 ∧ (∀ k, k < 6 → k ≠ i → slOk (yX Y k) (yL Y k)) ∧ ∀ k, yS Y ≤ k → k < 6 → yX Y k 0 = 0) ∧ eOk Y ∧ 0 ≤ yG Y 1
theorem yOk.X {Y : zY} (h : yOk Y) (i : Nat) : yOkX Y i := ⟨h.1, ⟨h.2.1.1, fun k hk _ => h.2.1.2.1 k hk, h.2.1.2.2⟩, h.2.2.1, h.2.2.2⟩
theorem yOkX.x {Y : zY} {i : Nat} {x' : Nat → Int} (h : yOkX Y i) (hi : i < yS Y) (e : x' 12 = yX Y i 12) : yOkX (yx Y i x') i := by
  refine ⟨h.1, ⟨h.2.1.1, fun k hk hn => ?_, fun k hk h6 => ?_⟩, fun j hj => ⟨(h.2.2.1 j hj).1, ?_⟩, h.2.2.2⟩
  · rw [show yX (yx Y i x') k = yX Y k from if_neg hn]; exact h.2.1.2.1 k hk hn
  · rw [show yX (yx Y i x') k = yX Y k from if_neg (by have : yS Y ≤ k := hk; omega)]; exact h.2.1.2.2 k hk h6
  · refine (h.2.2.1 j hj).2.trans (freeZ_cg (fun k hk => ?_)).symm
    by_cases c : k = i
    · rw [show yX (yx Y i x') k = x' from if_pos c, e, c]
    · rw [show yX (yx Y i x') k = yX Y k from if_neg c]
theorem yOkX.set {Y : zY} {i : Nat} {x' : Nat → Int} (h : yOkX Y i) (hi : i < yS Y) (e : x' 12 = yX Y i 12) (hs : slOk x' (yL Y i)) : yOk (yx Y i x') := by
  have g := h.x hi e
  refine ⟨g.1, ⟨g.2.1.1, fun k hk => ?_, g.2.1.2.2⟩, g.2.2⟩
  by_cases c : k = i
  · subst c
    rw [show yX (yx Y k x') k = x' from if_pos rfl]; exact hs
  · exact g.2.1.2.1 k hk c
theorem yOk.g1 {Y : zY} {v : Int} (h : yOk Y) (hv : 0 ≤ v) : yOk (yg Y 1 v) := ⟨h.1, h.2.1, h.2.2.1, hv⟩
theorem yOk.g0 {Y : zY} {k : Nat} {v : Int} (h : yOk Y) (hk : k ≠ 1) : yOk (yg Y k v) := ⟨h.1, h.2.1, h.2.2.1, (show 0 ≤ up1 Y.1 k v 1 by rw [show up1 Y.1 k v 1 = Y.1 1 from if_neg (fun z => hk z.symm)]; exact h.2.2.2)⟩
theorem yOk.hh {Y : zY} {r : Nat} {row : Nat → Int} (h : yOk Y) : yOk (yh Y r row) := h
theorem yOk.gOk {Y : zY} (h : yOk Y) : gOk Y := by
  refine ⟨h.2.1.1, h.2.2.1, fun i hi => ?_⟩
  have hs := h.2.1.2.1 i hi
  refine ⟨hs.2.2.2.2.2.2.1, hs.2.2.2.2.2.1, fun c => ?_⟩
  have h0 : yX Y i 0 ≠ 0 := fun z => by
    have := (hs.2.2.2.2.2.2.2.2.2.1 z).2.1
    omega
  exact (hs.busy h0).2.2.2.2.2.2.1 c
theorem grant1_yOk {Y : zY} {i : Nat} (h : yOk Y) (hi : i < yS Y) : yOk (grant1 Y i) := by
  have hg := grant1_ok h.gOk hi
  have h6 := h.2.1.1
  unfold grant1 at hg ⊢
  by_cases c : (0 ≤ yX Y i 9 ∧ yX Y i 9 < 5) ∧ 0 < yE Y (yX Y i 9).toNat
  · rw [if_pos c] at hg ⊢
    obtain ⟨f, hf⟩ := Int.eq_ofNat_of_zero_le c.1.1
    have hr := receive_ok (f := f) (h.2.1.2.1 i (by omega)) (by omega) hf
    rw [hf, Int.toNat_natCast] at hg ⊢
    refine ⟨h.1, ⟨h.2.1.1, fun k hk => ?_, fun k hk hk6 => ?_⟩, hg.2.1, h.2.2.2⟩
    · by_cases ck : k = i
      · subst ck
        rw [show yX (yx (ye Y f (wr (yE Y f - 1))) k (receiveF (yX Y k) (f : Int))) k = receiveF (yX Y k) (f : Int) from if_pos rfl]
        exact hr
      · rw [show yX (yx (ye Y f (wr (yE Y f - 1))) i (receiveF (yX Y i) (f : Int))) k = yX Y k from if_neg ck]
        exact h.2.1.2.1 k hk
    · have hk' : yS Y ≤ k := hk
      rw [show yX (yx (ye Y f (wr (yE Y f - 1))) i (receiveF (yX Y i) (f : Int))) k = yX Y k from if_neg (by omega)]
      exact h.2.1.2.2 k hk hk6
  · rw [if_neg c]; exact h
theorem grantR_yOk : ∀ (k : Nat) {Y : zY} {seen : Int}, yOk Y → yOk (grantR k Y seen)
  | 0, _, _, h => h
  | k + 1, Y, seen, h => by
    unfold grantR
    split
    · exact h
    · have hb := longF_in (yX Y) seen (yS Y)
      exact grantR_yOk k (grant1_yOk h (by omega))
theorem goOnY {Y : zY} {i D : Nat} (h : yOkX Y i) (hi : i < yS Y) (hg : yG Y 1 < 2000000000) (hx2 : yX Y i 2 = (D : Int)) (hD : D < (yL Y i).length) (hpl : planOk (yL Y i)) (a1 : flagOk (yX Y i)) (a2 : pcOk (yX Y i)) (a3 : pbOk (yX Y i)) (a4 : 0 ≤ yX Y i 8 ∧ yX Y i 8 ≤ 2) (a9 : yX Y i 9 = -1) (a11 : yX Y i 11 = 0) (a12 : 0 ≤ yX Y i 12 ∧ yX Y i 12 ≤ 31) (api : pieceOk (yX Y i)) (a0 : yX Y i 0 ≠ 0) (ahp : yX Y i 5 = hpL (yL Y i) (D + 1)) (acut : yX Y i 5 ≠ 0 → (0 ≤ yX Y i 17 ∧ yX Y i 17 ≤ D) ∧ ∃ q, (yL Y i)[(yX Y i 17).toNat]? = some q ∧ q.1 = 2) (ahe : ∀ f : Nat, f < 5 → bAnd (yX Y i 12) (bShl 1 (f : Int)) ≠ 0 → givenL (yL Y i) (D + 1) f) : yOk (setR Y i 1) := by
  have hgo := goOn_ok hx2 hD hpl a1 a2 a3 a4 a9 a11 a12 api a0 ahp acut ahe
  have hl60 := hpl.2.1.1
  have hse : setR Y i 1 = if actP (goOnF (yX Y i)) (yL Y i) = none then finF (yx Y i (goOnF (yX Y i))) i else yx Y i (goOnF (yX Y i)) := (if_neg (by decide)).trans (if_pos rfl)
  have eA : actP (goOnF (yX Y i)) (yL Y i) = (yL Y i)[D + 1]? := by
    unfold actP
    rw [if_pos (show goOnF (yX Y i) 0 ≠ 0 from a0), show goOnF (yX Y i) 2 = ((D + 1 : Nat) : Int) by show wr (yX Y i 2 + 1) = _; rw [hx2, wr_s (by omega)], Int.toNat_natCast]
  rw [hse, eA]
  by_cases c : D + 1 < (yL Y i).length
  · have hne : (yL Y i)[D + 1]? ≠ none := fun z => by
      have := List.getElem?_eq_none_iff.mp z
      omega
    rw [if_neg hne]
    exact h.set hi rfl (hgo.1 c)
  · have hne : (yL Y i)[D + 1]? = none := List.getElem?_eq_none (by omega)
    rw [if_pos hne]
    have hx1 := h.x (x' := goOnF (yX Y i)) hi rfl
    have eX : yX (yx Y i (goOnF (yX Y i))) i = goOnF (yX Y i) := if_pos rfl
    have hz := hx1.set (x' := up1 (yX (yx Y i (goOnF (yX Y i))) i) 0 0) hi rfl (by rw [eX]; exact hgo.2 (by omega))
    have hw : 0 ≤ wr (yG Y 1 + 1) := by
      have h0 : 0 ≤ yG Y 1 := h.2.2.2
      rw [wr_id (by omega) (by omega)]; omega
    unfold finF
    split
    · exact hz.g1 hw
    · exact hz.hh.g1 hw
theorem nearB_ok {z : Nat → Int} {g : Int} (h : pbOk z) (hg : 0 ≤ g) : pbOk (nearB z g) := by
  intro k k1 k2
  have n0 := nearF_in (h 20 (by omega) (by omega)) (h 23 (by omega) (by omega)) hg
  have n1 := nearF_in (h 21 (by omega) (by omega)) (h 24 (by omega) (by omega)) hg
  have n2 := nearF_in (h 22 (by omega) (by omega)) (h 25 (by omega) (by omega)) hg
  show 0 ≤ (if k = 22 then nearF (z 22) (z 25) g else if k = 21 then nearF (z 21) (z 24) g else if k = 20 then nearF (z 20) (z 23) g else z k) ∧ (if k = 22 then nearF (z 22) (z 25) g else if k = 21 then nearF (z 21) (z 24) g else if k = 20 then nearF (z 20) (z 23) g else z k) ≤ 40
  split
  · exact n2
  · split
    · exact n1
    · split
      · exact n0
      · exact h k k1 k2
theorem act_yOk {Y : zY} {i : Nat} (h : yOk Y) (hi : i < yS Y) (hg : yG Y 1 < 2000000000) : yOk (actF Y i) := by
  have h6 := h.2.1.1
  have hs := h.2.1.2.1 i (by omega)
  by_cases h0 : yX Y i 0 = 0
  · rw [actF_idle h0]; exact h
  by_cases h11 : yX Y i 11 ≠ 0
  · rw [show actF Y i = Y from if_pos h11]; exact h
  have h11' := Decidable.not_not.mp h11
  obtain ⟨hfl, hpc, hpb, hcr, h2r, h9r, h12r, h11w, hpi, -, hbz⟩ := id hs
  obtain ⟨hpl, hdn, hhp, hgo, hca, hhe, hwb, hwt⟩ := hbz h0
  obtain ⟨D, hD⟩ := Int.eq_ofNat_of_zero_le hdn.1
  rw [hD] at hdn hca
  rw [hD, Int.toNat_natCast] at hhp hgo hhe hwt
  have hDl : D < (yL Y i).length := by omega
  obtain ⟨q, hq⟩ : ∃ q, (yL Y i)[D]? = some q := ⟨_, List.getElem?_eq_getElem hDl⟩
  have hqm : q ∈ yL Y i := List.mem_of_getElem? hq
  obtain ⟨o1, o2, o3, o4, o5⟩ := hpl.1 q hqm
  have hpq := hpl.2.2.1 D q hq
  have hps := hpL_s hq
  have hwk : workR Y i = workQ Y i q := by
    unfold workR
    have : actP (yX Y i) (yL Y i) = some q := by
      unfold actP
      rw [if_pos h0, hD, Int.toNat_natCast]; exact hq
    rw [this]
  have hac : actF Y i = setR (workQ Y i q).2 i (workQ Y i q).1 := by
    unfold actF
    rw [if_neg h11, hwk]
  rw [hac]
  -- not a wait, unless it wants to take
  have hnw : q.1 ≠ 0 → yX Y i 9 = -1 := fun c => Decidable.byContradiction (fun z => by
    obtain ⟨r, r1, r2, -⟩ := hwt h11' (by omega)
    rw [hq] at r1
    rw [Option.some.inj r1] at c
    exact c r2)
  have hcut1 : yX Y i 5 ≠ 0 → (0 ≤ yX Y i 17 ∧ yX Y i 17 ≤ D) ∧ ∃ q, (yL Y i)[(yX Y i 17).toNat]? = some q ∧ q.1 = 2 := fun c => ⟨by have := (hca c).1; omega, (hca c).2⟩
  have hheld : (q.1 ≠ 1 ∨ bAnd (yX Y i 12) (bShl 1 q.2.1) = 0) → ∀ f : Nat, f < 5 → bAnd (yX Y i 12) (bShl 1 (f : Int)) ≠ 0 → givenL (yL Y i) (D + 1) f := fun c f hf hb => (hhe f hf (Or.inl hb)).step hq (fun z => by
    rcases c with c | c
    · exact c z.1
    · rw [z.2] at c; exact hb c)
  unfold workQ
  by_cases n0 : q.1 = 0
  · rw [if_pos n0]
    have hv := o2 (by omega)
    unfold takeR
    by_cases cb : bAnd (yX Y i 12) (bShl 1 q.2.1) = 0
    · rw [if_pos cb]
      show yOk (setR (if yX Y i 9 < 0 then yx Y i (awaitF (yX Y i) q.2.1 (yG Y 0) 0) else Y) i 0)
      rw [show ∀ W, setR W i 0 = W from fun W => (if_neg (by decide)).trans (if_neg (by decide))]
      by_cases c9 : yX Y i 9 < 0
      · rw [if_pos c9]
        exact (h.X i).set hi rfl (await_ok hs h0 (by rw [hD, Int.toNat_natCast]; exact hq) n0 hv cb h11')
      · rw [if_neg c9]; exact h
    · rw [if_neg cb]
      have h9' : yX Y i 9 = -1 := Decidable.byContradiction (fun z => by
        obtain ⟨r, r1, r2, r3⟩ := hwt h11' (by omega)
        rw [hq] at r1
        rw [← Option.some.inj r1] at r3
        have := hwb (by omega)
        rw [← r3] at this
        exact cb this)
      exact goOnY (h.X i) hi hg hD hDl hpl hfl hpc hpb hcr h9' h11' h12r hpi h0 (by rw [hps, if_neg (by omega), if_neg (by omega)]; exact hhp) hcut1 (hheld (Or.inl (by omega)))
  rw [if_neg n0]
  by_cases n1 : q.1 = 1
  · rw [if_pos n1]
    have hv := o2 (by omega)
    obtain ⟨g, hgf⟩ := Int.eq_ofNat_of_zero_le hv.1
    unfold giveR
    by_cases cb : bAnd (yX Y i 12) (bShl 1 q.2.1) = 0
    · rw [if_pos cb]
      exact goOnY (h.X i) hi hg hD hDl hpl hfl hpc hpb hcr (hnw n0) h11' h12r hpi h0 (by rw [hps, if_neg (by omega), if_neg (by omega)]; exact hhp) hcut1 (hheld (Or.inr cb))
    · rw [if_neg cb]
      rw [hgf] at cb ⊢
      rw [Int.toNat_natCast]
      have hg5 : g < 5 := by omega
      have b3 := (bit_3 h12r hg5).2
      have eX : yX (ye (yx Y i (releaseF (yX Y i) (g : Int))) g (wr (yE Y g + 1))) i = releaseF (yX Y i) (g : Int) := if_pos rfl
      have e12 : releaseF (yX Y i) (g : Int) 12 = bAnd (yX Y i 12) (bXor (bShl 1 (g : Int)) (-1)) := rfl
      have ek : ∀ k, k ≠ 12 → releaseF (yX Y i) (g : Int) k = yX Y i k := fun k hk => if_neg hk
      have hX : yOkX (ye (yx Y i (releaseF (yX Y i) (g : Int))) g (wr (yE Y g + 1))) i := by
        refine ⟨h.1, ⟨h.2.1.1, fun k hk hn => ?_, fun k hk h6 => ?_⟩, fun j hj => ⟨(h.2.2.1 j hj).1, ?_⟩, h.2.2.2⟩
        · rw [show yX (ye (yx Y i (releaseF (yX Y i) (g : Int))) g (wr (yE Y g + 1))) k = yX Y k from if_neg hn]; exact h.2.1.2.1 k hk
        · have hk' : yS Y ≤ k := hk
          rw [show yX (ye (yx Y i (releaseF (yX Y i) (g : Int))) g (wr (yE Y g + 1))) k = yX Y k from if_neg (by omega)]; exact h.2.1.2.2 k hk h6
        · show (if j = g then wr (yE Y g + 1) else yE Y j) = freeZ (up1 (yX Y) i (releaseF (yX Y i) (g : Int))) (yF Y j) j (yS Y)
          rw [freeZ_up hi, e12]
          have hb := (bit_4 (h := yX Y i 12) (f := g) (g := j) h12r hg5 hj).2
          have hE := h.2.2.1 j hj
          have hfz := freeZ_in (x := yX Y) (F := yF Y j) (j := j) (n := yS Y)
          by_cases cj : j = g
          · subst cj
            rw [if_pos rfl, if_neg cb, if_pos (hb.mpr (Or.inl rfl)), wr_id (by omega) (by omega), hE.2]
            omega
          · rw [if_neg cj, hE.2]
            by_cases cb2 : bAnd (yX Y i 12) (bShl 1 (j : Int)) = 0
            · rw [if_pos cb2, if_pos (hb.mpr (Or.inr cb2))]; omega
            · rw [if_neg cb2, if_neg (fun z => by rcases hb.mp z with z | z; exact cj z; exact cb2 z)]; omega
      refine goOnY hX hi hg (by rw [eX, ek 2 (by decide)]; exact hD) hDl hpl ?_ ?_ ?_ (by rw [eX, ek 8 (by decide)]; exact hcr) (by rw [eX, ek 9 (by decide)]; exact hnw n0) (by rw [eX, ek 11 (by decide)]; exact h11') (by rw [eX, e12]; exact b3) ?_ (by rw [eX, ek 0 (by decide)]; exact h0) (by rw [eX, ek 5 (by decide), show yL (ye (yx Y i (releaseF (yX Y i) (g : Int))) g (wr (yE Y g + 1))) i = yL Y i from rfl, hps, if_neg (by omega), if_neg (by omega)]; exact hhp) (by rw [eX, ek 5 (by decide), ek 17 (by decide)]; exact hcut1) (fun f hf hb => ?_)
      · rw [eX]; unfold flagOk; rw [ek 0 (by decide), ek 5 (by decide), ek 11 (by decide)]; exact hfl
      · rw [eX]; unfold pcOk; rw [ek 6 (by decide), ek 7 (by decide)]; exact hpc
      · rw [eX]; exact fun k k1 k2 => by rw [ek k (by omega)]; exact hpb k k1 k2
      · rw [eX]; unfold pieceOk
        rw [ek 5 (by decide), ek 6 (by decide), ek 7 (by decide), ek 8 (by decide), ek 18 (by decide)]
        exact ⟨fun c => ⟨(hpi.1 c).1, (hpi.1 c).2.1, (hpi.1 c).2.2.1, fun k k1 k2 => by rw [ek k (by omega)]; exact (hpi.1 c).2.2.2 k k1 k2⟩, hpi.2⟩
      · rw [eX, e12] at hb
        have hb4 := (bit_4 (h := yX Y i 12) (f := g) (g := f) h12r hg5 hf).2
        exact (hhe f hf (Or.inl (fun z => hb (hb4.mpr (Or.inr z))))).step hq (fun z => hb (hb4.mpr (Or.inl (by have := z.2; omega))))
  rw [if_neg n1]
  have h9 := hnw n0
  by_cases n2 : q.1 = 2
  · rw [if_pos n2]
    have h5 : yX Y i 5 = 0 := by rw [hhp, hpq.2.1 n2]
    have hz := hpi.1 h5
    have hv := o3 n2
    unfold cutR
    by_cases cb : bestF (yY Y) q.2.1 q.2.2.1 (yN Y) < 0
    · rw [if_pos cb]
      show yOk (setR Y i 0)
      rw [show ∀ W, setR W i 0 = W from fun W => (if_neg (by decide)).trans (if_neg (by decide))]
      exact h
    · rw [if_neg cb]
      have hb := bestF_in (yY Y) q.2.1 q.2.2.1 (yN Y)
      have hcl := bestF_clear (y := yY Y) (w := q.2.1) (l := q.2.2.1) (i := yN Y) (by omega)
      obtain ⟨B, hB⟩ := Int.eq_ofNat_of_zero_le (show 0 ≤ bestF (yY Y) q.2.1 q.2.2.1 (yN Y) by omega)
      rw [hB] at hb
      rw [hB, Int.toNat_natCast] at hcl ⊢
      have hpo := h.1.1 B (by omega)
      have hin := clearL_in (Int.le_refl 0) hpo.2.2.2.1 hcl
      generalize hp0 : clearL (yY Y B).2.1 q.2.2.1 0 (yY Y B).2.2.2 = p0 at hcl hin ⊢
      have eX : yX (yst (yx Y i (getPF (yX Y i) q.2.1 (yY Y B).2.2.1)) (cutW (yG Y 3) (yN Y) (yY Y B) p0 q.2.2.1) (cutN (yN Y) (yY Y B) p0 q.2.2.1) (cutY (yN Y) (yY Y) B p0 q.2.2.1)) i = getPF (yX Y i) q.2.1 (yY Y B).2.2.1 := if_pos rfl
      have eg : yG (yst (yx Y i (getPF (yX Y i) q.2.1 (yY Y B).2.2.1)) (cutW (yG Y 3) (yN Y) (yY Y B) p0 q.2.2.1) (cutN (yN Y) (yY Y B) p0 q.2.2.1) (cutY (yN Y) (yY Y) B p0 q.2.2.1)) 1 = yG Y 1 := rfl
      have hX : yOkX (yst (yx Y i (getPF (yX Y i) q.2.1 (yY Y B).2.2.1)) (cutW (yG Y 3) (yN Y) (yY Y B) p0 q.2.2.1) (cutN (yN Y) (yY Y B) p0 q.2.2.1) (cutY (yN Y) (yY Y) B p0 q.2.2.1)) i := by
        have g := (h.X i).x (x' := getPF (yX Y i) q.2.1 (yY Y B).2.2.1) hi rfl
        exact ⟨⟨stOk_cut h.1.1 (by omega) ⟨hcl, by omega, hin⟩, cutN_60 h.1.2⟩, g.2.1, g.2.2.1, g.2.2.2⟩
      have e5 : getPF (yX Y i) q.2.1 (yY Y B).2.2.1 5 = 1 := rfl
      have e6 : getPF (yX Y i) q.2.1 (yY Y B).2.2.1 6 = (yY Y B).2.2.1 := rfl
      have e7 : getPF (yX Y i) q.2.1 (yY Y B).2.2.1 7 = 20 := rfl
      have e17 : getPF (yX Y i) q.2.1 (yY Y B).2.2.1 17 = yX Y i 2 := rfl
      have e18 : getPF (yX Y i) q.2.1 (yY Y B).2.2.1 18 = q.2.1 := rfl
      have ek : ∀ k, k ≠ 5 → k ≠ 6 → k ≠ 7 → k ≠ 17 → k ≠ 18 → getPF (yX Y i) q.2.1 (yY Y B).2.2.1 k = yX Y i k := fun k k5 k6 k7 k17 k18 => (if_neg k17).trans ((if_neg k7).trans ((if_neg k6).trans ((if_neg k18).trans (if_neg k5))))
      refine goOnY hX hi (by rw [eg]; exact hg) (by rw [eX, ek 2 (by decide) (by decide) (by decide) (by decide) (by decide)]; exact hD) hDl hpl ?_ ?_ ?_ (by rw [eX, ek 8 (by decide) (by decide) (by decide) (by decide) (by decide)]; exact hcr) (by rw [eX, ek 9 (by decide) (by decide) (by decide) (by decide) (by decide)]; exact h9) (by rw [eX, ek 11 (by decide) (by decide) (by decide) (by decide) (by decide)]; exact h11') (by rw [eX, ek 12 (by decide) (by decide) (by decide) (by decide) (by decide)]; exact h12r) ?_ (by rw [eX, ek 0 (by decide) (by decide) (by decide) (by decide) (by decide)]; exact h0) (by rw [eX, e5]; exact (hps.trans (if_pos n2)).symm) (fun _ => ?_) (by rw [eX, ek 12 (by decide) (by decide) (by decide) (by decide) (by decide)]; exact hheld (Or.inl n1))
      · rw [eX]; unfold flagOk; rw [ek 0 (by decide) (by decide) (by decide) (by decide) (by decide), e5, ek 11 (by decide) (by decide) (by decide) (by decide) (by decide)]; exact ⟨hfl.1, Or.inr rfl, hfl.2.2⟩
      · rw [eX]; unfold pcOk; rw [e6, e7]; exact ⟨hpo.2.2.1, by omega⟩
      · rw [eX]; exact fun k k1 k2 => by rw [ek k (by omega) (by omega) (by omega) (by omega) (by omega)]; exact hpb k k1 k2
      · rw [eX]; unfold pieceOk
        rw [e5, e18]
        exact ⟨fun c => absurd c (by decide), fun _ => hv.1⟩
      · rw [eX, e17, hD, Int.toNat_natCast]
        exact ⟨by omega, q, hq, n2⟩
  rw [if_neg n2]
  have h5 : yX Y i 5 = 1 := by rw [hhp, hpq.2.2 (by omega)]
  have h5n : yX Y i 5 ≠ 0 := by rw [h5]; decide
  have hcu := hca h5n
  have hcu' : (0 ≤ yX Y i 17 ∧ yX Y i 17 < D) ∧ ∃ q, (yL Y i)[(yX Y i 17).toNat]? = some q ∧ q.1 = 2 := ⟨by omega, hcu.2⟩
  -- the piece alone changes
  have hpiece : ∀ (ra : Int) (ry : Nat → Int), (ra = 0 ∨ ra = 1 ∨ ra = 2) → (∀ k, (k ≤ 2 ∨ (9 ≤ k ∧ k ≤ 12) ∨ k = 17) → ry k = yX Y i k) → (ra = 0 → slOk ry (yL Y i)) → (ra = 1 → pcOk ry ∧ pbOk ry ∧ (0 ≤ ry 8 ∧ ry 8 ≤ 2) ∧ flagOk ry ∧ pieceOk ry ∧ ry 5 = hpL (yL Y i) (D + 1)) → yOk (setR (yx Y i ry) i ra) := by
    intro ra ry hr hk c0 c1
    have eX : yX (yx Y i ry) i = ry := if_pos rfl
    have e12 := hk 12 (by omega)
    rcases hr with z | z | z
    · rw [z, show ∀ W, setR W i 0 = W from fun W => (if_neg (by decide)).trans (if_neg (by decide))]
      exact (h.X i).set hi e12 (c0 z)
    · rw [z]
      obtain ⟨d1, d2, d3, d4, d5, d6⟩ := c1 z
      exact goOnY ((h.X i).x hi e12) hi hg (by rw [eX, hk 2 (by omega)]; exact hD) hDl hpl (by rw [eX]; exact d4) (by rw [eX]; exact d1) (by rw [eX]; exact d2) (by rw [eX]; exact d3) (by rw [eX, hk 9 (by omega)]; exact h9) (by rw [eX, hk 11 (by omega)]; exact h11') (by rw [eX, e12]; exact h12r) (by rw [eX]; exact d5) (by rw [eX, hk 0 (by omega)]; exact h0) (by rw [eX]; exact d6) (by rw [eX, hk 17 (by omega)]; exact fun _ => hcut1 h5n) (by rw [eX, e12]; exact hheld (Or.inl n1))
    · rw [z]
      have hlo := lose_ok (x := ry) hpl hDl (by rw [hk 0 (by omega)]; exact hfl.1) (by rw [hk 0 (by omega)]; exact h0) (by rw [hk 9 (by omega)]; exact h9) (by rw [hk 11 (by omega)]; exact h11') (by rw [e12]; exact h12r) (by rw [hk 17 (by omega)]; exact hcu') (fun f hf hb => hhe f hf (Or.inl (by rwa [e12] at hb)))
      show yOk (yg (yx (yx Y i ry) i (loseF (yX (yx Y i ry) i))) 2 (wr (yG Y 2 + 1)))
      rw [eX]
      refine (((h.X i).x hi e12).set hi ?_ hlo).g0 (by decide)
      rw [eX]; rfl
  by_cases n5 : q.1 = 5
  · rw [if_pos n5]
    have hv := o4 n5
    have hpcT : pcOk (tgtF (yX Y i) q.2.1 q.2.2.1 q.2.2.2) := hpc
    have hsi := stepF_in hpc
    have hpbT : pbOk (tgtF (yX Y i) q.2.1 q.2.2.1 q.2.2.2) := by
      intro k hk1 hk2
      show 0 ≤ (if k = 25 then q.2.2.2 else if k = 24 then q.2.2.1 else if k = 23 then q.2.1 else yX Y i k) ∧ (if k = 25 then q.2.2.2 else if k = 24 then q.2.2.1 else if k = 23 then q.2.1 else yX Y i k) ≤ 40
      split
      · exact hv.2.2
      · split
        · exact hv.2.1
        · split
          · exact hv.1
          · exact hpb k hk1 hk2
    -- shape of what comes out when it is not lost
    have hshape : ∀ (z : Nat → Int), pcOk z → pbOk z → (0 ≤ z 8 ∧ z 8 ≤ 2) → (∀ k, (k ≤ 5 ∨ (9 ≤ k ∧ k ≤ 18)) → z k = yX Y i k) → pcOk (dryF (coolF z 10) 1) ∧ pbOk (dryF (coolF z 10) 1) ∧ (0 ≤ dryF (coolF z 10) 1 8 ∧ dryF (coolF z 10) 1 8 ≤ 2) ∧ (∀ k, (k ≤ 5 ∨ (9 ≤ k ∧ k ≤ 18)) → dryF (coolF z 10) 1 k = yX Y i k) := by
      intro z z1 z2 z3 z4
      have ek : ∀ k, k ≠ 6 → k ≠ 7 → dryF (coolF z 10) 1 k = z k := fun k k6 k7 => (if_neg k6).trans (if_neg k7)
      exact ⟨dryF_ok (coolF_ok z1 (by decide)) (by decide), fun k k1 k2 => by rw [ek k (by omega) (by omega)]; exact z2 k k1 k2, by rw [ek 8 (by decide) (by decide)]; exact z3, fun k hk => by rw [ek k (by omega) (by omega)]; exact z4 k hk⟩
    have hout : ∀ (r : Int × (Nat → Int)), (r.1 = 0 ∨ r.1 = 1 ∨ r.1 = 2) → (∀ k, (k ≤ 5 ∨ (9 ≤ k ∧ k ≤ 18)) → r.2 k = yX Y i k) → (r.1 ≠ 2 → pcOk r.2 ∧ pbOk r.2 ∧ (0 ≤ r.2 8 ∧ r.2 8 ≤ 2)) → yOk (setR (yx Y i r.2) i r.1) := by
      intro r hr hk hok
      refine hpiece r.1 r.2 hr (fun k hk2 => hk k (by omega)) (fun c => ?_) (fun c => ?_)
      · obtain ⟨d1, d2, d3⟩ := hok (by omega)
        exact stay_ok hs (fun k hk2 => hk k (by omega)) h0 h5n d1 d2 d3 (by rw [hk 16 (by omega), hD, Int.toNat_natCast]; exact hgo)
      · obtain ⟨d1, d2, d3⟩ := hok (by omega)
        refine ⟨d1, d2, d3, ?_, ?_, ?_⟩
        · unfold flagOk; rw [hk 0 (by omega), hk 5 (by omega), hk 11 (by omega)]; exact hfl
        · unfold pieceOk; rw [hk 5 (by omega), hk 18 (by omega)]; exact ⟨fun c => absurd c h5n, hpi.2⟩
        · rw [hk 5 (by omega), hps, if_neg n2, if_neg (by omega)]; exact hhp
    have htk : ∀ k, (k ≤ 5 ∨ (9 ≤ k ∧ k ≤ 18)) → tgtF (yX Y i) q.2.1 q.2.2.1 q.2.2.2 k = yX Y i k := fun k hk => (if_neg (by omega)).trans ((if_neg (by omega)).trans (if_neg (by omega)))
    refine hout (bendR (yX Y i) q.2.1 q.2.2.1 q.2.2.2) bendR_o ?_ ?_
    · unfold bendR
      by_cases c : stepF (yX Y i) = 0 ∧ ¬ meantF (tgtF (yX Y i) q.2.1 q.2.2.1 q.2.2.2)
      · rw [if_pos c]
        by_cases c3 : yX Y i 8 + 1 < 3
        · rw [if_pos c3]
          exact (hshape (up1 (tgtF (yX Y i) q.2.1 q.2.2.1 q.2.2.2) 8 (yX Y i 8 + 1)) hpcT (fun k k1 k2 => by rw [show up1 (tgtF (yX Y i) q.2.1 q.2.2.1 q.2.2.2) 8 (yX Y i 8 + 1) k = tgtF (yX Y i) q.2.1 q.2.2.1 q.2.2.2 k from if_neg (by omega)]; exact hpbT k k1 k2) (by show 0 ≤ yX Y i 8 + 1 ∧ yX Y i 8 + 1 ≤ 2; omega) (fun k hk => (if_neg (by omega)).trans (htk k hk))).2.2.2
        · rw [if_neg c3]
          exact fun k hk => (if_neg (by omega) : up1 (tgtF (yX Y i) q.2.1 q.2.2.1 q.2.2.2) 8 (yX Y i 8 + 1) k = _).trans (htk k hk)
      · rw [if_neg c]
        refine (hshape (nearB (tgtF (yX Y i) q.2.1 q.2.2.1 q.2.2.2) (stepF (yX Y i))) hpcT ?_ hcr (fun k hk => (if_neg (by omega)).trans ((if_neg (by omega)).trans ((if_neg (by omega)).trans (htk k hk))))).2.2.2
        exact nearB_ok hpbT hsi.1
    · intro hne
      unfold bendR at hne ⊢
      by_cases c : stepF (yX Y i) = 0 ∧ ¬ meantF (tgtF (yX Y i) q.2.1 q.2.2.1 q.2.2.2)
      · rw [if_pos c] at hne ⊢
        by_cases c3 : yX Y i 8 + 1 < 3
        · rw [if_pos c3]
          have hh := hshape (up1 (tgtF (yX Y i) q.2.1 q.2.2.1 q.2.2.2) 8 (yX Y i 8 + 1)) hpcT (fun k k1 k2 => by rw [show up1 (tgtF (yX Y i) q.2.1 q.2.2.1 q.2.2.2) 8 (yX Y i 8 + 1) k = tgtF (yX Y i) q.2.1 q.2.2.1 q.2.2.2 k from if_neg (by omega)]; exact hpbT k k1 k2) (by show 0 ≤ yX Y i 8 + 1 ∧ yX Y i 8 + 1 ≤ 2; omega) (fun k hk => (if_neg (by omega)).trans (htk k hk))
          exact ⟨hh.1, hh.2.1, hh.2.2.1⟩
        · rw [if_neg c3] at hne
          exact absurd rfl hne
      · rw [if_neg c]
        have hh := hshape (nearB (tgtF (yX Y i) q.2.1 q.2.2.1 q.2.2.2) (stepF (yX Y i))) hpcT (nearB_ok hpbT hsi.1) hcr (fun k hk => (if_neg (by omega)).trans ((if_neg (by omega)).trans ((if_neg (by omega)).trans (htk k hk))))
        exact ⟨hh.1, hh.2.1, hh.2.2.1⟩
  rw [if_neg n5]
  by_cases n7 : q.1 = 7
  · rw [if_pos n7]
    have hsp : ∀ k, ¬ (20 ≤ k ∧ k ≤ 22) → springF (yX Y i) k = yX Y i k := fun k hk => springF_out hk
    by_cases cf : springS (yX Y i) ≤ yX Y i 15
    · have er : fitR (yX Y i) = (1, up1 (up1 (vanishF (springF (yX Y i))) 3 (wr (yX Y i 3 + 1))) 4 (wr (yX Y i 4 + springS (yX Y i)))) := if_pos cf
      rw [er]
      have ev : ∀ k, (5 ≤ k ∧ k ≤ 8) ∨ k = 18 ∨ (20 ≤ k ∧ k ≤ 25) → up1 (up1 (vanishF (springF (yX Y i))) 3 (wr (yX Y i 3 + 1))) 4 (wr (yX Y i 4 + springS (yX Y i))) k = 0 := fun k hk => by
        show (if k = 4 then _ else if k = 3 then _ else vanishF (springF (yX Y i)) k) = 0
        rw [if_neg (by omega), if_neg (by omega)]
        exact if_pos hk
      have ek : ∀ k, (k ≤ 2 ∨ (9 ≤ k ∧ k ≤ 12) ∨ k = 17) → up1 (up1 (vanishF (springF (yX Y i))) 3 (wr (yX Y i 3 + 1))) 4 (wr (yX Y i 4 + springS (yX Y i))) k = yX Y i k := fun k hk => by
        show (if k = 4 then _ else if k = 3 then _ else vanishF (springF (yX Y i)) k) = _
        rw [if_neg (by omega), if_neg (by omega), show vanishF (springF (yX Y i)) k = springF (yX Y i) k from if_neg (by omega)]
        exact hsp k (by omega)
      generalize up1 (up1 (vanishF (springF (yX Y i))) 3 (wr (yX Y i 3 + 1))) 4 (wr (yX Y i 4 + springS (yX Y i))) = z at ev ek ⊢
      refine hpiece 1 z (Or.inr (Or.inl rfl)) ek (fun c => absurd c (by decide)) (fun _ => ?_)
      show pcOk z ∧ pbOk z ∧ (0 ≤ z 8 ∧ z 8 ≤ 2) ∧ flagOk z ∧ pieceOk z ∧ z 5 = hpL (yL Y i) (D + 1)
      refine ⟨⟨by rw [ev 6 (by omega)]; omega, by rw [ev 7 (by omega)]; omega⟩, fun k k1 k2 => by rw [ev k (by omega)]; omega, by rw [ev 8 (by omega)]; omega, ⟨by rw [ek 0 (by omega)]; exact hfl.1, Or.inl (ev 5 (by omega)), by rw [ek 11 (by omega)]; exact hfl.2.2⟩, ⟨fun _ => ⟨ev 6 (by omega), ev 7 (by omega), ev 8 (by omega), fun k k1 k2 => ev k (by omega)⟩, fun w => absurd (ev 5 (by omega)) w⟩, ?_⟩
      rw [ev 5 (by omega), hps, if_neg n2, if_pos n7]
    · have er : fitR (yX Y i) = (2, springF (yX Y i)) := if_neg cf
      rw [er]
      exact hpiece 2 (springF (yX Y i)) (Or.inr (Or.inr rfl)) (fun k hk => hsp k (by omega)) (fun c => absurd c (by decide)) (fun c => absurd c (by decide))
  rw [if_neg n7]
  have hq3 : q.1 = 3 ∨ q.1 = 4 ∨ q.1 = 6 := by omega
  have hto : ∀ k, k ≠ 6 → k ≠ 7 → treatY (yX Y i) q.1 k = yX Y i k := fun k k6 k7 => treatY_out ⟨k6, k7⟩
  have htp : pcOk (treatY (yX Y i) q.1) := by
    unfold treatY
    split
    · exact coolF_ok (x := up1 (yX Y i) 6 (if yX Y i 6 + 8 < 100 then yX Y i 6 + 8 else 100)) ⟨by show 0 ≤ (if yX Y i 6 + 8 < 100 then yX Y i 6 + 8 else 100) ∧ (if yX Y i 6 + 8 < 100 then yX Y i 6 + 8 else 100) ≤ 100; have := hpc.1; split <;> omega, hpc.2⟩ (by decide)
    · split
      · exact coolF_ok (dryF_ok hpc (by decide)) (by decide)
      · exact dryF_ok (x := up1 (yX Y i) 7 (if yX Y i 7 + 25 < 200 then yX Y i 7 + 25 else 200)) ⟨hpc.1, by show 0 ≤ (if yX Y i 7 + 25 < 200 then yX Y i 7 + 25 else 200) ∧ (if yX Y i 7 + 25 < 200 then yX Y i 7 + 25 else 200) ≤ 200; have := hpc.2; split <;> omega⟩ (by decide)
  have hg16 := hgo.2 q hq hq3
  have hf30 := o5 hq3
  have ew : wr (yX Y i 16 + 1) = yX Y i 16 + 1 := wr_id (by omega) (by omega)
  by_cases cl : q.1 ≠ 3 ∧ q.1 ≠ 6 ∧ 150 < treatY (yX Y i) q.1 7 ∧ treatY (yX Y i) q.1 6 < 10
  · have er : treatR (yX Y i) q.1 q.2.1 = (2, treatY (yX Y i) q.1) := if_pos cl
    rw [er]
    exact hpiece 2 (treatY (yX Y i) q.1) (Or.inr (Or.inr rfl)) (fun k hk => hto k (by omega) (by omega)) (fun c => absurd c (by decide)) (fun c => absurd c (by decide))
  · have er : treatR (yX Y i) q.1 q.2.1 = ((if yX Y i 16 + 1 < q.2.1 then 0 else 1), up1 (treatY (yX Y i) q.1) 16 (yX Y i 16 + 1)) := by
      unfold treatR
      rw [if_neg cl, ew]
    clear ew
    rw [er]
    have ek : ∀ k, k ≠ 6 → k ≠ 7 → k ≠ 16 → up1 (treatY (yX Y i) q.1) 16 (yX Y i 16 + 1) k = yX Y i k := fun k k6 k7 k16 => (if_neg k16).trans (hto k k6 k7)
    have e16 : up1 (treatY (yX Y i) q.1) 16 (yX Y i 16 + 1) 16 = yX Y i 16 + 1 := rfl
    have hpc2 : pcOk (up1 (treatY (yX Y i) q.1) 16 (yX Y i 16 + 1)) := htp
    have hpb2 : pbOk (up1 (treatY (yX Y i) q.1) 16 (yX Y i 16 + 1)) := fun k k1 k2 => by rw [ek k (by omega) (by omega) (by omega)]; exact hpb k k1 k2
    have hcr2 : 0 ≤ up1 (treatY (yX Y i) q.1) 16 (yX Y i 16 + 1) 8 ∧ up1 (treatY (yX Y i) q.1) 16 (yX Y i 16 + 1) 8 ≤ 2 := by rw [ek 8 (by decide) (by decide) (by decide)]; exact hcr
    refine hpiece (if yX Y i 16 + 1 < q.2.1 then 0 else 1) (up1 (treatY (yX Y i) q.1) 16 (yX Y i 16 + 1)) ?_ (fun k hk => ek k (by omega) (by omega) (by omega)) (fun c => ?_) (fun c => ?_)
    · show (if yX Y i 16 + 1 < q.2.1 then (0 : Int) else 1) = 0 ∨ (if yX Y i 16 + 1 < q.2.1 then (0 : Int) else 1) = 1 ∨ (if yX Y i 16 + 1 < q.2.1 then (0 : Int) else 1) = 2
      by_cases c : yX Y i 16 + 1 < q.2.1
      · rw [if_pos c]; exact Or.inl rfl
      · rw [if_neg c]; exact Or.inr (Or.inl rfl)
    · have c' : (if yX Y i 16 + 1 < q.2.1 then (0 : Int) else 1) = 0 := c
      have clt : yX Y i 16 + 1 < q.2.1 := Decidable.byContradiction (fun z => by rw [if_neg z] at c'; exact absurd c' (by decide))
      refine stay_ok hs (fun k hk => ek k (by omega) (by omega) (by omega)) h0 h5n hpc2 hpb2 hcr2 ⟨by rw [e16]; omega, fun r hr _ => ?_⟩
      rw [hD, Int.toNat_natCast, hq] at hr
      rw [e16, ← Option.some.inj hr]; exact clt
    · refine ⟨hpc2, hpb2, hcr2, ?_, ?_, ?_⟩
      · unfold flagOk; rw [ek 0 (by decide) (by decide) (by decide), ek 5 (by decide) (by decide) (by decide), ek 11 (by decide) (by decide) (by decide)]; exact hfl
      · unfold pieceOk; rw [ek 5 (by decide) (by decide) (by decide), ek 18 (by decide) (by decide) (by decide)]; exact ⟨fun c => absurd c h5n, hpi.2⟩
      · show up1 (treatY (yX Y i) q.1) 16 (yX Y i 16 + 1) 5 = _
        rw [ek 5 (by decide) (by decide) (by decide), hps, if_neg n2, if_neg n7]; exact hhp
