/-! what the other operations keep -/
theorem insF_ok {y : zPk} {p : Int} (h : pkOk y) (hp : 0 ≤ p ∧ p < y.2.1) : pkOk (insF y p) := by
  obtain ⟨h1, h2, h3, h4, h5⟩ := h
  refine ⟨h1, h2, h3, fun k hk => ?_, ?_⟩
  · have hk' : k ∈ y.2.2.2.filter (fun k => decide (k < p)) ++ p :: y.2.2.2.filter (fun k => decide (p < k)) := hk
    rcases List.mem_append.mp hk' with z | z
    · exact h4 k (List.mem_filter.mp z).1
    · rcases List.mem_cons.mp z with z | z
      · rw [z]; exact hp
      · exact h4 k (List.mem_filter.mp z).1
  · show (y.2.2.2.filter (fun k => decide (k < p)) ++ p :: y.2.2.2.filter (fun k => decide (p < k))).Pairwise (· < ·)
    refine List.pairwise_append.mpr ⟨h5.filter _, List.pairwise_cons.mpr ⟨fun k hk => ?_, h5.filter _⟩, fun a ha b hb => ?_⟩
    · exact of_decide_eq_true (List.mem_filter.mp hk).2
    · have a1 : a < p := of_decide_eq_true (List.mem_filter.mp ha).2
      rcases List.mem_cons.mp hb with z | z
      · rw [z]; exact a1
      · have b1 : p < b := of_decide_eq_true (List.mem_filter.mp z).2
        omega
theorem addPlank_ok {Y : zY} {c w l t : Int} (h : yOk Y) (h60 : yN Y < 60) (hw : 0 ≤ w ∧ w ≤ 3) (hl : 10 ≤ l ∧ l ≤ 300) (ht : 0 ≤ t ∧ t ≤ 100) : yOk (yst Y c (yN Y + 1) (up1 (yY Y) (yN Y) (w, l, t, []))) := by
  refine ⟨⟨fun i hi => ?_, by show yN Y + 1 ≤ 60; omega⟩, h.2.1, h.2.2.1, h.2.2.2⟩
  have hi' : i < yN Y + 1 := hi
  by_cases c1 : i = yN Y
  · rw [show yY (yst Y c (yN Y + 1) (up1 (yY Y) (yN Y) (w, l, t, []))) i = (w, l, t, []) from if_pos c1]
    exact ⟨hw, by show 0 ≤ l ∧ l ≤ 300; omega, ht, fun k hk => absurd hk List.not_mem_nil, List.Pairwise.nil⟩
  · rw [show yY (yst Y c (yN Y + 1) (up1 (yY Y) (yN Y) (w, l, t, []))) i = yY Y i from if_neg c1]
    exact h.1.1 i (by omega)
theorem addKnot_ok {Y : zY} {c p : Int} {j : Nat} (h : yOk Y) (hj : j < yN Y) (hp : 0 ≤ p ∧ p < (yY Y j).2.1) : yOk (yst Y c (yN Y) (up1 (yY Y) j (insF (yY Y j) p))) := by
  refine ⟨⟨fun i hi => ?_, h.1.2⟩, h.2.1, h.2.2.1, h.2.2.2⟩
  by_cases c1 : i = j
  · subst c1
    rw [show yY (yst Y c (yN Y) (up1 (yY Y) i (insF (yY Y i) p))) i = insF (yY Y i) p from if_pos rfl]
    exact insF_ok (h.1.1 i hj) hp
  · rw [show yY (yst Y c (yN Y) (up1 (yY Y) j (insF (yY Y j) p))) i = yY Y i from if_neg c1]
    exact h.1.1 i hi
theorem freeZ_F {x : Nat → Nat → Int} {F : Int} {j : Nat} : ∀ n, freeZ x (F + 1) j n = freeZ x F j n + 1
  | 0 => rfl
  | n + 1 => by
    unfold freeZ
    rw [freeZ_F n]
    omega
theorem addFrame_ok {Y : zY} {j : Nat} (h : yOk Y) (he : eN Y) (hj : j < 5) (h4 : yF Y j < 4) : yOk (ye (yf Y j (wr (yF Y j + 1))) j (wr (yE Y j + 1))) ∧ eN (ye (yf Y j (wr (yF Y j + 1))) j (wr (yE Y j + 1))) := by
  have hF := (h.2.2.1 j hj).1
  have hE := h.2.2.1.b hj
  have hE0 := he j hj
  rw [wr_id (x := yF Y j + 1) (by omega) (by omega), wr_id (x := yE Y j + 1) (by omega) (by omega)]
  refine ⟨⟨h.1, h.2.1, fun k hk => ?_, h.2.2.2⟩, eN.ye (Y := yf Y j (yF Y j + 1)) he (fun _ => by omega)⟩
  by_cases c : k = j
  · subst c
    rw [show yF (ye (yf Y k (yF Y k + 1)) k (yE Y k + 1)) k = yF Y k + 1 from if_pos rfl, show yE (ye (yf Y k (yF Y k + 1)) k (yE Y k + 1)) k = yE Y k + 1 from if_pos rfl]
    refine ⟨by omega, ?_⟩
    show yE Y k + 1 = freeZ (yX Y) (yF Y k + 1) k (yS Y)
    rw [freeZ_F, (h.2.2.1 k hk).2]
  · rw [show yF (ye (yf Y j (yF Y j + 1)) j (yE Y j + 1)) k = yF Y k from if_neg c, show yE (ye (yf Y j (yF Y j + 1)) j (yE Y j + 1)) k = yE Y k from if_neg c]
    exact h.2.2.1 k hk
theorem addSlip_ok {Y : zY} (h : yOk Y) (h6 : yS Y < 6) : yOk (ysn Y (yS Y + 1)) := by
  have hid := ((h.2.1.2.1 (yS Y) h6).2.2.2.2.2.2.2.2.2.1 (h.2.1.2.2 (yS Y) (Nat.le_refl _) h6)).1
  refine ⟨h.1, ⟨by show yS Y + 1 ≤ 6; omega, h.2.1.2.1, fun i hi hi6 => h.2.1.2.2 i (by have : yS Y + 1 ≤ i := hi; omega) hi6⟩, fun j hj => ⟨(h.2.2.1 j hj).1, ?_⟩, h.2.2.2⟩
  show yE Y j = freeZ (yX Y) (yF Y j) j (yS Y) - (if bAnd (yX Y (yS Y) 12) (bShl 1 (j : Int)) = 0 then 0 else 1)
  rw [hid, if_pos (and0 j (by omega)), (h.2.2.1 j hj).2]
  omega
theorem lend_slOk {x : Nat → Int} {l : List zAc} {g : Nat} {t : Int} (h : slOk x l) (hg : g < 5) (hh : bAnd (x 12) (bShl 1 (g : Int)) ≠ 0) : slOk (awaitF (releaseF x (g : Int)) (g : Int) t 1) l := by
  obtain ⟨a1, a2, a3, a4, a5, a6, a7, a8, a9, a10, a11⟩ := id h
  have h0 : x 0 ≠ 0 := fun z => hh (by rw [(a10 z).1]; exact and0 g (by omega))
  obtain ⟨b1, b2, b3, b4, b5, b6, b7, b8⟩ := a11 h0
  have hb := fun f hf => (bit_4 a7 hg (hf : f < 5)).2
  have hr := (bit_3 a7 hg).2
  have e : ∀ k, k ≠ 9 → k ≠ 10 → k ≠ 11 → k ≠ 12 → awaitF (releaseF x (g : Int)) (g : Int) t 1 k = x k := fun k k1 k2 k3 k4 => (if_neg k3).trans ((if_neg k2).trans ((if_neg k1).trans (if_neg k4)))
  have e9 : awaitF (releaseF x (g : Int)) (g : Int) t 1 9 = g := rfl
  have e11 : awaitF (releaseF x (g : Int)) (g : Int) t 1 11 = 1 := rfl
  have e12 : awaitF (releaseF x (g : Int)) (g : Int) t 1 12 = bAnd (x 12) (bXor (bShl 1 (g : Int)) (-1)) := rfl
  unfold slOk flagOk pcOk pbOk pieceOk idleOk busyOk
  rw [e9, e11, e12, e 0 (by decide) (by decide) (by decide) (by decide), e 2 (by decide) (by decide) (by decide) (by decide), e 5 (by decide) (by decide) (by decide) (by decide), e 6 (by decide) (by decide) (by decide) (by decide), e 7 (by decide) (by decide) (by decide) (by decide), e 8 (by decide) (by decide) (by decide) (by decide), e 16 (by decide) (by decide) (by decide) (by decide), e 17 (by decide) (by decide) (by decide) (by decide), e 18 (by decide) (by decide) (by decide) (by decide)]
  have eb : ∀ k, 20 ≤ k → awaitF (releaseF x (g : Int)) (g : Int) t 1 k = x k := fun k hk => e k (by omega) (by omega) (by omega) (by omega)
  refine ⟨⟨a1.1, a1.2.1, Or.inr rfl⟩, a2, fun k k1 k2 => by rw [eb k k1]; exact a3 k k1 k2, a4, a5, by omega, hr, fun _ => by omega, ⟨fun z => ⟨(a9.1 z).1, (a9.1 z).2.1, (a9.1 z).2.2.1, fun k k1 k2 => by rw [eb k k1]; exact (a9.1 z).2.2.2 k k1 k2⟩, a9.2⟩, fun z => absurd z h0, fun _ => ⟨b1, b2, b3, b4, b5, fun f hf z => ?_, fun _ => ?_, fun z => absurd z (by decide)⟩⟩
  · rcases z with z | z
    · exact b6 f hf (Or.inl (fun w => z ((hb f hf).mpr (Or.inr w))))
    · have hfg : f = g := by have := z.2; omega
      rw [hfg]
      exact b6 g hg (Or.inl hh)
  · exact (hb g hg).mpr (Or.inl rfl)
theorem lend_ok {Y : zY} {a b g : Nat} (h : yOk Y) (ha : a < yS Y) (hb : b < yS Y) (hab : a ≠ b) (hg : g < 5) (hh : bAnd (yX Y a 12) (bShl 1 (g : Int)) ≠ 0) (hw : yX Y b 9 = (g : Int)) : yOk (lendY Y a b (g : Int)) := by
  have h6 := h.2.1.1
  have hA := h.2.1.2.1 a (by omega)
  have hB := h.2.1.2.1 b (by omega)
  have xb : yX (yx Y a (releaseF (yX Y a) (g : Int))) b = yX Y b := if_neg (fun z => hab z.symm)
  have xa2 : yX (yx (yx Y a (releaseF (yX Y a) (g : Int))) b (receiveF (yX Y b) (g : Int))) a = releaseF (yX Y a) (g : Int) := (if_neg hab).trans (if_pos rfl)
  have e : lendY Y a b (g : Int) = yx (yx (yx Y a (releaseF (yX Y a) (g : Int))) b (receiveF (yX Y b) (g : Int))) a (awaitF (releaseF (yX Y a) (g : Int)) (g : Int) (yG Y 0) 1) := by
    unfold lendY
    rw [xb, xa2]
  have bh : bAnd (yX Y b 12) (bShl 1 (g : Int)) = 0 := by
    have b0 : yX Y b 0 ≠ 0 := fun z => by
      have := (hB.2.2.2.2.2.2.2.2.2.1 z).2.1
      omega
    have q := (hB.busy b0).2.2.2.2.2.2.1 (by omega)
    rwa [hw] at q
  rw [e]
  refine ⟨h.1, ⟨h.2.1.1, fun k hk => ?_, fun k hk hk6 => ?_⟩, fun j hj => ⟨(h.2.2.1 j hj).1, ?_⟩, h.2.2.2⟩
  · by_cases ca : k = a
    · subst ca
      rw [show yX (yx (yx (yx Y k (releaseF (yX Y k) (g : Int))) b (receiveF (yX Y b) (g : Int))) k (awaitF (releaseF (yX Y k) (g : Int)) (g : Int) (yG Y 0) 1)) k = awaitF (releaseF (yX Y k) (g : Int)) (g : Int) (yG Y 0) 1 from if_pos rfl]
      exact lend_slOk hA hg hh
    · by_cases cb : k = b
      · subst cb
        rw [show yX (yx (yx (yx Y a (releaseF (yX Y a) (g : Int))) k (receiveF (yX Y k) (g : Int))) a (awaitF (releaseF (yX Y a) (g : Int)) (g : Int) (yG Y 0) 1)) k = receiveF (yX Y k) (g : Int) from (if_neg ca).trans (if_pos rfl)]
        exact receive_ok hB hg hw
      · rw [show yX (yx (yx (yx Y a (releaseF (yX Y a) (g : Int))) b (receiveF (yX Y b) (g : Int))) a (awaitF (releaseF (yX Y a) (g : Int)) (g : Int) (yG Y 0) 1)) k = yX Y k from (if_neg ca).trans ((if_neg cb).trans (if_neg ca))]
        exact h.2.1.2.1 k hk
  · have hk' : yS Y ≤ k := hk
    rw [show yX (yx (yx (yx Y a (releaseF (yX Y a) (g : Int))) b (receiveF (yX Y b) (g : Int))) a (awaitF (releaseF (yX Y a) (g : Int)) (g : Int) (yG Y 0) 1)) k = yX Y k from (if_neg (by omega)).trans ((if_neg (by omega)).trans (if_neg (by omega)))]
    exact h.2.1.2.2 k hk' hk6
  · show yE Y j = freeZ (up1 (up1 (up1 (yX Y) a (releaseF (yX Y a) (g : Int))) b (receiveF (yX Y b) (g : Int))) a (awaitF (releaseF (yX Y a) (g : Int)) (g : Int) (yG Y 0) 1)) (yF Y j) j (yS Y)
    have u1 : up1 (yX Y) a (releaseF (yX Y a) (g : Int)) b = yX Y b := xb
    have u2 : up1 (up1 (yX Y) a (releaseF (yX Y a) (g : Int))) b (receiveF (yX Y b) (g : Int)) a = releaseF (yX Y a) (g : Int) := xa2
    rw [freeZ_up ha, freeZ_up hb, freeZ_up ha, u1, u2]
    have f12 : awaitF (releaseF (yX Y a) (g : Int)) (g : Int) (yG Y 0) 1 12 = releaseF (yX Y a) (g : Int) 12 := rfl
    have r12 : releaseF (yX Y a) (g : Int) 12 = bAnd (yX Y a 12) (bXor (bShl 1 (g : Int)) (-1)) := rfl
    have c12 : receiveF (yX Y b) (g : Int) 12 = bOr (yX Y b 12) (bShl 1 (g : Int)) := rfl
    rw [f12, r12, c12]
    have qa := (bit_4 hA.2.2.2.2.2.2.1 hg hj).2
    have qb := (bit_4 hB.2.2.2.2.2.2.1 hg hj).1
    rw [(h.2.2.1 j hj).2]
    by_cases cj : j = g
    · subst cj
      rw [if_neg hh, if_pos (qa.mpr (Or.inl rfl)), if_pos bh, if_neg (fun z => (qb.mp z).1 rfl)]
      omega
    · have ea : (if bAnd (bAnd (yX Y a 12) (bXor (bShl 1 (g : Int)) (-1))) (bShl 1 (j : Int)) = 0 then (0 : Int) else 1) = if bAnd (yX Y a 12) (bShl 1 (j : Int)) = 0 then 0 else 1 := by
        by_cases c : bAnd (yX Y a 12) (bShl 1 (j : Int)) = 0
        · rw [if_pos c, if_pos (qa.mpr (Or.inr c))]
        · rw [if_neg c, if_neg (fun z => (qa.mp z).elim cj c)]
      have eb : (if bAnd (bOr (yX Y b 12) (bShl 1 (g : Int))) (bShl 1 (j : Int)) = 0 then (0 : Int) else 1) = if bAnd (yX Y b 12) (bShl 1 (j : Int)) = 0 then 0 else 1 := by
        by_cases c : bAnd (yX Y b 12) (bShl 1 (j : Int)) = 0
        · rw [if_pos c, if_pos (qb.mpr ⟨cj, c⟩)]
        · rw [if_neg c, if_neg (fun z => c (qb.mp z).2)]
      rw [ea, eb]
      omega
