/-! a plan that compiles is one that can be carried out -/
theorem wn_c {w : Int} {v : Nat → Int} {c : Int} {r : List Int} {j : Nat} (h : ¬ 0 ≤ wnF w v (c :: r) j) (hj : j < 3) : (c = 110 → allowB w (v j)) ∧ ¬ 0 ≤ wnF w v r (j + 1) := by
  unfold wnF at h
  rw [if_neg (show ¬ 3 ≤ j by omega)] at h
  by_cases q : c = 110 ∧ ¬ allowB w (v j)
  · rw [if_pos q] at h
    exact absurd (Int.natCast_nonneg j) h
  · rw [if_neg q] at h
    exact ⟨fun z => Decidable.byContradiction (fun w' => q ⟨z, w'⟩), h⟩
theorem rest_c {t : Nat → Int} {n i : Nat} {k : Int} {r : List Int} (h : (restF t n (k :: r) i).1 = true) : (tkF t n i).1 = k ∧ (restF t n r (i + 1)).1 = true := by
  unfold restF at h
  by_cases c : (tkF t n i).1 = k
  · rw [if_pos c] at h; exact ⟨c, h⟩
  · rw [if_neg c] at h; exact absurd h (show ¬ (false = true) by decide)
theorem formL_f : formL 0 = [102, 59] ∧ formL 1 = [102, 59] ∧ formL 2 = [119, 110, 59] ∧ formL 3 = [110, 59] ∧ formL 4 = [110, 59] ∧ formL 5 = [110, 110, 110, 59] ∧ formL 6 = [110, 59] ∧ formL 7 = [59] := by decide +kernel
theorem step_ac {t : Nat → Int} {n i : Nat} {w : Int} (hw : 0 ≤ w ∧ w ≤ 7) (hr : (restF t n (formL w) (i + 1)).1 = true) (hn : ¬ 0 ≤ wnF w (valF t n (i + 1) w) (formL w) 0) : acOk (w, valF t n (i + 1) w 0, valF t n (i + 1) w 1, valF t n (i + 1) w 2) := by
  obtain ⟨f0, f1, f2, f3, f4, f5, f6, f7⟩ := formL_f
  have hv : ∀ j, j < (formL w).length → valF t n (i + 1) w j = (tkF t n (i + 1 + j)).2.1 := fun j hj => if_pos hj
  have h8 : w = 0 ∨ w = 1 ∨ w = 2 ∨ w = 3 ∨ w = 4 ∨ w = 5 ∨ w = 6 ∨ w = 7 := by omega
  have frame : (w = 0 ∨ w = 1) → 0 ≤ valF t n (i + 1) w 0 ∧ valF t n (i + 1) w 0 ≤ 4 := by
    intro z
    have e : formL w = [102, 59] := by rcases z with z | z <;> rw [z] <;> assumption
    rw [e] at hr
    have q := (rest_c hr).1
    rw [hv 0 (by rw [e]; decide)]
    exact (tokF_v (t := t) (n := n) (p := plF t n (i + 1))).2.1 q
  have time : (w = 3 ∨ w = 4 ∨ w = 6) → 1 ≤ valF t n (i + 1) w 0 ∧ valF t n (i + 1) w 0 ≤ 30 := by
    intro z
    have e : formL w = [110, 59] := by rcases z with z | z | z <;> rw [z] <;> assumption
    rw [e] at hn
    have q := (wn_c hn (by decide)).1 rfl
    unfold allowB at q
    rwa [if_neg (show ¬ w = 2 by omega), if_neg (show ¬ w = 5 by omega), if_neg (show ¬ w = 8 by omega)] at q
  refine ⟨hw, fun z => frame (by show w = 0 ∨ w = 1; replace z : w ≤ 1 := z; omega), fun z => ?_, fun z => ?_, fun z => time z⟩
  · replace z : w = 2 := z
    subst z
    rw [f2] at hr hn
    have q := (rest_c hr).1
    have a := (wn_c (wn_c hn (by decide)).2 (by decide)).1 rfl
    unfold allowB at a
    rw [if_pos rfl] at a
    refine ⟨?_, a⟩
    show 0 ≤ valF t n (i + 1) 2 0 ∧ valF t n (i + 1) 2 0 ≤ 3
    rw [hv 0 (by rw [f2]; decide)]
    exact (tokF_v (t := t) (n := n) (p := plF t n (i + 1))).2.2 q
  · replace z : w = 5 := z
    subst z
    rw [f5] at hn
    have h0 := wn_c hn (by decide)
    have h1 := wn_c h0.2 (by decide)
    have h2 := wn_c h1.2 (by decide)
    have a0 := h0.1 rfl
    have a1 := h1.1 rfl
    have a2 := h2.1 rfl
    unfold allowB at a0 a1 a2
    rw [if_neg (by decide), if_pos rfl] at a0 a1 a2
    exact ⟨a0, a1, a2⟩
theorem stp_PI {t : Nat → Int} {n i : Nat} {w : Int} {st st' : zPs} (h : PI st) (hw : 0 ≤ w ∧ w ≤ 7) (hr : (restF t n (formL w) (i + 1)).1 = true) (hs : stpF t n i w st = .inr st') : PI st' := by
  obtain ⟨l, tk, hp, bt⟩ := st
  unfold stpF at hs
  split at hs
  · cases hs
  · rename_i c1
    split at hs
    · cases hs
    · rename_i c2
      split at hs
      · cases hs
      · rename_i c3
        rw [← Sum.inr.inj hs]
        exact PI.push (q := (w, valF t n (i + 1) w 0, valF t n (i + 1) w 1, valF t n (i + 1) w 2)) h (by show l.length < 60; replace c2 : ¬ 60 ≤ l.length := c2; omega) (step_ac hw hr c3) (Decidable.not_not.mp c1)
def Keep (blk : Nat → Option Nat) (body : Nat → zPs → zRs) : Prop := ∀ (i j i' : Nat) (st st' : zPs), blk i = some j → PI st → body i st = .inr (i', st') → PI st' ∧ i' = j
theorem repF_keep {blk : Nat → Option Nat} {body : Nat → zPs → zRs} (hk : Keep blk body) {b j : Nat} (hb : blk b = some j) : ∀ (r i' : Nat) (st st' : zPs), PI st → repF body (r + 1) b st = .inr (i', st') → PI st' ∧ i' = j := by
  intro r
  induction r with
  | zero =>
    intro i' st st' h hs
    cases e : body b st with
    | inl q => rw [repF_l e] at hs; cases hs
    | inr q =>
      obtain ⟨q1, q2⟩ := q
      rw [repF_r0 e] at hs
      have := Sum.inr.inj hs
      cases this
      exact hk b j i' st st' hb h e
  | succ r ih =>
    intro i' st st' h hs
    cases e : body b st with
    | inl q => rw [repF_l e] at hs; cases hs
    | inr q =>
      obtain ⟨q1, q2⟩ := q
      rw [repF_rs e] at hs
      exact ih i' q2 st' (hk b j q1 st q2 hb h e).1 hs
theorem itF_keep {t : Nat → Int} {n k N : Nat} {body : Nat → zPs → zRs} (hb : 0 < k → Keep (blkF t n N) body) : ∀ (F f i j i' : Nat) (st st' : zPs), F ≤ N → F ≤ f → blkF t n F i = some j → PI st → itF t n k body f i st = .inr (i', st') → PI st' ∧ i' = j := by
  intro F
  induction F with
  | zero =>
    intro f i j i' st st' _ _ h
    exact absurd h (by unfold blkF; exact fun z => by cases z)
  | succ F ih =>
    intro f i j i' st st' hN hf h hp hs
    obtain ⟨g, rfl⟩ : ∃ g, f = g + 1 := ⟨f - 1, by omega⟩
    unfold blkF at h
    unfold itF at hs
    by_cases c1 : (tkF t n i).1 = 46 ∨ (tkF t n i).1 = 125
    · rw [if_pos c1] at h hs
      have e1 := Option.some.inj h
      have e2 := Sum.inr.inj hs
      cases e2
      exact ⟨hp, e1⟩
    · rw [if_neg c1] at h hs
      by_cases c2 : (tkF t n i).1 ≠ 115 ∨ (restF t n (formL (tkF t n i).2.1) (i + 1)).1 = false
      · rw [if_pos c2] at h; cases h
      · rw [if_neg c2] at h
        have k115 : (tkF t n i).1 = 115 := Decidable.byContradiction (fun z => c2 (Or.inl z))
        have hr : (restF t n (formL (tkF t n i).2.1) (i + 1)).1 = true := by
          cases e : (restF t n (formL (tkF t n i).2.1) (i + 1)).1 with
          | true => rfl
          | false => exact absurd (Or.inr e) c2
        have hv : 0 ≤ (tkF t n i).2.1 ∧ (tkF t n i).2.1 ≤ 8 := (tokF_v (t := t) (n := n) (p := plF t n i)).1 k115
        by_cases c3 : (tkF t n i).2.1 = 8
        · rw [if_pos c3] at h hs
          by_cases ck : k = 0
          · rw [if_pos ck] at hs; cases hs
          · rw [if_neg ck] at hs
            by_cases ca : ¬ allowB 8 (tkF t n (i + 1)).2.1
            · rw [if_pos ca] at hs; cases hs
            · rw [if_neg ca] at hs
              have al : 1 ≤ (tkF t n (i + 1)).2.1 ∧ (tkF t n (i + 1)).2.1 ≤ 9 := by
                have q := Decidable.not_not.mp ca
                unfold allowB at q
                rwa [if_neg (by decide), if_neg (by decide), if_pos rfl] at q
              obtain ⟨r, hrr⟩ : ∃ r : Nat, (tkF t n (i + 1)).2.1.toNat = r + 1 := ⟨(tkF t n (i + 1)).2.1.toNat - 1, by omega⟩
              rw [hrr] at hs
              cases eb : blkF t n F (i + 3) with
              | none => rw [eb] at h; cases h
              | some j1 =>
                rw [eb] at h
                replace h : (if (tkF t n j1).1 = 125 then blkF t n F (j1 + 1) else none) = some j := h
                by_cases c5 : (tkF t n j1).1 = 125
                · rw [if_pos c5] at h
                  cases er : repF body (r + 1) (i + 3) st with
                  | inl q => rw [er] at hs; cases hs
                  | inr q =>
                    obtain ⟨q1, q2⟩ := q
                    rw [er] at hs
                    obtain ⟨p1, p2⟩ := repF_keep (hb (by omega)) (blkF_mono (by omega) eb) r q1 st q2 hp er
                    subst p2
                    exact ih g _ j i' q2 st' (by omega) (by omega) h p1 hs
                · rw [if_neg c5] at h; cases h
        · rw [if_neg c3] at h hs
          cases es : stpF t n i (tkF t n i).2.1 st with
          | inl q => rw [es] at hs; cases hs
          | inr q =>
            rw [es] at hs
            exact ih g _ j i' q st' (by omega) (by omega) h (stp_PI hp (by omega) hr es) hs
theorem evF_keep {t : Nat → Int} {n N : Nat} : ∀ k, Keep (blkF t n N) (evF t n N k)
  | 0 => fun i j i' st st' h hp hs => itF_keep (fun z => absurd z (by decide)) N N i j i' st st' (Nat.le_refl _) (Nat.le_refl _) h hp hs
  | k + 1 => fun i j i' st st' h hp hs => itF_keep (fun _ => evF_keep k) N N i j i' st st' (Nat.le_refl _) (Nat.le_refl _) h hp hs
theorem PI0 : PI ([], 0, 0, 0) := ⟨fun q hq => absurd hq List.not_mem_nil, Nat.zero_le _, by decide, rfl, fun i q hq => by cases hq⟩
theorem goF_ok {t : Nat → Int} {n e0 : Nat} {l : List zAc} (hb : blkF t n (n + 1) 0 = some e0) (h : goF t n = .inr l) : l = [] ∨ planOk l := by
  unfold goF at h
  cases e : evF t n (n + 1) 3 0 ([], 0, 0, 0) with
  | inl q => rw [e] at h; cases h
  | inr q =>
    obtain ⟨q1, q2⟩ := q
    rw [e] at h
    replace h : (if q2.2.2.1 ≠ 0 ∨ q2.2.1 ≠ 0 then (.inl (3, n) : (Int × Nat) ⊕ List zAc) else .inr q2.1) = .inr l := h
    obtain ⟨p1, -⟩ := evF_keep 3 0 e0 q1 _ q2 hb PI0 e
    by_cases c : q2.2.2.1 ≠ 0 ∨ q2.2.1 ≠ 0
    · rw [if_pos c] at h; cases h
    · rw [if_neg c] at h
      rw [← Sum.inr.inj h]
      exact p1.ok (Decidable.byContradiction (fun z => c (Or.inr z))) (Decidable.byContradiction (fun z => c (Or.inl z)))
theorem compile_ok {B : zB} {p : Int} (h : ∀ k, k < 6 → bP B k = [] ∨ planOk (bP B k)) : ∀ k, k < 6 → bP (aCompile B p).2 k = [] ∨ planOk (bP (aCompile B p).2 k) := by
  intro k hk
  unfold aCompile
  split
  · exact h k hk
  · split
    · exact h k hk
    · rename_i c
      cases e : goF (bT B) (bN B) with
      | inl q => exact h k hk
      | inr l =>
        show up1 B.2.1 p.toNat l k = [] ∨ planOk (up1 B.2.1 p.toNat l k)
        by_cases ck : k = p.toNat
        · rw [show up1 B.2.1 p.toNat l k = l from if_pos ck]
          obtain ⟨q1, q2⟩ : ∃ q, formF (bT B) (bN B) (bN B + 1) 0 0 false = q := ⟨_, rfl⟩
          have ht : (formF (bT B) (bN B) (bN B + 1) 0 0 false).1 = true := by
            cases z : (formF (bT B) (bN B) (bN B + 1) 0 0 false).1 with
            | true => rfl
            | false => exact absurd z c
          obtain ⟨j, hj, -⟩ := formF_blk (t := bT B) (n := bN B) (e := (formF (bT B) (bN B) (bN B + 1) 0 0 false).2) (bN B + 1) (bN B + 1) 0 0 false (Nat.le_refl _) (by rw [← ht])
          exact goF_ok hj e
        · rw [show up1 B.2.1 p.toNat l k = bP B k from if_neg ck]; exact h k hk
