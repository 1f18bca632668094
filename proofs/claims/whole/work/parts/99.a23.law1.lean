/-! the law: what every call keeps of the abstract state -/
def BI (B : zB) (k : Nat) : Prop := (yOk (bY B) ∧ eN (bY B) ∧ ∀ i, i < 6 → bP B i = [] ∨ planOk (bP B i)) ∧ (0 ≤ yG (bY B) 0 ∧ yG (bY B) 0 ≤ 200 * (k : Int)) ∧ yG (bY B) 1 ≤ 1200 * (k : Int)
theorem BI.same {B B' : zB} {k : Nat} (h : BI B k) (e1 : bY B' = bY B) (e2 : bP B' = bP B) : BI B' (k + 1) := by
  unfold BI
  rw [e1, e2]
  exact ⟨h.1, ⟨h.2.1.1, by have := h.2.1.2; omega⟩, by have := h.2.2; omega⟩
theorem BI.nx {B : zB} {k : Nat} (h : BI B k) : BI B (k + 1) := h.same rfl rfl
theorem BI.yy {B B' : zB} {k : Nat} (h : BI B k) (e2 : bP B' = bP B) (hy : yOk (bY B')) (he : eN (bY B')) (h0 : yG (bY B') 0 = yG (bY B) 0) (h1 : yG (bY B') 1 = yG (bY B) 1) : BI B' (k + 1) := by
  refine ⟨⟨hy, he, by rw [e2]; exact h.1.2.2⟩, ?_, ?_⟩
  · rw [h0]; exact ⟨h.2.1.1, by have := h.2.1.2; omega⟩
  · rw [h1]; have := h.2.2; omega
theorem bi_feed {B : zB} {k : Nat} {a b c d e : Int} (h : BI B k) : BI (aFeed B a b c d e).2 (k + 1) ∧ (aFeed B a b c d e).1.1 ≤ 1 := by
  unfold aFeed
  split
  · exact ⟨h.nx, Nat.le_refl _⟩
  · exact ⟨h.same rfl rfl, Nat.zero_le _⟩
theorem bi_trim {B : zB} {k : Nat} {a : Int} (h : BI B k) : BI (aTrim B a).2 (k + 1) ∧ (aTrim B a).1.1 ≤ 1 := by
  unfold aTrim
  split
  · exact ⟨h.nx, Nat.le_refl _⟩
  · exact ⟨h.same rfl rfl, Nat.zero_le _⟩
theorem bi_compile {B : zB} {k : Nat} {p : Int} (h : BI B k) : BI (aCompile B p).2 (k + 1) ∧ (aCompile B p).1.1 ≤ 1 := by
  have hp := compile_ok (p := p) h.1.2.2
  have hy : bY (aCompile B p).2 = bY B ∧ (aCompile B p).1.1 ≤ 1 := by
    unfold aCompile
    split
    · exact ⟨rfl, Nat.le_refl _⟩
    · split
      · exact ⟨rfl, Nat.zero_le _⟩
      · split
        · exact ⟨rfl, Nat.zero_le _⟩
        · exact ⟨rfl, Nat.zero_le _⟩
  refine ⟨⟨⟨?_, ?_, hp⟩, ?_, ?_⟩, hy.2⟩
  · rw [hy.1]; exact h.1.1
  · rw [hy.1]; exact h.1.2.1
  · rw [hy.1]; exact ⟨h.2.1.1, by have := h.2.1.2; omega⟩
  · rw [hy.1]; have := h.2.2; omega
theorem bi_addPlank {B : zB} {k : Nat} {w l t : Int} (h : BI B k) : BI (aAddPlank B w l t).2 (k + 1) ∧ (aAddPlank B w l t).1.1 ≤ 2 := by
  unfold aAddPlank
  split
  · exact ⟨h.nx, (show 1 ≤ 2 by decide)⟩
  · rename_i c
    split
    · exact ⟨h.nx, Nat.le_refl _⟩
    · rename_i c2
      have c' := Decidable.not_not.mp c
      exact ⟨h.yy rfl (addPlank_ok h.1.1 (by omega) ⟨c'.1.1, by have := c'.1.2; omega⟩ c'.2.1 c'.2.2) h.1.2.1 rfl rfl, Nat.zero_le _⟩
theorem bi_addKnot {B : zB} {k : Nat} {q p : Int} (h : BI B k) : BI (aAddKnot B q p).2 (k + 1) ∧ (aAddKnot B q p).1.1 ≤ 3 := by
  unfold aAddKnot
  split
  · exact ⟨h.nx, (show 1 ≤ 3 by decide)⟩
  · rename_i c
    split
    · exact ⟨h.nx, (show 2 ≤ 3 by decide)⟩
    · rename_i c2
      split
      · exact ⟨h.nx, Nat.le_refl _⟩
      · have c' := Decidable.not_not.mp c
        have c2' := Decidable.not_not.mp c2
        exact ⟨h.yy rfl (addKnot_ok h.1.1 (by have := c'.2; have := c'.1; omega) c2') h.1.2.1 rfl rfl, Nat.zero_le _⟩
theorem bi_addFrame {B : zB} {k : Nat} {j : Int} (h : BI B k) : BI (aAddFrame B j).2 (k + 1) ∧ (aAddFrame B j).1.1 ≤ 2 := by
  unfold aAddFrame
  split
  · exact ⟨h.nx, (show 1 ≤ 2 by decide)⟩
  · rename_i c
    split
    · exact ⟨h.nx, Nat.le_refl _⟩
    · rename_i c2
      have c' := Decidable.not_not.mp c
      obtain ⟨q1, q2⟩ := addFrame_ok (j := j.toNat) h.1.1 h.1.2.1 (by have := c'.1; have := c'.2; omega) (by omega)
      exact ⟨h.yy rfl q1 q2 rfl rfl, Nat.zero_le _⟩
theorem bi_addSlip {B : zB} {k : Nat} (h : BI B k) : BI (aAddSlip B).2 (k + 1) ∧ (aAddSlip B).1.1 ≤ 1 := by
  unfold aAddSlip
  split
  · exact ⟨h.nx, Nat.le_refl _⟩
  · rename_i c
    exact ⟨h.yy rfl (addSlip_ok h.1.1 (by omega)) h.1.2.1 rfl rfl, Nat.zero_le _⟩
theorem bi_start {B : zB} {k : Nat} {i p t : Int} (h : BI B k) : BI (aStart B i p t).2 (k + 1) ∧ (aStart B i p t).1.1 ≤ 3 := by
  unfold aStart
  split
  · exact ⟨h.nx, (show 1 ≤ 3 by decide)⟩
  · rename_i c
    split
    · exact ⟨h.nx, (show 2 ≤ 3 by decide)⟩
    · rename_i c2
      split
      · exact ⟨h.nx, Nat.le_refl _⟩
      · rename_i c3
        have c' := Decidable.not_not.mp c
        have c2' := Decidable.not_not.mp c2
        have hl : planOk (bP B p.toNat) := by
          rcases h.1.2.2 p.toNat (by have := c2'.1.1; have := c2'.1.2; omega) with z | z
          · exact absurd (Or.inl (by rw [z]; rfl)) c3
          · exact z
        exact ⟨h.yy rfl (start_yOk h.1.1 (by have := c'.1; have := c'.2; omega) (Decidable.byContradiction fun z => c3 (Or.inr z)) hl) h.1.2.1 rfl rfl, Nat.zero_le _⟩
theorem bi_lend {B : zB} {k : Nat} {f t so : Int} (h : BI B k) : BI (aLend B f t so).2 (k + 1) ∧ (aLend B f t so).1.1 ≤ 3 := by
  unfold aLend
  split
  · exact ⟨h.nx, (show 1 ≤ 3 by decide)⟩
  · rename_i c
    split
    · exact ⟨h.nx, (show 2 ≤ 3 by decide)⟩
    · rename_i c2
      split
      · exact ⟨h.nx, Nat.le_refl _⟩
      · rename_i c3
        have c' := Decidable.not_not.mp c
        have hso : inF so 5 := Decidable.byContradiction fun z => c2 (Or.inr z)
        obtain ⟨g, hg⟩ := Int.eq_ofNat_of_zero_le hso.1
        subst hg
        have hft : f ≠ t := fun z => c2 (Or.inl z)
        have := c'.1.1; have := c'.1.2; have := c'.2.1; have := c'.2.2
        exact ⟨h.yy rfl (lend_ok (g := g) h.1.1 (by omega) (by omega) (by omega) (by have := hso.2; omega) (fun z => c3 (Or.inl z)) (Decidable.byContradiction fun z => c3 (Or.inr (Or.inr z)))) h.1.2.1 rfl rfl, Nat.zero_le _⟩
theorem bi_run {B : zB} {k : Nat} {n : Int} (h : BI B k) (hk : k < 600) : BI (aRun B n).2 (k + 1) ∧ (aRun B n).1.1 ≤ 1 := by
  unfold aRun
  split
  · exact ⟨h.nx, Nat.le_refl _⟩
  · rename_i c
    have c' := Decidable.not_not.mp c
    have h1 := h.2.2
    have h0 := h.2.1
    obtain ⟨q1, q2, q3⟩ := passN_yOk h.1.1 (by omega) n.toNat (by omega)
    have q4 := passN_eN h.1.1 h.1.2.1 (by omega) n.toNat (by omega)
    have q5 := passN_g0 (Y := bY B) ⟨h0.1, by omega⟩ n.toNat (by omega)
    refine ⟨⟨⟨q1, q4, h.1.2.2⟩, ?_, ?_⟩, Nat.zero_le _⟩
    · show 0 ≤ yG (passN n.toNat (bY B)) 0 ∧ yG (passN n.toNat (bY B)) 0 ≤ 200 * ((k + 1 : Nat) : Int)
      omega
    · show yG (passN n.toNat (bY B)) 1 ≤ 1200 * ((k + 1 : Nat) : Int)
      omega
theorem cd_1 {B : zB} {a b : Int} : (aPlan B a b).1 ≤ 1 ∧ (aPlank B a b).1 ≤ 1 ∧ (aFrames B a b).1 ≤ 1 ∧ (aSlip B a b).1 ≤ 1 ∧ (aCount B a).1 ≤ 1 ∧ (aHull B a b).1 ≤ 1 := by
  refine ⟨?_, ?_, ?_, ?_, ?_, ?_⟩
  · unfold aPlan; split <;> first | exact Nat.zero_le _ | decide
  · unfold aPlank; split <;> first | exact Nat.zero_le _ | decide
  · unfold aFrames; split <;> first | exact Nat.zero_le _ | decide
  · unfold aSlip; split <;> first | exact Nat.zero_le _ | decide
  · unfold aCount; split <;> first | exact Nat.zero_le _ | decide
  · unfold aHull; split <;> first | exact Nat.zero_le _ | decide
theorem cd_2 {B : zB} {a b c : Int} : (aFind B a b c).1 ≤ 1 ∧ (aBend B a b c).1 ≤ 1 ∧ (aForesee B a b).1 ≤ 2 := by
  refine ⟨?_, ?_, ?_⟩
  · unfold aFind; split <;> (try split) <;> first | exact Nat.zero_le _ | decide
  · unfold aBend; split <;> first | exact Nat.zero_le _ | decide
  · unfold aForesee; split <;> (try split) <;> (try split) <;> (try split) <;> (try split) <;> first | exact Nat.zero_le _ | decide
theorem B0_I : BI B0 0 := ⟨⟨Y0_ok.1, Y0_ok.2, fun i _ => Or.inl rfl⟩, ⟨Int.le_refl _, Int.le_refl _⟩, Int.le_refl _⟩
