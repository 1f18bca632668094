/-! the slips that wait for good: the reference -/
def hbZ (x : Nat → Nat → Int) (S : Int) (f : Nat) : Nat → Int
  | 0 => 0
  | i + 1 => hbZ x S f i + (if bAnd S (bShl 1 (i : Int)) = 0 then 0 else if bAnd (x i 12) (bShl 1 (f : Int)) = 0 then 0 else 1)
theorem hbZ_in {x : Nat → Nat → Int} {S : Int} {f : Nat} : ∀ n, 0 ≤ hbZ x S f n ∧ hbZ x S f n ≤ n
  | 0 => ⟨Int.le_refl _, Int.le_refl _⟩
  | n + 1 => by
    have h := hbZ_in (x := x) (S := S) (f := f) n
    show 0 ≤ hbZ x S f n + _ ∧ hbZ x S f n + _ ≤ _
    split
    · omega
    · split <;> omega
theorem hbZ_le {x : Nat → Nat → Int} {S T : Int} {f : Nat} : ∀ n, (∀ i : Nat, i < n → bAnd T (bShl 1 (i : Int)) ≠ 0 → bAnd S (bShl 1 (i : Int)) ≠ 0) → hbZ x T f n ≤ hbZ x S f n
  | 0, _ => Int.le_refl _
  | n + 1, h => by
    have q := hbZ_le (x := x) (f := f) n (fun i hi => h i (by omega))
    have hn := h n (by omega)
    show hbZ x T f n + _ ≤ hbZ x S f n + _
    by_cases c : bAnd T (bShl 1 (n : Int)) = 0
    · rw [if_pos c]
      split
      · omega
      · split <;> omega
    · rw [if_neg c, if_neg (hn c)]
      omega
def cS (S : Int) : Nat → Nat
  | 0 => 0
  | i + 1 => cS S i + (if bAnd S (bShl 1 (i : Int)) = 0 then 0 else 1)
theorem cS_lt {S T : Int} : ∀ n, (∀ i : Nat, i < n → bAnd T (bShl 1 (i : Int)) ≠ 0 → bAnd S (bShl 1 (i : Int)) ≠ 0) → cS T n ≤ cS S n ∧ ((∃ i : Nat, i < n ∧ bAnd T (bShl 1 (i : Int)) = 0 ∧ bAnd S (bShl 1 (i : Int)) ≠ 0) → cS T n + 1 ≤ cS S n)
  | 0, _ => ⟨Nat.le_refl _, fun ⟨i, hi, _⟩ => absurd hi (Nat.not_lt_zero _)⟩
  | n + 1, h => by
    obtain ⟨q1, q2⟩ := cS_lt n (fun i hi => h i (by omega))
    have hn := h n (by omega)
    have e1 : cS T (n + 1) = cS T n + (if bAnd T (bShl 1 (n : Int)) = 0 then 0 else 1) := rfl
    have e2 : cS S (n + 1) = cS S n + (if bAnd S (bShl 1 (n : Int)) = 0 then 0 else 1) := rfl
    rw [e1, e2]
    by_cases c : bAnd T (bShl 1 (n : Int)) = 0
    · rw [if_pos c]
      by_cases c2 : bAnd S (bShl 1 (n : Int)) = 0
      · rw [if_pos c2]
        refine ⟨by omega, fun ⟨i, hi, a, b⟩ => ?_⟩
        have hne : i ≠ n := fun z => b (by rw [z]; exact c2)
        have := q2 ⟨i, by omega, a, b⟩
        omega
      · rw [if_neg c2]
        exact ⟨by omega, fun _ => by omega⟩
    · rw [if_neg c, if_neg (hn c)]
      refine ⟨by omega, fun ⟨i, hi, a, b⟩ => ?_⟩
      have hne : i ≠ n := fun z => c (by rw [← z]; exact a)
      have := q2 ⟨i, by omega, a, b⟩
      omega
/-- the slips that build and wait -/
def s0P (x : Nat → Nat → Int) (n i : Nat) : Prop := i < n ∧ x i 0 ≠ 0 ∧ 0 ≤ x i 9
def keepP (x : Nat → Nat → Int) (F : Nat → Int) (n : Nat) (S : Int) (i : Nat) : Prop := F (x i 9).toNat ≤ hbZ x S (x i 9).toNat n
def okS (x : Nat → Nat → Int) (F : Nat → Int) (n : Nat) (T : Int) : Prop := (0 ≤ T ∧ T ≤ 63) ∧ ∀ i : Nat, i < 6 → bAnd T (bShl 1 (i : Int)) ≠ 0 → s0P x n i ∧ keepP x F n T i
section ZSK
variable {xs : Nat → Int} {xl d : Nat} {m : zM} {Q : zRes → zM → Prop}
theorem R_heldBy {b f : Nat} {S : Int} {Y : zY} (h : RSt m b Y) (hS : 0 ≤ S ∧ S ≤ 63) (hf : f < 5) (hx : xB (yX Y) (yS Y)) (hQ : Q (.inl (some (zI (hbZ (yX Y) S f (yS Y))))) m) : zC xs xl (d + 1) 146 [zR b, zI S, zI (f : Int)] m Q := by
  obtain ⟨r1, k1, n1⟩ := h.1.at (by decide : (725, 19, 20, 6) ∈ rTab)
  have hN := h.2.1.2.2.1
  have hs6 := h.2.1.2.2.2.2.2.2.2
  have lp : ∀ (k i : Nat), i + k = yS Y → zW xs xl d cX11_heldBy 11 (some .int) false [] 5 [zR b, zI S, zI (f : Int), zI (hbZ (yX Y) S f i), zI (i : Int)] [] m Q := by
    intro k
    induction k with
    | zero =>
      intro i e
      have ei : i = yS Y := by omega
      subst ei
      refine bX11_heldBy_5 ⟨h.1.1, ?_⟩
      rw [hN]
      exact ⟨fun _ => hQ, fun z => absurd (Int.le_refl _) z⟩
    | succ k ih =>
      intro i e
      have e12 : mA m (b + 19) i = yX Y i 12 := (h.2.2.2.2.1 i (by omega)).1 12 (by omega)
      have hn := ih (i + 1) (by omega)
      have hh := hbZ_in (x := yX Y) (S := S) (f := f) i
      rw [show hbZ (yX Y) S f (i + 1) = hbZ (yX Y) S f i + (if bAnd S (bShl 1 (i : Int)) = 0 then 0 else if bAnd (yX Y i 12) (bShl 1 (f : Int)) = 0 then 0 else 1) from rfl] at hn
      have b1 := (sS_1 hS (by omega : i < 6) (by omega : 0 < 6)).1
      have b2 := bit_1 (hx.2 i (by omega)).1 hf
      refine bX11_heldBy_5 ⟨h.1.1, ?_⟩
      rw [hN, r1, k1, n1, Int.toNat_natCast, e12, wr_s (i := i) (by omega), b1, b2]
      refine ⟨fun z => absurd z (by omega), fun _ => ⟨fun c => ?_, fun c => ⟨rfl, by omega, ?_⟩⟩⟩
      · have c0 : bAnd S (bShl 1 (i : Int)) = 0 := by
          refine Decidable.byContradiction (fun z => c ?_)
          rw [if_neg z]
        rw [if_pos c0] at hn
        rwa [wr_id (x := hbZ (yX Y) S f i + 0) (by omega) (by omega)]
      · have c0 : ¬ bAnd S (bShl 1 (i : Int)) = 0 := by
          intro z
          rw [if_pos z] at c
          exact c (by decide)
        rw [if_neg c0] at hn
        by_cases c2 : bAnd (yX Y i 12) (bShl 1 (f : Int)) = 0
        · rw [if_pos c2] at hn ⊢
          rwa [wr_id (x := hbZ (yX Y) S f i + 0) (by omega) (by omega)]
        · rw [if_neg c2] at hn ⊢
          rwa [wr_id (x := hbZ (yX Y) S f i + 1) (by omega) (by omega)]
  exact bX11_heldBy_0 (lp (yS Y) 0 (by omega))
theorem R_stuckS {b : Nat} {Y : zY} (h : RSt m b Y) (hx : xB (yX Y) (yS Y)) (hF : ∀ j, j < 5 → 0 ≤ yF Y j ∧ yF Y j ≤ 4) (hQ : ∀ S, okS (yX Y) (yF Y) (yS Y) S → (∀ T, okS (yX Y) (yF Y) (yS Y) T → ∀ i : Nat, i < 6 → bAnd T (bShl 1 (i : Int)) ≠ 0 → bAnd S (bShl 1 (i : Int)) ≠ 0) → Q (.inl (some (zI S))) m) : zC xs xl (d + 2) 145 [zR b] m Q := by
  obtain ⟨r1, k1, n1⟩ := h.1.at (by decide : (714, 8, 21, 6) ∈ rTab)
  obtain ⟨r2, k2, n2⟩ := h.1.at (by decide : (726, 20, 20, 6) ∈ rTab)
  obtain ⟨r3, k3, n3⟩ := h.1.at (by decide : (711, 6, 20, 5) ∈ rTab)
  have hN := h.2.1.2.2.1
  have hs6 := h.2.1.2.2.2.2.2.2.2
  have e9 : ∀ i, i < 6 → mA m (b + 20) i = yX Y i 9 := fun i hi => (h.2.2.2.2.1 i hi).1 9 (by omega)
  have e0 : ∀ i, i < 6 → mA m (b + 8) i = yX Y i 0 := fun i hi => (h.2.2.2.2.1 i hi).1 0 (by omega)
  have outer : ∀ (r : Nat) (S : Int), (0 ≤ S ∧ S ≤ 63) → (∀ i : Nat, i < 6 → bAnd S (bShl 1 (i : Int)) ≠ 0 → s0P (yX Y) (yS Y) i) → (∀ T, okS (yX Y) (yF Y) (yS Y) T → ∀ i : Nat, i < 6 → bAnd T (bShl 1 (i : Int)) ≠ 0 → bAnd S (bShl 1 (i : Int)) ≠ 0) → cS S 6 ≤ r → zW xs xl (d + 1) cX11_stuck 11 (some .int) false [] 53 [zR b, zI S, zI 0, zI 0] [] m Q := by
    intro r
    induction r with
    | zero | succ r ihr =>
      intro S h1 h2 h3 h4
      have lp : ∀ (k i : Nat) (S : Int) (c : Int), i + k = yS Y → (0 ≤ S ∧ S ≤ 63) → (∀ i : Nat, i < 6 → bAnd S (bShl 1 (i : Int)) ≠ 0 → s0P (yX Y) (yS Y) i) → (∀ T, okS (yX Y) (yF Y) (yS Y) T → ∀ i : Nat, i < 6 → bAnd T (bShl 1 (i : Int)) ≠ 0 → bAnd S (bShl 1 (i : Int)) ≠ 0) → (c = 0 ∧ (∀ j : Nat, j < i → bAnd S (bShl 1 (j : Int)) ≠ 0 → keepP (yX Y) (yF Y) (yS Y) S j) ∧ cS S 6 ≤ (by first | exact r + 1 | exact 0) ∨ c ≠ 0 ∧ cS S 6 + 1 ≤ (by first | exact r + 1 | exact 0)) → zW xs xl (d + 1) cX11_stuck 11 (some .int) false [] 53 [zR b, zI S, zI c, zI (i : Int)] [] m Q := by
        intro k
        induction k with
        | zero =>
          intro i S c e g1 g2 g3 g4
          have ei : i = yS Y := by omega
          subst ei
          refine bX11_stuck_53 ⟨h.1.1, fun _ => ?_, fun z => absurd (by rw [hN]; exact Int.le_refl _) z⟩
          refine bX11_stuck_45 ⟨fun c0 => ?_, fun c0 => ?_⟩
          · rcases g4 with ⟨-, g5, -⟩ | ⟨g5, -⟩
            · exact hQ S ⟨g1, fun i hi z => ⟨g2 i hi z, g5 i (g2 i hi z).1 z⟩⟩ g3
            · exact absurd c0 g5
          · rcases g4 with ⟨g5, -⟩ | ⟨-, g5⟩
            · exact absurd g5 c0
            · first
              | exact ihr S g1 g2 g3 (by omega)
              | exact absurd g5 (by omega)
        | succ k ih =>
          intro i S c e g1 g2 g3 g4
          have b1 := (sS_1 g1 (by omega : i < 6) (by omega : 0 < 6)).1
          refine bX11_stuck_53 ⟨h.1.1, fun z => absurd z (by rw [hN]; omega), fun _ => ?_⟩
          rw [b1, r2, k2, n2, r3, k3, n3, Int.toNat_natCast, e9 i (by omega), wr_s (i := i) (by omega)]
          refine ⟨fun c1 => ?_, fun c1 => ?_⟩
          · have c0 : bAnd S (bShl 1 (i : Int)) = 0 := by
              refine Decidable.byContradiction (fun z => ?_)
              rw [if_neg z] at c1
              exact absurd c1 (by decide)
            refine ih (i + 1) S c (by omega) g1 g2 g3 ?_
            rcases g4 with ⟨g5, g6, g7⟩ | g5
            · refine Or.inl ⟨g5, fun j hj z => ?_, g7⟩
              have hne : j ≠ i := fun w => z (by rw [w]; exact c0)
              exact g6 j (by omega) z
            · exact Or.inr g5
          · have c0 : bAnd S (bShl 1 (i : Int)) ≠ 0 := by
              intro z
              rw [if_pos z] at c1
              exact c1 rfl
            obtain ⟨-, p2, p3⟩ := g2 i (by omega) c0
            have hx9 := (hx.2 i (by omega)).2
            have ew : ((yX Y i 9).toNat : Int) = yX Y i 9 := by omega
            have hFj := hF (yX Y i 9).toNat (by omega)
            have eF : mA m (b + 6) (yX Y i 9).toNat = yF Y (yX Y i 9).toNat := h.2.2.2.1 _ (by omega)
            have hh := hbZ_in (x := yX Y) (S := S) (f := (yX Y i 9).toNat) (yS Y)
            refine ⟨rfl, by omega, rfl, by omega, ?_⟩
            have call := R_heldBy (xs := xs) (xl := xl) (d := d) (f := (yX Y i 9).toNat) (Q := fun r m6 => ∃ v7 : Int, r = .inl (some (zI v7)) ∧ ((0 < (wr (mA m (b + 6) (yX Y i 9).toNat - v7)) → zW xs xl (d + 1) cX11_stuck 11 (some .int) false [] 53 [zR b, zI (bAnd S (bXor (bShl 1 (i : Int)) (-1))), zI 1, zI ((i + 1 : Nat) : Int)] [] m6 Q) ∧ (¬ (0 < (wr (mA m (b + 6) (yX Y i 9).toNat - v7))) → zW xs xl (d + 1) cX11_stuck 11 (some .int) false [] 53 [zR b, zI S, zI c, zI ((i + 1 : Nat) : Int)] [] m6 Q))) h g1 (by omega) hx
            rw [ew] at call
            refine call ⟨_, rfl, ?_⟩
            rw [eF, wr_id (x := yF Y (yX Y i 9).toNat - hbZ (yX Y) S (yX Y i 9).toNat (yS Y)) (by omega) (by omega)]
            have bx := fun j hj => (sS_1 g1 (by omega : i < 6) (hj : j < 6)).2.1
            refine ⟨fun c2 => ?_, fun c2 => ?_⟩
            · refine ih (i + 1) _ 1 (by omega) (sS_1 g1 (by omega : i < 6) (by omega : 0 < 6)).2.2.1 (fun j hj z => g2 j hj (fun w => z ((bx j hj).mpr (Or.inr w)))) (fun T hT j hj z w => ?_) (Or.inr ⟨by decide, ?_⟩)
              · rcases (bx j hj).mp w with w1 | w1
                · have hk := (hT.2 j hj z).2
                  have hle := hbZ_le (x := yX Y) (S := S) (T := T) (f := (yX Y i 9).toNat) (yS Y) (fun q hq => g3 T hT q (by omega))
                  rw [w1] at hk
                  unfold keepP at hk
                  omega
                · exact g3 T hT j hj z w1
              · have hlt := (cS_lt (S := S) (T := bAnd S (bXor (bShl 1 (i : Int)) (-1))) 6 (fun j hj z w => z ((bx j hj).mpr (Or.inr w)))).2 ⟨i, by omega, (bx i (by omega)).mpr (Or.inl rfl), c0⟩
                rcases g4 with ⟨_, _, g7⟩ | ⟨_, g7⟩ <;> omega
            · refine ih (i + 1) S c (by omega) g1 g2 g3 ?_
              rcases g4 with ⟨g5, g6, g7⟩ | g5
              · refine Or.inl ⟨g5, fun j hj z => ?_, g7⟩
                by_cases cj : j = i
                · subst cj
                  unfold keepP
                  omega
                · exact g6 j (by omega) z
              · exact Or.inr g5
      exact lp (yS Y) 0 S 0 (by omega) h1 h2 h3 (Or.inl ⟨rfl, fun j hj => absurd hj (Nat.not_lt_zero _), h4⟩)
  have first : ∀ (k i : Nat) (S : Int), i + k = yS Y → (0 ≤ S ∧ S ≤ 63) → (∀ j : Nat, j < 6 → (bAnd S (bShl 1 (j : Int)) ≠ 0 ↔ s0P (yX Y) (yS Y) j ∧ j < i)) → zW xs xl (d + 1) cX11_stuck 11 (some .int) false [] 4 [zR b, zI S, zI (i : Int), zU] [] m Q := by
    intro k
    induction k with
    | zero =>
      intro i S e g1 g2
      have ei : i = yS Y := by omega
      subst ei
      refine bX11_stuck_4 ⟨h.1.1, fun _ => ?_, fun z => absurd (by rw [hN]; exact Int.le_refl _) z⟩
      refine bX11_stuck_45 ⟨fun z => absurd z (by decide), fun _ => ?_⟩
      exact outer (cS S 6) S g1 (fun j hj z => ((g2 j hj).mp z).1) (fun T hT j hj z => (g2 j hj).mpr ⟨(hT.2 j hj z).1, (hT.2 j hj z).1.1⟩) (Nat.le_refl _)
    | succ k ih =>
      intro i S e g1 g2
      refine bX11_stuck_4 ⟨h.1.1, fun z => absurd z (by rw [hN]; omega), fun _ => ?_⟩
      rw [r1, k1, n1, r2, k2, n2, Int.toNat_natCast, e9 i (by omega), e0 i (by omega), wr_s (i := i) (by omega)]
      have hx9 := (hx.2 i (by omega)).2
      have skip : ¬ s0P (yX Y) (yS Y) i → zW xs xl (d + 1) cX11_stuck 11 (some .int) false [] 4 [zR b, zI S, zI ((i + 1 : Nat) : Int), zU] [] m Q := fun ns => ih (i + 1) S (by omega) g1 (fun j hj => by
        rw [g2 j hj]
        refine ⟨fun z => ⟨z.1, by omega⟩, fun z => ⟨z.1, ?_⟩⟩
        have hne : j ≠ i := fun w => ns (by rw [← w]; exact z.1)
        omega)
      refine ⟨Or.inl rfl, by omega, fun c => skip (fun z => z.2.1 c), fun c => ⟨rfl, by omega, fun c2 => skip (fun z => by have := z.2.2; omega), fun c2 => ?_⟩⟩
      refine ih (i + 1) _ (by omega) (set_1 g1 (by omega : i < 6) (by omega : 0 < 6)).2 (fun j hj => ?_)
      have q := (set_1 g1 (by omega : i < 6) hj).1
      refine ⟨fun z => ?_, fun z w => ?_⟩
      · by_cases cj : j = i
        · subst cj; exact ⟨⟨by omega, c, by omega⟩, by omega⟩
        · have g := (g2 j hj).mp (fun w => z (q.mpr ⟨cj, w⟩))
          exact ⟨g.1, by omega⟩
      · have w1 := q.mp w
        exact (g2 j hj).mpr ⟨z.1, by omega⟩ w1.2
  exact bX11_stuck_0 (first (yS Y) 0 0 (by omega) (by decide) (fun j hj => ⟨fun z => absurd (and0 j hj) z, fun z => absurd z.2 (Nat.not_lt_zero _)⟩))
end ZSK
