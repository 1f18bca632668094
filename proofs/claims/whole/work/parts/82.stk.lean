/-! the slips that wait for good: the frames that come back against the slips that stay -/
theorem sS_f : ∀ (h : Fin 64) (i j : Fin 6), (bAnd (bShr (h.1 : Int) (i.1 : Int)) 1 = if bAnd (h.1 : Int) (bShl 1 (i.1 : Int)) = 0 then 0 else 1) ∧ (bAnd (bAnd (h.1 : Int) (bXor (bShl 1 (i.1 : Int)) (-1))) (bShl 1 (j.1 : Int)) = 0 ↔ (j = i ∨ bAnd (h.1 : Int) (bShl 1 (j.1 : Int)) = 0)) ∧ (0 ≤ bAnd (h.1 : Int) (bXor (bShl 1 (i.1 : Int)) (-1)) ∧ bAnd (h.1 : Int) (bXor (bShl 1 (i.1 : Int)) (-1)) ≤ 63) ∧ bOr (h.1 : Int) 0 = h.1 := by decide +kernel
theorem sS_1 {h : Int} {i j : Nat} (hh : 0 ≤ h ∧ h ≤ 63) (hi : i < 6) (hj : j < 6) : (bAnd (bShr h (i : Int)) 1 = if bAnd h (bShl 1 (i : Int)) = 0 then 0 else 1) ∧ (bAnd (bAnd h (bXor (bShl 1 (i : Int)) (-1))) (bShl 1 (j : Int)) = 0 ↔ (j = i ∨ bAnd h (bShl 1 (j : Int)) = 0)) ∧ (0 ≤ bAnd h (bXor (bShl 1 (i : Int)) (-1)) ∧ bAnd h (bXor (bShl 1 (i : Int)) (-1)) ≤ 63) ∧ bOr h 0 = h := by
  have q := sS_f ⟨h.toNat, by omega⟩ ⟨i, hi⟩ ⟨j, hj⟩
  have e : ((h.toNat : Nat) : Int) = h := by omega
  rw [show (((⟨h.toNat, by omega⟩ : Fin 64).1 : Nat) : Int) = h from e] at q
  rw [show ((⟨j, hj⟩ : Fin 6) = ⟨i, hi⟩) = (j = i) by rw [Fin.mk.injEq]] at q
  exact q
theorem sS_x : ∀ h : Fin 64, (h.1 : Int) = (if bAnd (h.1 : Int) (bShl 1 ((0 : Nat) : Int)) = 0 then 0 else 1) + (if bAnd (h.1 : Int) (bShl 1 ((1 : Nat) : Int)) = 0 then 0 else 2) + (if bAnd (h.1 : Int) (bShl 1 ((2 : Nat) : Int)) = 0 then 0 else 4) + (if bAnd (h.1 : Int) (bShl 1 ((3 : Nat) : Int)) = 0 then 0 else 8) + (if bAnd (h.1 : Int) (bShl 1 ((4 : Nat) : Int)) = 0 then 0 else 16) + (if bAnd (h.1 : Int) (bShl 1 ((5 : Nat) : Int)) = 0 then 0 else 32) := by decide +kernel
theorem sS_ext {s t : Int} (hs : 0 ≤ s ∧ s ≤ 63) (ht : 0 ≤ t ∧ t ≤ 63) (h : ∀ i : Nat, i < 6 → (bAnd s (bShl 1 (i : Int)) = 0 ↔ bAnd t (bShl 1 (i : Int)) = 0)) : s = t := by
  have q := sS_x ⟨s.toNat, by omega⟩
  have p := sS_x ⟨t.toNat, by omega⟩
  rw [show (((⟨s.toNat, by omega⟩ : Fin 64).1 : Nat) : Int) = s from by show ((s.toNat : Nat) : Int) = s; omega] at q
  rw [show (((⟨t.toNat, by omega⟩ : Fin 64).1 : Nat) : Int) = t from by show ((t.toNat : Nat) : Int) = t; omega] at p
  simp only [h 0 (by omega), h 1 (by omega), h 2 (by omega), h 3 (by omega), h 4 (by omega), h 5 (by omega)] at q
  rw [q]
  exact p.symm
theorem or5_f : ∀ (h k : Fin 32) (f : Fin 5), (bAnd (bOr (h.1 : Int) (k.1 : Int)) (bShl 1 (f.1 : Int)) = 0 ↔ (bAnd (h.1 : Int) (bShl 1 (f.1 : Int)) = 0 ∧ bAnd (k.1 : Int) (bShl 1 (f.1 : Int)) = 0)) ∧ (0 ≤ bOr (h.1 : Int) (k.1 : Int) ∧ bOr (h.1 : Int) (k.1 : Int) ≤ 31) := by decide +kernel
theorem or5 {h k : Int} {f : Nat} (hh : 0 ≤ h ∧ h ≤ 31) (hk : 0 ≤ k ∧ k ≤ 31) (hf : f < 5) : (bAnd (bOr h k) (bShl 1 (f : Int)) = 0 ↔ (bAnd h (bShl 1 (f : Int)) = 0 ∧ bAnd k (bShl 1 (f : Int)) = 0)) ∧ (0 ≤ bOr h k ∧ bOr h k ≤ 31) := by
  have q := or5_f ⟨h.toNat, by omega⟩ ⟨k.toNat, by omega⟩ ⟨f, hf⟩
  rw [show (((⟨h.toNat, by omega⟩ : Fin 32).1 : Nat) : Int) = h from by show ((h.toNat : Nat) : Int) = h; omega, show (((⟨k.toNat, by omega⟩ : Fin 32).1 : Nat) : Int) = k from by show ((k.toNat : Nat) : Int) = k; omega] at q
  exact q
/-- frame f is in the set g -/
abbrev inG (g : Int) (f : Nat) : Prop := bAnd g (bShl 1 (f : Int)) ≠ 0
abbrev gB (g : Int) : Prop := 0 ≤ g ∧ g ≤ 31
def xB (x : Nat → Nat → Int) (n : Nat) : Prop := n ≤ 6 ∧ ∀ i, i < n → gB (x i 12) ∧ (-1 ≤ x i 9 ∧ x i 9 ≤ 4)
theorem setE_m {E : Nat → Int} : ∀ j, j ≤ 5 → gB (setE E j) ∧ ∀ f, f < 5 → (inG (setE E j) f ↔ f < j ∧ 0 < E f)
  | 0, _ => ⟨(by show (0 : Int) ≤ 0 ∧ (0 : Int) ≤ 31; decide), fun f hf => ⟨fun z => absurd (and0 f (by omega)) z, fun z => absurd z.1 (Nat.not_lt_zero _)⟩⟩
  | j + 1, hj => by
    obtain ⟨g1, g2⟩ := setE_m (E := E) j (by omega)
    have e : setE E (j + 1) = bOr (setE E j) (if E j ≤ 0 then 0 else bShl 1 (j : Int)) := rfl
    rw [e]
    by_cases c : E j ≤ 0
    · rw [if_pos c]
      refine ⟨(or5 g1 (by decide) (by omega : 0 < 5)).2, fun f hf => ?_⟩
      have q := (or5 (k := 0) g1 (by decide) hf).1
      have a0 := and0 f (by omega)
      have q2 := g2 f hf
      refine ⟨fun z => ?_, fun z => fun w => ?_⟩
      · have := q2.mp (fun w => z (q.mpr ⟨w, a0⟩))
        exact ⟨by omega, this.2⟩
      · by_cases cf : f = j
        · subst cf; omega
        · exact q2.mpr ⟨by omega, z.2⟩ (q.mp w).1
    · rw [if_neg c]
      refine ⟨(bit_3 g1 (by omega : j < 5)).1, fun f hf => ?_⟩
      have q := (bit_4 g1 (by omega : j < 5) hf).1
      have q2 := g2 f hf
      refine ⟨fun z => ?_, fun z => fun w => ?_⟩
      · by_cases cf : f = j
        · subst cf; exact ⟨by omega, by omega⟩
        · have := q2.mp (fun w => z (q.mpr ⟨cf, w⟩))
          exact ⟨by omega, this.2⟩
      · have w1 := q.mp w
        exact q2.mpr ⟨by omega, z.2⟩ w1.2
theorem could_mono {x : Nat → Int} {g g' : Int} (hx : -1 ≤ x 9 ∧ x 9 ≤ 4) (h : ∀ f, f < 5 → inG g f → inG g' f) (hc : couldF x g) : couldF x g' := by
  rcases hc with z | z
  · exact Or.inl z
  · by_cases c : x 9 < 0
    · exact Or.inl c
    · refine Or.inr ?_
      have e : ((x 9).toNat : Int) = x 9 := by omega
      have q := h (x 9).toNat (by omega)
      unfold inG at q
      rw [e] at q
      exact q z
theorem rnd_m {x : Nat → Nat → Int} {n : Nat} {g : Int} (hx : xB x n) (hg : gB g) : ∀ i, i ≤ n → gB (rndF x g i) ∧ (∀ f, f < 5 → inG g f → inG (rndF x g i) f) ∧ (∀ k, k < i → couldF (x k) g → ∀ f, f < 5 → inG (x k 12) f → inG (rndF x g i) f) ∧ ∀ P : Nat → Prop, (∀ f, f < 5 → inG g f → P f) → (∀ k, k < n → (x k 9 < 0 ∨ P (x k 9).toNat) → ∀ f, f < 5 → inG (x k 12) f → P f) → ∀ f, f < 5 → inG (rndF x g i) f → P f
  | 0, _ => ⟨hg, fun _ _ z => z, fun k hk => absurd hk (Nat.not_lt_zero _), fun P p1 _ f hf z => p1 f hf z⟩
  | i + 1, hi => by
    obtain ⟨r1, r2, r3, r4⟩ := rnd_m hx hg i (by omega)
    have hxi := hx.2 i (by omega)
    have e : rndF x g (i + 1) = bOr (rndF x g i) (if couldF (x i) (rndF x g i) then x i 12 else 0) := rfl
    have hB : gB (if couldF (x i) (rndF x g i) then x i 12 else 0) := by
      split
      · exact hxi.1
      · decide
    have q : ∀ f, f < 5 → (inG (rndF x g (i + 1)) f ↔ inG (rndF x g i) f ∨ inG (if couldF (x i) (rndF x g i) then x i 12 else 0) f) := by
      intro f hf
      have q := (or5 r1 hB hf).1
      unfold inG
      rw [e]
      constructor
      · intro z
        by_cases c : bAnd (rndF x g i) (bShl 1 (f : Int)) = 0
        · exact Or.inr (fun w => z (q.mpr ⟨c, w⟩))
        · exact Or.inl c
      · intro z w
        have := q.mp w
        rcases z with z | z
        · exact z this.1
        · exact z this.2
    refine ⟨by rw [e]; exact (or5 r1 hB (by omega : 0 < 5)).2, fun f hf z => (q f hf).mpr (Or.inl (r2 f hf z)), fun k hk hc f hf z => ?_, fun P p1 p2 f hf z => ?_⟩
    · by_cases c : k = i
      · subst c
        have hc' : couldF (x k) (rndF x g k) := could_mono hxi.2 (fun f hf z => r2 f hf z) hc
        refine (q f hf).mpr (Or.inr ?_)
        rw [if_pos hc']; exact z
      · exact (q f hf).mpr (Or.inl (r3 k (by omega) hc f hf z))
    · rcases (q f hf).mp z with w | w
      · exact r4 P p1 p2 f hf w
      · by_cases c : couldF (x i) (rndF x g i)
        · rw [if_pos c] at w
          refine p2 i (by omega) ?_ f hf w
          rcases c with c | c
          · exact Or.inl c
          · by_cases c9 : x i 9 < 0
            · exact Or.inl c9
            · refine Or.inr (r4 P p1 p2 (x i 9).toNat (by omega) ?_)
              unfold inG
              rw [show (((x i 9).toNat : Nat) : Int) = x i 9 by omega]; exact c
        · rw [if_neg c] at w
          exact absurd (and0 f (by omega)) w
def clG (x : Nat → Nat → Int) (n : Nat) (g : Int) : Prop := ∀ i, i < n → couldF (x i) g → ∀ f, f < 5 → inG (x i 12) f → inG g f
def cG (x : Nat → Nat → Int) (g : Int) : Nat → Nat
  | 0 => 0
  | i + 1 => cG x g i + (if couldF (x i) g then 1 else 0)
theorem cG_le {x : Nat → Nat → Int} {g : Int} : ∀ n, cG x g n ≤ n
  | 0 => Nat.le_refl _
  | n + 1 => by
    have := cG_le (x := x) (g := g) n
    show cG x g n + _ ≤ _
    split <;> omega
theorem cG_mono {x : Nat → Nat → Int} {g g' : Int} : ∀ n, (∀ i, i < n → couldF (x i) g → couldF (x i) g') → cG x g n ≤ cG x g' n
  | 0, _ => Nat.le_refl _
  | n + 1, h => by
    have q := cG_mono n (fun i hi => h i (by omega))
    have hn := h n (by omega)
    show cG x g n + _ ≤ cG x g' n + _
    by_cases c : couldF (x n) g
    · rw [if_pos c, if_pos (hn c)]; omega
    · rw [if_neg c]; omega
theorem cG_lt {x : Nat → Nat → Int} {g g' : Int} : ∀ n, (∀ i, i < n → couldF (x i) g → couldF (x i) g') → (∃ i, i < n ∧ ¬ couldF (x i) g ∧ couldF (x i) g') → cG x g n + 1 ≤ cG x g' n
  | 0, _, h => by obtain ⟨i, hi, _⟩ := h; exact absurd hi (Nat.not_lt_zero _)
  | n + 1, h, ⟨i, hi, h1, h2⟩ => by
    show cG x g n + _ + 1 ≤ cG x g' n + _
    by_cases c : i = n
    · subst c
      have q := cG_mono i (fun k hk => h k (by omega))
      rw [if_neg h1, if_pos h2]; omega
    · have q := cG_lt n (fun k hk => h k (by omega)) ⟨i, by omega, h1, h2⟩
      have hn := h n (by omega)
      by_cases c : couldF (x n) g
      · rw [if_pos c, if_pos (hn c)]; omega
      · rw [if_neg c]; omega
theorem not_cl {x : Nat → Nat → Int} {n : Nat} {g : Int} (h : ¬ clG x n g) : ∃ i, i < n ∧ couldF (x i) g ∧ ∃ f, f < 5 ∧ inG (x i 12) f ∧ ¬ inG g f := by
  refine Classical.byContradiction (fun z => h (fun i hi hc f hf hh => Classical.byContradiction (fun w => z ⟨i, hi, hc, f, hf, hh, w⟩)))
theorem rnds_m {x : Nat → Nat → Int} {n : Nat} {g : Int} (hx : xB x n) (hg : gB g) : ∀ r, gB (rndsF x n g r) ∧ (∀ f, f < 5 → inG g f → inG (rndsF x n g r) f) ∧ (∀ P : Nat → Prop, (∀ f, f < 5 → inG g f → P f) → (∀ k, k < n → (x k 9 < 0 ∨ P (x k 9).toNat) → ∀ f, f < 5 → inG (x k 12) f → P f) → ∀ f, f < 5 → inG (rndsF x n g r) f → P f) ∧ (clG x n (rndsF x n g r) ∨ r + 1 ≤ cG x (rndsF x n g r) n)
  | 0 => by
    refine ⟨hg, fun _ _ z => z, fun P p1 _ f hf z => p1 f hf z, ?_⟩
    by_cases c : clG x n g
    · exact Or.inl c
    · obtain ⟨i, hi, h1, f, hf, h2, h3⟩ := not_cl c
      refine Or.inr ?_
      have q : ∀ k, i < k → 1 ≤ cG x g k := by
        intro k
        induction k with
        | zero => intro z; exact absurd z (Nat.not_lt_zero _)
        | succ k ih =>
          intro z
          show 1 ≤ cG x g k + _
          by_cases ck : i = k
          · subst ck; rw [if_pos h1]; omega
          · have := ih (by omega); omega
      exact q n hi
  | r + 1 => by
    obtain ⟨r1, r2, r3, r4⟩ := rnds_m hx hg r
    obtain ⟨s1, s2, s3, s4⟩ := rnd_m hx r1 n (Nat.le_refl _)
    have e : rndsF x n g (r + 1) = rndF x (rndsF x n g r) n := rfl
    rw [e]
    refine ⟨s1, fun f hf z => s2 f hf (r2 f hf z), fun P p1 p2 f hf z => s4 P (r3 P p1 p2) p2 f hf z, ?_⟩
    rcases r4 with c | c
    · refine Or.inl (fun i hi hc f hf z => ?_)
      have back : ∀ f, f < 5 → inG (rndF x (rndsF x n g r) n) f → inG (rndsF x n g r) f := s4 _ (fun f hf z => z) (fun k hk hw f hf z => c k hk (by
        rcases hw with w | w
        · exact Or.inl w
        · by_cases c9 : x k 9 < 0
          · exact Or.inl c9
          · refine Or.inr ?_
            have hxk := (hx.2 k hk).2
            unfold inG at w
            rw [show (((x k 9).toNat : Nat) : Int) = x k 9 by omega] at w
            exact w) f hf z)
      exact s2 f hf (c i hi (could_mono (hx.2 i hi).2 back hc) f hf z)
    · by_cases cl : clG x n (rndF x (rndsF x n g r) n)
      · exact Or.inl cl
      · obtain ⟨i, hi, h1, f, hf, h2, h3⟩ := not_cl cl
        refine Or.inr ?_
        have q := cG_lt (g := rndsF x n g r) (g' := rndF x (rndsF x n g r) n) n (fun k hk => could_mono (hx.2 k hk).2 s2) ⟨i, hi, fun z => h3 (s3 i hi z f hf h2), h1⟩
        omega
theorem stuckB_m {x : Nat → Nat → Int} {g : Int} : ∀ i, i ≤ 6 → (0 ≤ stuckB x g i ∧ stuckB x g i ≤ 63) ∧ ∀ k : Nat, k < 6 → (bAnd (stuckB x g i) (bShl 1 (k : Int)) ≠ 0 ↔ k < i ∧ ¬ couldF (x k) g)
  | 0, _ => ⟨(by show (0 : Int) ≤ 0 ∧ (0 : Int) ≤ 63; decide), fun k hk => ⟨fun z => absurd (and0 k hk) z, fun z => absurd z.1 (Nat.not_lt_zero _)⟩⟩
  | i + 1, hi => by
    obtain ⟨g1, g2⟩ := stuckB_m (x := x) (g := g) i (by omega)
    have e : stuckB x g (i + 1) = bOr (stuckB x g i) (if couldF (x i) g then 0 else bShl 1 (i : Int)) := rfl
    rw [e]
    by_cases c : couldF (x i) g
    · rw [if_pos c, (sS_1 g1 (by omega : 0 < 6) (by omega : 0 < 6)).2.2.2]
      refine ⟨g1, fun k hk => ?_⟩
      rw [g2 k hk]
      refine ⟨fun z => ⟨by omega, z.2⟩, fun z => ⟨?_, z.2⟩⟩
      have hne : k ≠ i := fun w => z.2 (by rw [w]; exact c)
      omega
    · rw [if_neg c]
      refine ⟨(set_1 g1 (by omega : i < 6) (by omega : 0 < 6)).2, fun k hk => ?_⟩
      have q := (set_1 g1 (by omega : i < 6) hk).1
      have q2 := g2 k hk
      refine ⟨fun z => ?_, fun z => fun w => ?_⟩
      · by_cases ck : k = i
        · subst ck; exact ⟨by omega, c⟩
        · have := q2.mp (fun w => z (q.mpr ⟨ck, w⟩))
          exact ⟨by omega, this.2⟩
      · have w1 := q.mp w
        exact q2.mpr ⟨by omega, z.2⟩ w1.2
