/-! the reference tells a right form: steps, the plan -/
theorem formF_s {t : Nat → Int} {n f i dep : Nat} {hs : Bool} : formF t n (f + 1) i dep hs = if hs = true ∧ dep = 0 ∧ (tkF t n i).1 = 46 then (true, i) else if hs = true ∧ 0 < dep ∧ (tkF t n i).1 = 125 then formF t n f (i + 1) (dep - 1) true else if (tkF t n i).1 ≠ 115 then (false, i) else if (restF t n (formL (tkF t n i).2.1) (i + 1)).1 = true then formF t n f (restF t n (formL (tkF t n i).2.1) (i + 1)).2 (if (tkF t n i).2.1 = 8 then dep + 1 else dep) (if (tkF t n i).2.1 = 8 then false else true) else (false, (restF t n (formL (tkF t n i).2.1) (i + 1)).2) := rfl
section ZRG
variable {xs : Nat → Int} {xl d : Nat} {Q : zRes → zM → Prop}
theorem M_step2 {x n E : Nat} {t : Nat → Int} (hE : E ≤ n) (h46 : (tkF t n E).1 = 46) : ∀ (f i dep : Nat) (hs : Bool) (m : zM), SR m x n t (E + 1) → i ≤ E → mI m 776 x = i → E + 1 ≤ f + i → dep ≤ i → ¬ (hs = true ∧ dep = 0 ∧ (tkF t n i).1 = 46) → (0 < dep → 1 ≤ i ∧ (hs = false ↔ (tkF t n (i - 1)).1 = 123)) →
    (∀ (m' : zM) (j f' : Nat), f' < f → E + 1 ≤ f' + j → j ≤ E → formF t n f' j 0 true = formF t n f i dep hs → FT x m m' → mI m' 776 x = (j : Int) → Q (.inl (some (zI 1))) m') →
    (∀ (m' : zM) (e : Nat), formF t n f i dep hs = (false, e) → FT x m m' → mI m' 776 x = (e : Int) → e ≤ E → Q (.inl (some (zI 0))) m') →
    zW xs xl (d + 7) cX12_stepForm 12 (some .boolean) false [] 2 [zR x, zI (dep : Int)] [] m Q := by
  intro f
  induction f with
  | zero => intro i dep hs m h hi ht hf; omega
  | succ f ih =>
    intro i dep hs m h hi ht hf hd h1 h2 hT hF
    obtain ⟨k1, k2, k3, k4, k5, k6, k7⟩ := h.k hi hE
    have hn := h.2.1.2.1
    have p149 : ∀ (dep' j : Nat) (hs' : Bool) (m' : zM), SR m' x n t (E + 1) → j ≤ E → mI m' 776 x = (j : Int) → E + 1 ≤ f + j → dep' ≤ j → (dep' = 0 → hs' = true) → (0 < dep' → 1 ≤ j ∧ (hs' = false ↔ (tkF t n (j - 1)).1 = 123)) → formF t n (f + 1) i dep hs = formF t n f j dep' hs' → FT x m m' → zW xs xl (d + 7) cX12_stepForm 12 (some .boolean) false [] 149 [zR x, zI (dep' : Int)] [] m' Q := by
      intro dep' j hs' m' g hj tj hfj hdj hh hb e f0
      refine bX12_stepForm_149 ⟨fun c => ih j dep' hs' m' g hj tj hfj hdj (fun z => by omega) hb (fun m2 j2 f2 q1 q2 q3 q4 q5 q6 => hT m2 j2 f2 (by omega) q2 q3 (q4.trans e.symm) (f0.tr q5) q6) (fun m2 e2 q1 q2 q3 q4 => hF m2 e2 (e.trans q1) (f0.tr q2) q3 q4), fun c => ?_⟩
      have ed : dep' = 0 := by omega
      subst ed
      have eh := hh rfl
      subst eh
      exact hT m' j f (by omega) hfj hj e.symm f0 tj
    have e0 := formF_s (t := t) (n := n) (f := f) (i := i) (dep := dep) (hs := hs)
    rw [if_neg h1] at e0
    have p50 : ¬ (hs = true ∧ 0 < dep ∧ (tkF t n i).1 = 125) → zW xs xl (d + 7) cX12_stepForm 12 (some .boolean) false [] 50 [zR x, zI (dep : Int)] [] m Q := by
      intro hc
      rw [if_neg hc] at e0
      refine bX12_stepForm_50 ⟨k1, ?_⟩
      rw [ht]
      refine M_isTimes h hi hE (fun ht8 => ⟨1, rfl, fun z => absurd z (by decide), fun _ => ?_⟩) (fun h8 => ⟨0, rfl, fun _ => ⟨k1, ?_⟩, fun z => absurd rfl z⟩)
      · obtain ⟨q1, q2⟩ := ht8
        have hi1 : i + 1 ≤ E := tk_lt hi h46 (by rw [q1]; decide)
        rw [if_neg (fun z => z q1), q2, formL_8, if_pos rfl, if_pos rfl] at e0
        rw [k2, k3, k4, ht, wr_s (i := i) (by omega), Int.toNat_natCast]
        obtain ⟨l1, l2, l3, l4, l5, l6, l7⟩ := h.k hi1 hE
        rw [l5]
        have f1 : FT x m (sI m 776 x ((i + 1 : Nat) : Int)) := MF.rfl.s rfl
        have t1 : mI (sI m 776 x ((i + 1 : Nat) : Int)) 776 x = ((i + 1 : Nat) : Int) := zm_Is
        generalize sI m 776 x ((i + 1 : Nat) : Int) = m1 at f1 t1 ⊢
        have g1 := h.ft f1
        refine ⟨k1, rfl, ⟨by omega, l6⟩, fun c => M_takes0 ⟨0, rfl, fun _ => ?_, fun z => absurd rfl z⟩, fun c => M_takes1 g1.1.1 t1 (by omega) (fun m2 f2 t2 => ⟨1, rfl, fun z => absurd z (by decide), fun _ => ?_⟩)⟩
        · have hne : (tkF t n (i + 1)).1 ≠ 110 := fun z => c (kd_of.2.2.mpr z)
          rw [rest1.2 hne, if_neg (show ¬ (false = true) by decide)] at e0
          exact hF m1 (i + 1) e0 f1 t1 hi1
        · have h110 : (tkF t n (i + 1)).1 = 110 := kd_of.2.2.mp (Decidable.not_not.mp c)
          have hi2 : i + 1 + 1 ≤ E := tk_lt hi1 h46 (by rw [h110]; decide)
          rw [rest1.1 h110] at e0
          have g2 := g1.ft f2
          refine ⟨g2.1.1, ?_⟩
          rw [t2]
          refine M_isSym g2 hi2 hE (Or.inr (Or.inl ⟨rfl, rfl⟩)) (fun q => ⟨1, rfl, g2.1.1, M_takes1 g2.1.1 t2 (by omega) (fun m3 f3 t3 => ⟨1, rfl, fun _ => ?_, fun z => absurd (by decide) z⟩)⟩) (fun q => ⟨0, rfl, g2.1.1, M_takes0 ⟨0, rfl, fun z => absurd rfl z, fun _ => ?_⟩⟩)
          · have hi3 : i + 1 + 1 + 1 ≤ E := tk_lt hi2 h46 (by rw [q]; decide)
            rw [rest1.1 q] at e0
            replace e0 : formF t n (f + 1) i dep hs = formF t n f (i + 1 + 1 + 1) (dep + 1) false := e0
            rw [wr_s (i := dep) (by omega)]
            exact p149 (dep + 1) _ false m3 (g2.ft f3) hi3 t3 (by omega) (by omega) (fun z => by omega) (fun _ => ⟨by omega, ⟨fun _ => q, fun _ => rfl⟩⟩) e0 ((f1.tr f2).tr f3)
          · rw [rest1.2 q, if_neg (show ¬ (false = true) by decide)] at e0
            exact hF m2 _ e0 (f1.tr f2) t2 hi2
      · refine M_actionForm hE h46 h hi ht h8 (fun q => ⟨0, rfl, fun _ => ?_, fun z => absurd rfl z⟩) (fun m1 w e q1 q2 q3 q4 f1 t1 he => ⟨0, rfl, fun _ => ?_, fun z => absurd rfl z⟩) (fun m1 w j q1 q2 q3 q4 f1 t1 hj => ⟨1, rfl, fun z => absurd z (by decide), fun _ => ?_⟩)
        · rw [if_pos q] at e0
          exact hF m i e0 MF.rfl ht hi
        · have ef := formA_f ⟨w, q3⟩
          replace ef : formL (w : Int) = formA w ++ [59] := ef
          rw [if_neg (fun z => z q1), q2, ef, restF_app, q4, if_neg (show ¬ (false = true) by decide), if_neg (show ¬ (false = true) by decide)] at e0
          exact hF m1 e e0 f1 t1 he
        · have ef := formA_f ⟨w, q3⟩
          replace ef : formL (w : Int) = formA w ++ [59] := ef
          have hij : i + 1 ≤ j := by
            have := restF_in (t := t) (n := n) (l := formA w) (i := i + 1)
            rw [q4] at this
            exact this
          rw [if_neg (fun z => z q1), q2, ef, restF_app, q4, if_pos (show true = true from rfl), if_neg (show ¬ ((w : Int) = 8) by omega), if_neg (show ¬ ((w : Int) = 8) by omega)] at e0
          have g1 := h.ft f1
          refine ⟨g1.1.1, ?_⟩
          rw [t1]
          refine M_isSym g1 hj hE (Or.inr (Or.inr ⟨rfl, rfl⟩)) (fun q => ⟨1, rfl, g1.1.1, M_takes1 g1.1.1 t1 (by omega) (fun m3 f3 t3 => ⟨1, rfl, fun _ => ?_, fun z => absurd (by decide) z⟩)⟩) (fun q => ⟨0, rfl, g1.1.1, M_takes0 ⟨0, rfl, fun z => absurd rfl z, fun _ => ?_⟩⟩)
          · have hj1 : j + 1 ≤ E := tk_lt hj h46 (by rw [q]; decide)
            rw [rest1.1 q] at e0
            replace e0 : formF t n (f + 1) i dep hs = formF t n f (j + 1) dep true := e0
            exact p149 dep _ true m3 (g1.ft f3) hj1 t3 (by omega) (by omega) (fun _ => rfl) (fun _ => ⟨by omega, ⟨fun z => absurd z (by decide), fun z => absurd (q.symm.trans z) (by decide)⟩⟩) e0 (f1.tr f3)
          · rw [rest1.2 q, if_neg (show ¬ (false = true) by decide)] at e0
            exact hF m1 _ e0 f1 t1 hj
    refine bX12_stepForm_2 ⟨fun c => p50 (fun z => by omega), fun c => ⟨k1, ?_⟩⟩
    rw [ht]
    obtain ⟨b1, b2⟩ := h2 (by omega)
    refine M_isSym h hi hE (Or.inl ⟨rfl, rfl⟩) (fun q => ⟨1, rfl, fun z => absurd z (by decide), fun _ => ⟨k1, ?_⟩⟩) (fun q => ⟨0, rfl, fun _ => p50 (fun z => q z.2.2), fun z => absurd rfl z⟩)
    rw [ht, wr_id (x := (i : Int) - 1) (by omega) (by omega), show (i : Int) - 1 = ((i - 1 : Nat) : Int) by omega]
    refine M_isSym h (show i - 1 ≤ E by omega) hE (Or.inr (Or.inl ⟨rfl, rfl⟩)) (fun q2 => ⟨1, rfl, fun _ => p50 (fun z => ?_), fun z => absurd (by decide) z⟩) (fun q2 => ⟨0, rfl, fun z => absurd rfl z, fun _ => ⟨k1, ?_⟩⟩)
    · have := b2.mpr q2
      rw [z.1] at this
      exact absurd this (by decide)
    · have hs1 : hs = true := by
        cases hs with
        | true => rfl
        | false => exact absurd (b2.mp rfl) q2
      subst hs1
      rw [if_pos ⟨rfl, by omega, q⟩] at e0
      have hi1 : i + 1 ≤ E := tk_lt hi h46 (by rw [q]; decide)
      rw [ht, wr_s (i := i) (by omega), wr_id (x := (dep : Int) + (-1)) (by omega) (by omega), show (dep : Int) + (-1) = ((dep - 1 : Nat) : Int) by omega]
      exact p149 (dep - 1) (i + 1) true _ (h.ft (MF.rfl.s rfl)) hi1 zm_Is (by omega) (by omega) (fun _ => rfl) (fun _ => ⟨by omega, ⟨fun z => absurd z (by decide), fun z => absurd (q.symm.trans z) (by decide)⟩⟩) e0 (MF.rfl.s rfl)
theorem M_planForm {m : zM} {x n E : Nat} {t : Nat → Int} (hE : E ≤ n) (h46 : (tkF t n E).1 = 46) (h : SR m x n t (E + 1))
    (hT : ∀ (m' : zM) (j : Nat), (formF t n (n + 1) 0 0 false).1 = true → FT x m m' → mI m' 776 x = (j : Int) → j ≤ E → Q (.inl (some (zI 1))) m')
    (hF : ∀ (m' : zM) (e : Nat), formF t n (n + 1) 0 0 false = (false, e) → FT x m m' → mI m' 776 x = (e : Int) → e ≤ E → Q (.inl (some (zI 0))) m') : zC xs xl (d + 9) 174 [zR x] m Q := by
  have lp : ∀ (r f i : Nat) (hs : Bool) (m1 : zM), r = f → SR m1 x n t (E + 1) → i ≤ E → mI m1 776 x = i → E + 1 ≤ f + i → ¬ (hs = true ∧ (tkF t n i).1 = 46) → formF t n f i 0 hs = formF t n (n + 1) 0 0 false → FT x m m1 → zW xs xl (d + 8) cX12_planForm 12 (some .boolean) false [] 5 [zR x] [] m1 Q := by
    intro r
    induction r using Nat.strongRecOn with
    | _ r ih =>
      intro f i hs m1 er g hi ht hf h1 e f1
      refine bX12_planForm_5 ⟨g.1.1, bX12_stepForm_0 ?_⟩
      refine M_step2 hE h46 f i 0 hs m1 g hi ht hf (Nat.zero_le _) (fun z => h1 ⟨z.1, z.2.2⟩) (fun z => absurd z (by decide)) (fun m2 j f' q1 q2 q3 q4 q5 q6 => ⟨1, rfl, fun _ => ?_, fun z => absurd (by decide) z⟩) (fun m2 e2 q1 q2 q3 q4 => ⟨0, rfl, fun z => absurd rfl z, fun _ => ?_⟩)
      · have g2 := g.ft q5
        obtain ⟨k1, k2, k3, k4, k5, k6, k7⟩ := g2.k q3 hE
        rw [k2, k3, k4, q6, Int.toNat_natCast, k5]
        refine ⟨k1, rfl, ⟨by omega, k6⟩, fun c => ?_, fun c => ?_⟩
        · exact ih f' (by omega) f' j true m2 rfl g2 q3 q6 q2 (fun z => c (kd_46.mpr z.2)) (q4.trans e) (f1.tr q5)
        · have c46 := kd_46.mp (Decidable.not_not.mp c)
          refine hT m2 j ?_ (f1.tr q5) q6 q3
          rw [← e, ← q4]
          obtain ⟨f2, e2⟩ : ∃ f2, f' = f2 + 1 := ⟨f' - 1, by omega⟩
          rw [e2, formF_s, if_pos ⟨rfl, rfl, c46⟩]
      · exact hF m2 e2 (e.symm.trans q1) (f1.tr q2) q3 q4
  have f0 : FT x m (sI m 776 x 0) := MF.rfl.s rfl
  exact bX12_planForm_0 ⟨h.1.1, lp (n + 1) (n + 1) 0 false _ rfl (h.ft f0) (Nat.zero_le _) zm_Is (by omega) (fun z => absurd z.1 (by decide)) rfl f0⟩
end ZRG
