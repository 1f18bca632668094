/-! the reference tells a right form -/
abbrev FT (x : Nat) (m m' : zM) : Prop := MF x (fun f => f = 776) (fun _ _ => False) m m'
abbrev kJ (f : Nat) : Prop := f = 771 ∨ f = 772 ∨ f = 776 ∨ f = 779 ∨ f = 781 ∨ f = 782 ∨ f = 783
abbrev GF (x : Nat) (m m' : zM) : Prop := MF x kJ (fun a _ => a = x + 7) m m'
theorem FT.gf {x : Nat} {m m' : zM} (f : FT x m m') : GF x m m' := f.mono (fun _ z => Or.inr (Or.inr (Or.inl z))) (fun _ _ z => z.elim)
theorem SR.gf {x n i : Nat} {t : Nat → Int} {m m' : zM} (h : SR m x n t i) (f : GF x m m') : SR m' x n t i := by
  refine ⟨h.1.eq f.2.1.1 f.2.1.2.2.1 f.2.1.2.2.2.1 f.2.1.2.2.2.2.1, ⟨(f.1 770 x (fun z => ?_)).trans h.2.1.1, h.2.1.2.1, fun j hj => (f.2.2 (x + 1) j (by omega)).trans (h.2.1.2.2 j hj)⟩, fun k hk => ?_⟩
  · have := z.2; omega
  · rw [f.2.2 (x + 2) k (by omega), f.2.2 (x + 3) k (by omega), f.2.2 (x + 4) k (by omega)]
    exact h.2.2 k hk
theorem SR.ft {x n i : Nat} {t : Nat → Int} {m m' : zM} (h : SR m x n t i) (f : FT x m m') : SR m' x n t i := h.gf f.gf
def nmF (w : Nat) : Nat := if w ≤ 1 then 0 else if w = 5 then 3 else if w = 7 then 0 else 1
def formA (w : Nat) : List Int := (if w ≤ 1 then [102] else if w = 2 then [119] else []) ++ List.replicate (nmF w) 110
theorem formA_f : ∀ w : Fin 8, formL ((w.1 : Nat) : Int) = formA w.1 ++ [59] := by decide +kernel
theorem nmF_f : ∀ w : Fin 8, (zXc 5).getD w.1 0 = ((nmF w.1 : Nat) : Int) := by decide +kernel
theorem nm_x {xs : Nat → Int} {w : Nat} (h : w < 8) : zXI xs 5 w = ((nmF w : Nat) : Int) := nmF_f ⟨w, h⟩
theorem restF_app {t : Nat → Int} {n : Nat} : ∀ {l k : List Int} {i : Nat}, restF t n (l ++ k) i = if (restF t n l i).1 = true then restF t n k (restF t n l i).2 else restF t n l i
  | [], k, i => (if_pos rfl).symm
  | c :: l, k, i => by
    have e1 : restF t n (c :: l ++ k) i = if (tkF t n i).1 = c then restF t n (l ++ k) (i + 1) else (false, i) := rfl
    have e2 : restF t n (c :: l) i = if (tkF t n i).1 = c then restF t n l (i + 1) else (false, i) := rfl
    rw [e1, e2]
    by_cases h : (tkF t n i).1 = c
    · rw [if_pos h, if_pos h]; exact restF_app
    · rw [if_neg h, if_neg h]
      exact (if_neg (show ¬ false = true by decide)).symm
theorem rest1 {t : Nat → Int} {n i : Nat} {c : Int} {l : List Int} : ((tkF t n i).1 = c → restF t n (c :: l) i = restF t n l (i + 1)) ∧ ((tkF t n i).1 ≠ c → restF t n (c :: l) i = (false, i)) := ⟨fun z => if_pos z, fun z => if_neg z⟩
theorem tk_lt {t : Nat → Int} {n E k : Nat} (hk : k ≤ E) (h46 : (tkF t n E).1 = 46) (h : (tkF t n k).1 ≠ 46) : k + 1 ≤ E := by
  by_cases c : k = E
  · rw [c] at h; exact absurd h46 h
  · omega
theorem SR.k {m : zM} {x n E k : Nat} {t : Nat → Int} (h : SR m x n t (E + 1)) (hk : k ≤ E) (hE : E ≤ n) : mC m x = 13 ∧ mR m 773 x = x + 2 ∧ mC m (x + 2) = 20 ∧ mN m (x + 2) = 1001 ∧ mA m (x + 2) k = kdF t n (plF t n k) ∧ ((k : Nat) : Int) < ((1001 : Nat) : Int) ∧ k < 1001 := by
  obtain ⟨g1, g2, g3⟩ := h
  exact ⟨g1.1, g1.2.2.1.2.1, g1.2.2.2.1.2.1, g1.2.2.2.2.2.1, (g3 k (by omega)).1, by have := g2.2.1; omega, by have := g2.2.1; omega⟩
section ZRF
variable {xs : Nat → Int} {xl d : Nat} {m : zM} {Q : zRes → zM → Prop}
theorem M_takes1 {x i : Nat} (hC : mC m x = 13) (ht : mI m 776 x = i) (hi : i < 1000000) (hQ : ∀ m', FT x m m' → mI m' 776 x = ((i + 1 : Nat) : Int) → Q (.inl (some (zI 1))) m') : zC xs xl (d + 1) 173 [zR x, zI 1] m Q := by
  refine bX12_takes_0 ⟨fun z => absurd z (by decide), fun _ => ⟨hC, Or.inr rfl, ?_⟩⟩
  rw [ht, wr_s (i := i) hi]
  exact hQ _ (MF.rfl.s rfl) zm_Is
theorem M_takes0 {x : Nat} (hQ : Q (.inl (some (zI 0))) m) : zC xs xl (d + 1) 173 [zR x, zI 0] m Q :=
  bX12_takes_0 ⟨fun _ => ⟨Or.inl rfl, hQ⟩, fun z => absurd rfl z⟩
theorem M_isTimes {x n E k : Nat} {t : Nat → Int} (h : SR m x n t (E + 1)) (hk : k ≤ E) (hE : E ≤ n) (hT : (tkF t n k).1 = 115 ∧ (tkF t n k).2.1 = 8 → Q (.inl (some (zI 1))) m) (hF : ¬ ((tkF t n k).1 = 115 ∧ (tkF t n k).2.1 = 8) → Q (.inl (some (zI 0))) m) : zC xs xl (d + 5) 170 [zR x, zI (k : Int), zE 31] m Q := M_is h hk hE (by omega) (fun q => hT (is_times.mp q)) (fun q => hF (fun z => q (is_times.mpr z)))
theorem M_isSym {x n E k a : Nat} {c : Int} {t : Nat → Int} (h : SR m x n t (E + 1)) (hk : k ≤ E) (hE : E ≤ n) (hc : a = 29 ∧ c = 125 ∨ a = 30 ∧ c = 123 ∨ a = 32 ∧ c = 59) (hT : (tkF t n k).1 = c → Q (.inl (some (zI 1))) m) (hF : (tkF t n k).1 ≠ c → Q (.inl (some (zI 0))) m) : zC xs xl (d + 5) 170 [zR x, zI (k : Int), zE a] m Q := by
  obtain ⟨-, -, -, -, s1, s2, s3⟩ := lists_f
  have ha : 20 ≤ a ∧ a < 50 := by omega
  have hs : isS c := by omega
  have es : zSTR (a - 20) = [c] := by
    rcases hc with ⟨z1, z2⟩ | ⟨z1, z2⟩ | ⟨z1, z2⟩ <;> subst z1 z2 <;> assumption
  refine M_is h hk hE ha (fun q => hT ?_) (fun q => hF (fun z => q ?_))
  · rw [es] at q; exact (is_sym hs).mp q
  · rw [es]; exact (is_sym hs).mpr z
/-- the numbers of a form -/
theorem M_nums {x n E w : Nat} {t : Nat → Int} (hE : E ≤ n) (h46 : (tkF t n E).1 = 46) (hw : w < 8) : ∀ (r a2 i : Nat) (m : zM), r + a2 = nmF w → SR m x n t (E + 1) → i ≤ E → mI m 776 x = i → (∀ m', (restF t n (List.replicate r 110) i).1 = true → FT x m m' → mI m' 776 x = (((restF t n (List.replicate r 110) i).2 : Nat) : Int) → (restF t n (List.replicate r 110) i).2 ≤ E → Q (.inl (some (zI 1))) m') → (∀ m', (restF t n (List.replicate r 110) i).1 = false → FT x m m' → mI m' 776 x = (((restF t n (List.replicate r 110) i).2 : Nat) : Int) → (restF t n (List.replicate r 110) i).2 ≤ E → Q (.inl (some (zI 0))) m') → zW xs xl (d + 1) cX12_actionForm 12 (some .boolean) false [] 97 [zR x, zI (w : Int), zI (a2 : Int)] [] m Q := by
  intro r
  induction r with
  | zero =>
    intro a2 i m e h hi ht hT hF
    refine bX12_actionForm_97 ⟨⟨rfl, by omega, show (w : Int) < ((8 : Nat) : Int) by omega⟩, ?_⟩
    rw [Int.toNat_natCast, nm_x hw]
    exact ⟨fun _ => hT m rfl MF.rfl ht hi, fun z => absurd (by omega) z⟩
  | succ r ih =>
    intro a2 i m e h hi ht hT hF
    obtain ⟨k1, k2, k3, k4, k5, k6, k7⟩ := h.k hi hE
    have hn3 : nmF w ≤ 3 := by unfold nmF; split; omega; split; omega; split <;> omega
    refine bX12_actionForm_97 ⟨⟨rfl, by omega, show (w : Int) < ((8 : Nat) : Int) by omega⟩, ?_⟩
    rw [Int.toNat_natCast, nm_x hw, k2, k3, k4, ht, Int.toNat_natCast, k5, wr_s (i := a2) (by omega)]
    refine ⟨fun z => absurd z (by omega), fun _ => ⟨k1, rfl, ⟨by omega, k6⟩, fun c => M_takes0 ⟨0, rfl, fun z => absurd rfl z, fun _ => ?_⟩, fun c => M_takes1 k1 ht (by omega) (fun m1 f1 t1 => ⟨1, rfl, fun _ => ?_, fun z => absurd (by decide) z⟩)⟩⟩
    · have e0 : restF t n (List.replicate (r + 1) 110) i = (false, i) := rest1.2 (fun z => c (kd_of.2.2.mpr z))
      rw [e0] at hF
      exact hF m rfl MF.rfl ht hi
    · have h110 : (tkF t n i).1 = 110 := kd_of.2.2.mp (Decidable.not_not.mp c)
      have e0 : restF t n (List.replicate (r + 1) 110) i = restF t n (List.replicate r 110) (i + 1) := rest1.1 h110
      rw [e0] at hF hT
      exact ih (a2 + 1) (i + 1) m1 (by omega) (h.ft f1) (tk_lt hi h46 (by rw [h110]; decide)) t1 (fun m' q1 q2 q3 => hT m' q1 (f1.tr q2) q3) (fun m' q1 q2 q3 => hF m' q1 (f1.tr q2) q3)
theorem M_actionForm {x n E i : Nat} {t : Nat → Int} (hE : E ≤ n) (h46 : (tkF t n E).1 = 46) (h : SR m x n t (E + 1)) (hi : i ≤ E) (ht : mI m 776 x = i) (h8 : ¬ ((tkF t n i).1 = 115 ∧ (tkF t n i).2.1 = 8))
    (hN : (tkF t n i).1 ≠ 115 → Q (.inl (some (zI 0))) m)
    (hF : ∀ (m' : zM) (w e : Nat), (tkF t n i).1 = 115 → (tkF t n i).2.1 = (w : Int) → w < 8 → restF t n (formA w) (i + 1) = (false, e) → FT x m m' → mI m' 776 x = (e : Int) → e ≤ E → Q (.inl (some (zI 0))) m')
    (hT : ∀ (m' : zM) (w j : Nat), (tkF t n i).1 = 115 → (tkF t n i).2.1 = (w : Int) → w < 8 → restF t n (formA w) (i + 1) = (true, j) → FT x m m' → mI m' 776 x = (j : Int) → j ≤ E → Q (.inl (some (zI 1))) m') : zC xs xl (d + 7) 176 [zR x] m Q := by
  obtain ⟨k1, k2, k3, k4, k5, k6, k7⟩ := h.k hi hE
  refine bX12_actionForm_0 ⟨k1, ?_⟩
  rw [ht]
  refine M_which (a := 1) (c := 8) h hi hE (Or.inl ⟨rfl, rfl⟩) (fun W hW => ⟨W, rfl, fun c => ⟨k1, ?_⟩, fun c => ?_⟩)
  · rcases wh_tok (Or.inl ⟨rfl, rfl⟩) hW with ⟨z, -⟩ | ⟨q1, q2, q3, q4⟩
    · exact absurd z c
    · obtain ⟨w, ew⟩ : ∃ w : Nat, W = (w : Int) := ⟨W.toNat, by omega⟩
      subst ew
      replace q1 : (tkF t n i).1 = 115 := q1
      have hw : w < 8 := by omega
      have hi1 : i + 1 ≤ E := tk_lt hi h46 (by rw [q1]; decide)
      rw [ht, wr_s (i := i) (by omega)]
      have f1 : FT x m (sI m 776 x ((i + 1 : Nat) : Int)) := MF.rfl.s rfl
      have t1 : mI (sI m 776 x ((i + 1 : Nat) : Int)) 776 x = ((i + 1 : Nat) : Int) := zm_Is
      generalize sI m 776 x ((i + 1 : Nat) : Int) = m1 at f1 t1 ⊢
      have h1 := h.ft f1
      have p97 : ∀ (m2 : zM) (j : Nat), restF t n (formA w) (i + 1) = restF t n (List.replicate (nmF w) 110) j → SR m2 x n t (E + 1) → j ≤ E → mI m2 776 x = (j : Int) → FT x m m2 → zW xs xl (d + 6) cX12_actionForm 12 (some .boolean) false [] 97 [zR x, zI (w : Int), zI 0] [] m2 Q := by
        intro m2 j er g hj tj f2
        refine M_nums (d := d + 5) hE h46 hw (nmF w) 0 j m2 rfl g hj tj (fun m' r1 r2 r3 r4 => ?_) (fun m' r1 r2 r3 r4 => ?_)
        · exact hT m' w _ q1 q4 hw (er.trans (Prod.ext r1 rfl)) (f2.tr r2) r3 r4
        · exact hF m' w _ q1 q4 hw (er.trans (Prod.ext r1 rfl)) (f2.tr r2) r3 r4
      have p61 : ∀ (m2 : zM) (j : Nat), (w = 2 → j = i + 1) → (w ≠ 2 → restF t n (formA w) (i + 1) = restF t n (List.replicate (nmF w) 110) j) → SR m2 x n t (E + 1) → j ≤ E → mI m2 776 x = (j : Int) → FT x m m2 → zW xs xl (d + 6) cX12_actionForm 12 (some .boolean) false [] 61 [zR x, zI (w : Int), zU] [] m2 Q := by
        intro m2 j e2 en g hj tj f2
        obtain ⟨l1, l2, l3, l4, l5, l6, l7⟩ := g.k hj hE
        refine bX12_actionForm_61 ⟨fun c => p97 m2 j (en (by omega)) g hj tj f2, fun c => ⟨l1, ?_⟩⟩
        have ew : w = 2 := by omega
        have ej := e2 ew
        subst ej
        rw [tj]
        have ef : formA w = 119 :: List.replicate (nmF w) 110 := by rw [ew]; rfl
        refine M_which (a := 3) (c := 4) g hj hE (Or.inr (Or.inr ⟨rfl, rfl⟩)) (fun V hV => ⟨V, rfl, fun cv => ⟨l1, M_takes0 ⟨0, rfl, fun z => absurd rfl z, fun _ => ?_⟩⟩, fun cv => ⟨l1, M_takes1 l1 tj (by omega) (fun m3 f3 t3 => ⟨1, rfl, fun _ => ?_, fun z => absurd (by decide) z⟩)⟩⟩)
        · rcases wh_tok (Or.inr (Or.inr ⟨rfl, rfl⟩)) hV with ⟨-, z⟩ | ⟨-, r2, -, -⟩
          · have hne : (tkF t n (i + 1)).1 ≠ 119 := fun z2 => z ⟨z2, (tok_v.2.2.1 z2).1, (tok_v.2.2.1 z2).2⟩
            exact hF m2 w (i + 1) q1 q4 hw (by rw [ef]; exact rest1.2 hne) f2 tj hj
          · omega
        · rcases wh_tok (Or.inr (Or.inr ⟨rfl, rfl⟩)) hV with ⟨z, -⟩ | ⟨r1, -, -, -⟩
          · exact absurd z cv
          · have h119 : (tkF t n (i + 1)).1 = 119 := r1
            exact p97 m3 (i + 2) (by rw [ef]; exact rest1.1 h119) (g.ft f3) (tk_lt hj h46 (by rw [h119]; decide)) t3 (f2.tr f3)
      refine ⟨fun cw => p61 m1 (i + 1) (fun _ => rfl) (fun z => ?_) h1 hi1 t1 f1, fun cw => ?_⟩
      · unfold formA
        rw [if_neg (by omega), if_neg z, List.nil_append]
      · have hw1 : w ≤ 1 := by omega
        have ef : formA w = 102 :: List.replicate (nmF w) 110 := by
          unfold formA
          rw [if_pos hw1]; rfl
        obtain ⟨l1, l2, l3, l4, l5, l6, l7⟩ := h1.k hi1 hE
        refine M_which (a := 2) (c := 5) h1 hi1 hE (Or.inr (Or.inl ⟨rfl, rfl⟩)) (fun V hV => ⟨V, rfl, fun cv => ⟨l1, M_takes0 ⟨0, rfl, fun _ => ?_, fun z => absurd rfl z⟩⟩, fun cv => ⟨l1, M_takes1 l1 t1 (by omega) (fun m3 f3 t3 => ⟨1, rfl, fun z => absurd z (by decide), fun _ => ?_⟩)⟩⟩)
        · rcases wh_tok (Or.inr (Or.inl ⟨rfl, rfl⟩)) hV with ⟨-, z⟩ | ⟨-, r2, -, -⟩
          · have hne : (tkF t n (i + 1)).1 ≠ 102 := fun z2 => z ⟨z2, (tok_v.2.1 z2).1, (tok_v.2.1 z2).2⟩
            exact hF m1 w (i + 1) q1 q4 hw (by rw [ef]; exact rest1.2 hne) f1 t1 hi1
          · omega
        · rcases wh_tok (Or.inr (Or.inl ⟨rfl, rfl⟩)) hV with ⟨z, -⟩ | ⟨r1, -, -, -⟩
          · exact absurd z cv
          · have h102 : (tkF t n (i + 1)).1 = 102 := r1
            exact p61 m3 (i + 2) (fun z => by omega) (fun _ => by rw [ef]; exact rest1.1 h102) (h1.ft f3) (tk_lt hi1 h46 (by rw [h102]; decide)) t3 (f1.tr f3)
  · rcases wh_tok (Or.inl ⟨rfl, rfl⟩) hW with ⟨-, z⟩ | ⟨-, q2, -, -⟩
    · refine hN (fun z2 => ?_)
      have z2' : (tokF t n (plF t n i)).1 = 115 := z2
      obtain ⟨v1, v2⟩ := tok_v.1 z2'
      have v3 : (tokF t n (plF t n i)).2.1 ≠ 8 := fun z3 => h8 ⟨z2, z3⟩
      exact z ⟨z2', v1, by omega⟩
    · exact absurd q2 (by omega)
end ZRF
