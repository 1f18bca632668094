/-! the reference goes through a plan: an action -/
theorem rest_at {t : Nat → Int} {n : Nat} : ∀ {l : List Int} {i : Nat}, (restF t n l i).1 = true → ∀ (y : Nat) (c : Int), l[y]? = some c → (tkF t n (i + y)).1 = c
  | [], i, _, y, c, hc => absurd hc (by simp)
  | k :: l, i, h, y, c, hc => by
    by_cases e : (tkF t n i).1 = k
    · rw [rest1.1 e] at h
      cases y with
      | zero => exact e.trans (Option.some.inj hc)
      | succ y =>
        have := rest_at (l := l) (i := i + 1) h y c hc
        rw [show i + (y + 1) = i + 1 + y by omega]
        exact this
    · rw [rest1.2 e] at h
      exact absurd h (show ¬ (false = true) by decide)
theorem rest_E {t : Nat → Int} {n E : Nat} (h46 : (tkF t n E).1 = 46) : ∀ {l : List Int} {i : Nat}, (restF t n l i).1 = true → i ≤ E → (∀ k ∈ l, k ≠ 46) → i + l.length ≤ E
  | [], i, _, hi, _ => hi
  | k :: l, i, h, hi, hl => by
    by_cases e : (tkF t n i).1 = k
    · rw [rest1.1 e] at h
      have := rest_E h46 (l := l) (i := i + 1) h (tk_lt hi h46 (by rw [e]; exact hl k List.mem_cons_self)) (fun q hq => hl q (List.mem_cons_of_mem _ hq))
      rw [List.length_cons]
      omega
    · rw [rest1.2 e] at h
      exact absurd h (show ¬ (false = true) by decide)
theorem form_at : ∀ w : Fin 8, (∀ y : Fin 3, y.1 < nmF w.1 → (formL ((w.1 : Nat) : Int))[offF w.1 + y.1]? = some 110) ∧ (w.1 ≤ 1 → (formL ((w.1 : Nat) : Int))[0]? = some 102) ∧ (w.1 = 2 → (formL ((w.1 : Nat) : Int))[0]? = some 119) ∧ (w.1 = 7 → (formL ((w.1 : Nat) : Int))[0]? = some 59) := by decide +kernel
theorem follow_s {w v : Int} {s : Int × Int × Int} : (followF w v s).2.1 = (if w = 2 then 1 else if w = 7 then 0 else s.2.1) ∧ (followF w v s).2.2 = (if w = 2 then 0 else if w = 5 then 1 else s.2.2) := by
  unfold followF
  by_cases c0 : w = 0
  · subst c0; exact ⟨rfl, rfl⟩
  · rw [if_neg c0]
    by_cases c1 : w = 1
    · subst c1; exact ⟨rfl, rfl⟩
    · rw [if_neg c1]
      by_cases c2 : w = 2
      · subst c2; exact ⟨rfl, rfl⟩
      · rw [if_neg c2]
        by_cases c5 : w = 5
        · subst c5; exact ⟨rfl, rfl⟩
        · rw [if_neg c5]
          by_cases c7 : w = 7
          · subst c7; exact ⟨rfl, rfl⟩
          · rw [if_neg c7, if_neg c2, if_neg c7, if_neg c2, if_neg c5]; exact ⟨rfl, rfl⟩
theorem RGo.fin {m m1 m2 m' : zM} {x n E i k w : Nat} {t : Nat → Int} {st : zPs} {V : Nat → Int} (h : RGo m x n E t i st) (hw : w < 8) (hl : st.1.length < 60) (f1 : DF x (4 * st.1.length) m m1) (hS : SR m1 x n t (E + 1)) (hc : CI m1 x (4 * st.1.length) w (nmF w) V) (f2 : MF x (fun f => f = 776 ∨ f = 779 ∨ f = 783) (fun _ _ => False) m1 m2) (e776 : mI m2 776 x = (k : Int)) (hk : k ≤ E) (e779 : mI m2 779 x = ((st.1.length + 1 : Nat) : Int)) (e783 : mI m2 783 x = (followF (w : Int) (V 0) st.2).1) (h32 : 0 ≤ (followF (w : Int) (V 0) st.2).1 ∧ (followF (w : Int) (V 0) st.2).1 < 32) (f3 : MF x (fun f => f = 781 ∨ f = 782) (fun _ _ => False) m2 m') (e781 : mI m' 781 x = (if w = 2 then 1 else if w = 7 then 0 else mI m2 781 x)) (e782 : mI m' 782 x = (if w = 2 ∨ w = 7 then 0 else if w = 5 then 1 else mI m2 782 x)) : RGo m' x n E t k (st.1 ++ [((w : Int), V 0, V 1, V 2)], followF (w : Int) (V 0) st.2) ∧ GF x m m' := by
  obtain ⟨⟨-, h2, h3⟩, ⟨h4, h5, h6⟩, ⟨h7, h8, h9, h10, h11⟩, h12, h13⟩ := h
  have g2 : GF x m1 m2 := f2.mono (fun _ z => by omega) (fun _ _ z => z.elim)
  have g3 : GF x m2 m' := f3.mono (fun _ z => by omega) (fun _ _ z => z.elim)
  have g13 := g2.tr g3
  have i2 : ∀ g, g ≠ 776 → g ≠ 779 → g ≠ 783 → mI m2 g x = mI m g x := fun g a1 a2 a3 => (f2.1 g x (fun z => by omega)).trans (f1.1 g x (fun z => a1 z.2))
  have i3 : ∀ g, g ≠ 781 → g ≠ 782 → mI m' g x = mI m2 g x := fun g a1 a2 => f3.1 g x (fun z => by omega)
  have a3 : ∀ j, mA m' (x + 7) j = mA m1 (x + 7) j := fun j => (f3.2.2 (x + 7) j (fun z => z.elim)).trans (f2.2.2 (x + 7) j (fun z => z.elim))
  obtain ⟨s1, s2⟩ := follow_s (w := (w : Int)) (v := V 0) (s := st.2)
  have hn3 := nm_3 hw
  refine ⟨⟨⟨hS.gf g13, (i3 776 (by decide) (by decide)).trans e776, hk⟩, ⟨?_, ?_, fun j q hq => ?_⟩, ⟨?_, ?_, (i3 783 (by decide) (by decide)).trans e783, h32, fun z => ?_⟩, ?_, ?_⟩, f1.gf.tr g13⟩
  · rw [i3 779 (by decide) (by decide), e779, List.length_append]; rfl
  · rw [List.length_append]; exact hl
  · rw [a3, a3, a3, a3]
    by_cases cj : j < st.1.length
    · replace hq : (st.1 ++ [((w : Int), V 0, V 1, V 2)])[j]? = some q := hq
      rw [List.getElem?_append_left cj] at hq
      rw [f1.2.2 (x + 7) (4 * j) (fun z => by omega), f1.2.2 (x + 7) (4 * j + 1) (fun z => by omega), f1.2.2 (x + 7) (4 * j + 2) (fun z => by omega), f1.2.2 (x + 7) (4 * j + 3) (fun z => by omega)]
      exact h6 j q hq
    · have ej : j = st.1.length := by
        have hlt := (List.getElem?_eq_some_iff.mp hq).1
        rw [List.length_append] at hlt
        have : [((w : Int), V 0, V 1, V 2)].length = 1 := rfl
        omega
      subst ej
      replace hq : (st.1 ++ [((w : Int), V 0, V 1, V 2)])[st.1.length]? = some q := hq
      rw [List.getElem?_append_right (Nat.le_refl _), Nat.sub_self] at hq
      have eq : ((w : Int), V 0, V 1, V 2) = q := Option.some.inj hq
      subst eq
      obtain ⟨c1, c2, c3, c4⟩ := hc
      have n5 : w = 5 → nmF w = 3 := fun z => by rw [z]; rfl
      refine ⟨c1, ?_, fun z => ?_, fun z => ?_⟩
      · by_cases cz : w ≤ 2 ∨ nmF w = 0
        · exact c2 cz
        · have := c4 (by omega) 0 (by omega)
          exact this
      · show mA m1 (x + 7) (4 * st.1.length + 2) = V 1
        by_cases e2 : w = 2
        · exact c3 e2 (by have := hn3.2.1 e2; omega)
        · have e5 : w = 5 := by
            rcases z with z | z
            · have z' : (w : Int) = 2 := z
              omega
            · have z' : (w : Int) = 5 := z
              omega
          exact c4 (by omega) 1 (by have := n5 e5; omega)
      · have z' : (w : Int) = 5 := z
        have e5 : w = 5 := by omega
        exact c4 (by omega) 2 (by have := n5 e5; omega)
  · rw [e781]
    show _ = (followF (w : Int) (V 0) st.2).2.1
    rw [s1, i2 781 (by decide) (by decide) (by decide), h7]
    by_cases c2 : w = 2
    · rw [if_pos c2, if_pos (show (w : Int) = 2 by omega)]
    · rw [if_neg c2, if_neg (show ¬ (w : Int) = 2 by omega)]
      by_cases c7 : w = 7
      · rw [if_pos c7, if_pos (show (w : Int) = 7 by omega)]
      · rw [if_neg c7, if_neg (show ¬ (w : Int) = 7 by omega)]
  · show (followF (w : Int) (V 0) st.2).2.1 = 0 ∨ (followF (w : Int) (V 0) st.2).2.1 = 1
    rw [s1]
    split
    · exact Or.inr rfl
    · split
      · exact Or.inl rfl
      · exact h8
  · replace z : (followF (w : Int) (V 0) st.2).2.1 = 1 := z
    rw [s1] at z
    rw [e782]
    show _ = (followF (w : Int) (V 0) st.2).2.2
    rw [s2]
    by_cases c2 : w = 2
    · rw [if_pos (Or.inl c2), if_pos (show (w : Int) = 2 by omega)]
    · rw [if_neg (show ¬ (w : Int) = 2 by omega)] at z ⊢
      by_cases c7 : w = 7
      · rw [if_pos (show (w : Int) = 7 by omega)] at z; exact absurd z (by decide)
      · rw [if_neg (show ¬ (w : Int) = 7 by omega)] at z
        rw [if_neg (show ¬ (w = 2 ∨ w = 7) by omega)]
        by_cases c5 : w = 5
        · rw [if_pos c5, if_pos (show (w : Int) = 5 by omega)]
        · rw [if_neg c5, if_neg (show ¬ (w : Int) = 5 by omega), i2 782 (by decide) (by decide) (by decide)]
          exact h11 z
  · exact ((i3 772 (by decide) (by decide)).trans (i2 772 (by decide) (by decide) (by decide))).trans h12
  · exact ((i3 771 (by decide) (by decide)).trans (i2 771 (by decide) (by decide) (by decide))).trans h13
section ZRJ
variable {xs : Nat → Int} {xl d : Nat} {m : zM} {Q : zRes → zM → Prop}
theorem M_goAction {x n E i w : Nat} {t : Nat → Int} {st : zPs} (hE : E ≤ n) (h46 : (tkF t n E).1 = 46) (h : RGo m x n E t i st) (h115 : (tkF t n i).1 = 115) (hv : (tkF t n i).2.1 = (w : Int)) (hw : w < 8) (hr : (restF t n (formL (w : Int)) (i + 1)).1 = true)
    (hEr : ∀ (e : Int) (p : Nat) (m' : zM), stpF t n i (w : Int) st = .inl (e, p) → e ≠ 0 → GF x m m' → RErr m' x e p → Q (.inl (some (zI 0))) m')
    (hO : ∀ (st' : zPs) (m' : zM), stpF t n i (w : Int) st = .inr st' → GF x m m' → RGo m' x n E t (i + 1 + (formL (w : Int)).length) st' → Q (.inl (some (zI 1))) m') : zC xs xl (d + 7) 181 [zR x] m Q := by
  obtain ⟨⟨g1, g2, g3⟩, ⟨g4, g5, -⟩, ⟨-, -, g9, g10, -⟩, -⟩ := id h
  have hi1 : i + 1 ≤ E := tk_lt g3 h46 (by rw [h115]; decide)
  have hn := g1.2.1.2.1
  obtain ⟨fl1, fl2, -⟩ := form_len ⟨w, hw⟩
  replace fl1 : (formL (w : Int)).length = offF w + nmF w + 1 := fl1
  obtain ⟨fa1, fa2, fa3, fa4⟩ := form_at ⟨w, hw⟩
  have hrE := rest_E h46 hr hi1 (fun k hk => formL_46 hk)
  have hn3 := nm_3 hw
  have v0 : valF t n (i + 1) (w : Int) 0 = (tkF t n (i + 1)).2.1 := if_pos (by omega)
  have p55 : ∀ s0 : Int, (w ≤ 2 → s0 = (tkF t n (i + 1)).2.1) → (2 < w → s0 = 0) → (w ≤ 1 → 0 ≤ s0 ∧ s0 < 5) → zW xs xl (d + 6) cX12_goAction 12 (some .boolean) false [] 55 [zR x, zI (w : Int), zU, zU, zU, zU] [zI s0] m Q := by
    intro s0 e1 e2 e3
    have es : stpF t n i (w : Int) st = if outF (w : Int) (valF t n (i + 1) (w : Int) 0) st.2.1 st.2.2.1 st.2.2.2 ≠ 0 then .inl (3, (tkF t n i).2.2.1) else if 60 ≤ st.1.length then .inl (4, (tkF t n i).2.2.1) else if 0 ≤ wnF (w : Int) (valF t n (i + 1) (w : Int)) (formL (w : Int)) 0 then .inl (2, (tkF t n (i + 1 + (wnF (w : Int) (valF t n (i + 1) (w : Int)) (formL (w : Int)) 0).toNat)).2.2.1) else .inr (st.1 ++ [((w : Int), valF t n (i + 1) (w : Int) 0, valF t n (i + 1) (w : Int) 1, valF t n (i + 1) (w : Int) 2)], followF (w : Int) (valF t n (i + 1) (w : Int) 0) st.2) := rfl
    refine bX12_goAction_55 ⟨g1.1.1, M_mis h hw (v := valF t n (i + 1) (w : Int) 0) (fun c => by rw [v0]; have a := e1 (by omega); have b := e3 c; rw [← a]; exact ⟨rfl, b⟩) (fun co => ⟨1, rfl, fun z => absurd z (by decide), fun _ => ⟨g1.1.1, ?_⟩⟩) (fun co => ⟨0, rfl, fun _ => ⟨g1.1.1, ?_⟩, fun z => absurd rfl z⟩)⟩
    · rw [if_pos co] at es
      rw [g2]
      exact M_wrong g1 g3 hE (fun m' f x' => ⟨0, rfl, Or.inl rfl, hEr 3 _ m' es (by decide) f x'⟩)
    · rw [if_neg (fun z => z co)] at es
      rw [g4, g2, g1.1.2.2.1.2.2.2.2.2.2.1]
      refine ⟨fun c60 => ?_, fun c60 => ?_⟩
      · have hl : st.1.length < 60 := by omega
        rw [if_neg (show ¬ 60 ≤ st.1.length by omega)] at es
        have ew1 : wr (((4 * st.1.length : Nat) : Int) + 1) = ((4 * st.1.length + 1 : Nat) : Int) := wr_4j (show 4 * st.1.length ≤ 240 by omega) (by omega)
        rw [wr_4o g5, ew1, Int.toNat_natCast, Int.toNat_natCast, g1.1.2.2.2.1.2.2.2.2.2.2, g1.1.2.2.2.2.2.2.2.2.2.2]
        have p139 : ∀ k : Nat, k = i + 1 + offF w → zW xs xl (d + 6) cX12_goAction 12 (some .boolean) false [] 139 [zR x, zI (w : Int), zI s0, zI ((4 * st.1.length : Nat) : Int), zI 0, zU] [] (sI (sA (sA m (x + 7) (4 * st.1.length) (w : Int)) (x + 7) (4 * st.1.length + 1) s0) 776 x (k : Int)) Q := by
          intro k ek
          subst ek
          have f1 : DF x (4 * st.1.length) m (sI (sA (sA m (x + 7) (4 * st.1.length) (w : Int)) (x + 7) (4 * st.1.length + 1) s0) 776 x ((i + 1 + offF w : Nat) : Int)) := ((MF.rfl.w ⟨rfl, Nat.le_refl _⟩).w ⟨rfl, by omega⟩).s rfl
          refine M_act139 (d := d + 1) (mB := m) (V := valF t n (i + 1) (w : Int)) hE hw hl (fun y hy => ?_) (by omega) (fun m' y hy hwn f x' => ?_) (fun m1 a4 u hwn gS t1 f2 hc => ?_) (nmF w) 0 _ _ (Nat.add_zero _) (g1.gf f1.gf) zm_Is f1 ⟨?_, fun c => ?_, fun _ z => absurd z (by decide), fun _ y hy => absurd hy (Nat.not_lt_zero _)⟩ (wn_start hw _)
          · have q := rest_at hr (offF w + y) 110 (fa1 ⟨y, by omega⟩ hy)
            rw [← Nat.add_assoc] at q
            refine ⟨q, ?_⟩
            have q2 : valF t n (i + 1) (w : Int) (offF w + y) = (tkF t n (i + 1 + (offF w + y))).2.1 := if_pos (by omega)
            rw [q2, ← Nat.add_assoc]
          · rw [hwn, if_pos (by omega), Int.toNat_natCast, ← Nat.add_assoc] at es
            exact hEr 2 _ m' es (by decide) f x'
          · rw [hwn, if_neg (by decide)] at es
            have e779 : mI m1 779 x = (st.1.length : Int) := (f2.1 779 x (fun z => absurd z.2 (by decide))).trans g4
            have e783 : mI m1 783 x = st.2.1 := (f2.1 783 x (fun z => absurd z.2 (by decide))).trans g9
            rw [t1, e779, e783, wr_s (i := i + 1 + offF w + nmF w) (by omega), wr_s (i := st.1.length) (by omega)]
            have ek : i + 1 + offF w + nmF w + 1 = i + 1 + (formL (w : Int)).length := by omega
            rw [ek]
            refine ⟨fun c1 => M_act262 gS.1.1 hw (fun m' f3 e781 e782 => ?_), fun c1 => M_act262 gS.1.1 hw (fun m' f3 e781 e782 => ?_)⟩
            · have ef : (followF (w : Int) (valF t n (i + 1) (w : Int) 0) st.2).1 = st.2.1 := by
                unfold followF
                rw [if_neg (by omega), if_neg (by omega)]
                split
                · rfl
                · split
                  · rfl
                  · split <;> rfl
              obtain ⟨r1, r2⟩ := RGo.fin (V := valF t n (i + 1) (w : Int)) h hw hl f2 gS hc ((MF.rfl.s (Or.inl rfl)).s (Or.inr (Or.inl rfl))) ((zm_In (by decide)).trans zm_Is) hrE zm_Is (((zm_In (by decide)).trans (zm_In (by decide))).trans (e783.trans ef.symm)) (by rw [ef]; exact g10) f3 e781 e782
              exact hO _ m' es r2 r1
            · have hv5 := e3 (by omega)
              have es0 : s0 = valF t n (i + 1) (w : Int) 0 := (e1 (by omega)).trans v0.symm
              obtain ⟨-, b2, b3, b4, b5, b6⟩ := bitg_i g10 hv5
              have ef : (followF (w : Int) (valF t n (i + 1) (w : Int) 0) st.2).1 = bXor st.2.1 (bShl 1 s0) := by
                have co' := co
                unfold outF at co'
                rw [← es0] at co' ⊢
                unfold followF
                by_cases c0 : (w : Int) = 0
                · rw [if_pos c0] at co' ⊢
                  refine b3 (Decidable.byContradiction fun z => ?_)
                  rw [if_neg z] at co'
                  exact absurd co' (by decide)
                · rw [if_neg c0, if_pos (show (w : Int) = 1 by omega)] at co' ⊢
                  refine b4 (fun z => ?_)
                  rw [if_pos z] at co'
                  exact absurd co' (by decide)
              obtain ⟨r1, r2⟩ := RGo.fin (V := valF t n (i + 1) (w : Int)) h hw hl f2 gS hc (((MF.rfl.s (Or.inl rfl)).s (Or.inr (Or.inl rfl))).s (Or.inr (Or.inr rfl))) (((zm_In (by decide)).trans (zm_In (by decide))).trans zm_Is) hrE ((zm_In (by decide)).trans zm_Is) (zm_Is.trans ef.symm) (by rw [ef]; exact ⟨b5, b6⟩) f3 e781 e782
              exact hO _ m' es r2 r1
          · exact (zm_An (by omega)).trans zm_As
          · refine zm_As.trans ?_
            rcases Nat.lt_or_ge 2 w with c2 | c2
            · have e7 : w = 7 := by
                have hz : nmF w = 0 := by omega
                have : ∀ w : Fin 8, 2 < w.1 → nmF w.1 = 0 → w.1 = 7 := by decide
                exact this ⟨w, hw⟩ c2 hz
              have k59 := rest_at hr 0 59 (fa4 e7)
              rw [Nat.add_zero] at k59
              rw [e2 c2, v0]
              exact (tok_v.2.2.2 (by show isS (tkF t n (i + 1)).1; rw [k59]; exact Or.inl rfl)).symm
            · exact (e1 c2).trans v0.symm
        refine ⟨by omega, rfl, by omega, fun c2 => ?_, fun c2 => ?_⟩
        · have q := p139 (i + 1) (by rw [show offF w = 0 from if_neg (by omega)])
          rw [wr_s (i := i) (by omega)]
          exact q
        · have q := p139 (i + 2) (by rw [show offF w = 1 from if_pos (by omega)])
          rw [wr_id (x := (i : Int) + 2) (by omega) (by omega)]
          exact q
      · rw [if_pos (show 60 ≤ st.1.length by omega)] at es
        exact M_wrong g1 g3 hE (fun m' f x' => ⟨0, rfl, Or.inl rfl, hEr 4 _ m' es (by decide) f x'⟩)
  refine bX12_goAction_0 ⟨g1.1.1, ?_⟩
  rw [g2]
  refine M_which (a := 1) (c := 8) g1 g3 hE (Or.inl ⟨rfl, rfl⟩) (fun W hW => ?_)
  have eW : W = (w : Int) := by
    rcases wh_tok (Or.inl ⟨rfl, rfl⟩) hW with ⟨-, z⟩ | ⟨-, -, -, q4⟩
    · exfalso
      have hv' : (tokF t n (plF t n i)).2.1 = (w : Int) := hv
      exact z ⟨h115, by omega, by omega⟩
    · exact q4.symm.trans hv
  subst eW
  refine ⟨_, rfl, fun c1 => ⟨fun c2 => p55 0 (fun z => by omega) (fun _ => rfl) (fun z => by omega), fun c2 => ⟨g1.1.1, ?_⟩⟩, fun c1 => ⟨g1.1.1, ?_⟩⟩
  · rw [g2, wr_s (i := i) (by omega)]
    have k119 := rest_at hr 0 119 (fa3 (by show w = 2; omega))
    rw [Nat.add_zero] at k119
    refine M_which (a := 3) (c := 4) g1 hi1 hE (Or.inr (Or.inr ⟨rfl, rfl⟩)) (fun U hU => ?_)
    have hb := tok_v.2.2.1 k119
    rcases wh_tok (Or.inr (Or.inr ⟨rfl, rfl⟩)) hU with ⟨-, z⟩ | ⟨-, q2, q3, q4⟩
    · exact absurd ⟨k119, hb.1, hb.2⟩ z
    · exact ⟨_, rfl, p55 U (fun _ => q4.symm) (fun z => by omega) (fun z => by omega)⟩
  · rw [g2, wr_s (i := i) (by omega)]
    have k102 := rest_at hr 0 102 (fa2 (by show w ≤ 1; omega))
    rw [Nat.add_zero] at k102
    refine M_which (a := 2) (c := 5) g1 hi1 hE (Or.inr (Or.inl ⟨rfl, rfl⟩)) (fun U hU => ?_)
    have hb := tok_v.2.1 k102
    rcases wh_tok (Or.inr (Or.inl ⟨rfl, rfl⟩)) hU with ⟨-, z⟩ | ⟨-, q2, q3, q4⟩
    · exact absurd ⟨k102, hb.1, hb.2⟩ z
    · exact ⟨_, rfl, p55 U (fun _ => q4.symm) (fun z => by omega) (fun _ => ⟨q2, by omega⟩)⟩
end ZRJ
