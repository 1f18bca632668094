/-! the reference compiles -/
theorem tok_46 {t : Nat → Int} {n p : Nat} (hp : p ≤ n) (h : (tokF t n p).1 = 46) : (tokF t n p).2.2.1 = n := by
  have hb := blankF_in (t := t) (k := n - p) (p := p)
  unfold tokF at h ⊢
  by_cases c : blankF t (n - p) p < n
  · rw [if_pos c] at h
    exact absurd h tokW_46
  · rw [if_neg c]
    show blankF t (n - p) p = n
    omega
abbrev KJ (f : Nat) : Prop := f = 768 ∨ f = 770 ∨ kJ f
abbrev BN (x : Nat) (m m' : zM) : Prop := MF x KJ (fun a _ => x + 2 ≤ a ∧ a ≤ x + 4 ∨ a = x + 7) m m'
abbrev BF (x : Nat) (m m' : zM) : Prop := MF x KJ (fun a _ => x + 2 ≤ a ∧ a ≤ x + 7) m m'
theorem BN.bf {x : Nat} {m m' : zM} (f : BN x m m') : BF x m m' := f.mono (fun _ z => z) (fun _ _ z => by omega)
theorem GF.bn {x : Nat} {m m' : zM} (f : GF x m m') : BN x m m' := f.mono (fun _ z => Or.inr (Or.inr z)) (fun _ _ z => Or.inr z)
theorem SFm.bn {x : Nat} {m m' : zM} (f : SFm x m m') : BN x m m' := MF.mono f (fun _ z => z.elim) (fun _ _ z => Or.inl z)
theorem comp_fin {m m' : zM} {x : Nat} {B : zB} {P' : Nat → List zAc} {er : Int} (h : Md m x B) (f : BF x m m') (e770 : mI m' 770 x = 0) (e771 : mI m' 771 x = er) (hP : ∀ i, i < 6 → PA m' (x + 5) (x + 6) i (P' i)) : Md m' x (B.1, P', 0, bT B, er) ∧ Fr (rg x (x + 70)) 0 0 m m' := by
  obtain ⟨h1, h2, h3, h4, h5, h6⟩ := h
  have F : Fr (rg x (x + 8)) 0 0 m m' := ⟨fun a ha hs => ⟨fun k => f.1 k a (fun z => hs ⟨by omega, by omega⟩), fun k => by rw [f.2.1.1], fun j => f.2.2 a j (fun z => hs ⟨by omega, by omega⟩), fun j => by rw [f.2.1.2.1], by rw [f.2.1.2.2.1], by rw [f.2.1.2.2.2.1]⟩, by rw [f.2.1.2.2.2.2.1]; exact Nat.le_refl _, by rw [f.2.1.2.2.2.2.2.1]; exact Nat.le_refl _, by rw [f.2.1.2.2.2.2.2.2]; exact Nat.le_refl _⟩
  refine ⟨⟨h1.eq f.2.1.1 f.2.1.2.2.1 f.2.1.2.2.2.1 f.2.1.2.2.2.2.1, ⟨e770, Nat.zero_le _, fun i hi => absurd hi (Nat.not_lt_zero _)⟩, e771, hP, h5.mv F (by omega), h6.fr F (by omega)⟩, F.rg (Nat.le_refl _) (by omega)⟩
section ZRM
variable {xs : Nat → Int} {xl d : Nat} {m : zM} {Q : zRes → zM → Prop}
theorem M_compile {x : Nat} {B : zB} {p : Int} (h : Md m x B) (hQ : eM m x 0 0 (aCompile B p).1 (aCompile B p).2 Q) : zC xs xl (d + 15) 182 [zR x, zI p] m Q := by
  obtain ⟨hF, ⟨hn1, hn2, hn3⟩, -, hPl, -, -⟩ := id h
  refine bX12_compile_0 ⟨h.1.1, M_in (fun c => ⟨1, rfl, fun _ => ⟨h.1.1, ?_⟩, fun z => absurd (by decide) z⟩) (fun c => ⟨0, rfl, fun z => absurd rfl z, fun _ => ⟨h.1.1, ?_⟩⟩)⟩
  · have hin : inF p 6 := ⟨c.1, by omega⟩
    have eA : aCompile B p = if (formF (bT B) (bN B) (bN B + 1) 0 0 false).1 = false then (((0, 1), (B.1, B.2.1, 0, bT B, ((tkF (bT B) (bN B) (formF (bT B) (bN B) (bN B + 1) 0 0 false).2).2.2.1 : Nat))) : (Nat × Int) × zB)
      else match goF (bT B) (bN B) with
        | .inl e => ((0, e.1), (B.1, B.2.1, 0, bT B, (e.2 : Nat)))
        | .inr l => ((0, 0), (B.1, up1 B.2.1 p.toNat l, 0, bT B, -1)) := if_neg (fun z => z hin)
    have f0 : BN x m (sI (sI (sI (sI (sI (sI (sI m 768 x 0) 772 x 0) 771 x (-1)) 779 x 0) 781 x 0) 782 x 0) 783 x 0) := ((((((MF.rfl.s (Or.inl rfl)).s (by unfold KJ kJ; omega)).s (by unfold KJ kJ; omega)).s (by unfold KJ kJ; omega)).s (by unfold KJ kJ; omega)).s (by unfold KJ kJ; omega)).s (by unfold KJ kJ; omega)
    have s0 : SR (sI (sI (sI (sI (sI (sI (sI m 768 x 0) 772 x 0) 771 x (-1)) 779 x 0) 781 x 0) 782 x 0) 783 x 0) x (bN B) (bT B) 0 := ⟨hF.eq rfl rfl rfl rfl, ⟨by simp [zget]; exact hn1, hn2, hn3⟩, fun k hk => absurd hk (Nat.not_lt_zero _)⟩
    have v0 : mI (sI (sI (sI (sI (sI (sI (sI m 768 x 0) 772 x 0) 771 x (-1)) 779 x 0) 781 x 0) 782 x 0) 783 x 0) 768 x = 0 ∧ mI (sI (sI (sI (sI (sI (sI (sI m 768 x 0) 772 x 0) 771 x (-1)) 779 x 0) 781 x 0) 782 x 0) 783 x 0) 772 x = 0 ∧ mI (sI (sI (sI (sI (sI (sI (sI m 768 x 0) 772 x 0) 771 x (-1)) 779 x 0) 781 x 0) 782 x 0) 783 x 0) 771 x = -1 ∧ mI (sI (sI (sI (sI (sI (sI (sI m 768 x 0) 772 x 0) 771 x (-1)) 779 x 0) 781 x 0) 782 x 0) 783 x 0) 779 x = 0 ∧ mI (sI (sI (sI (sI (sI (sI (sI m 768 x 0) 772 x 0) 771 x (-1)) 779 x 0) 781 x 0) 782 x 0) 783 x 0) 781 x = 0 ∧ mI (sI (sI (sI (sI (sI (sI (sI m 768 x 0) 772 x 0) 771 x (-1)) 779 x 0) 781 x 0) 782 x 0) 783 x 0) 783 x = 0 := by simp [zget]
    generalize sI (sI (sI (sI (sI (sI (sI m 768 x 0) 772 x 0) 771 x (-1)) 779 x 0) 781 x 0) 782 x 0) 783 x 0 = ms at f0 s0 v0 ⊢
    obtain ⟨v768, v772, v771, v779, v781, v783⟩ := v0
    generalize hT : bT B = t at s0 eA
    generalize hN : bN B = n at s0 eA
    have p107e : ∀ (m1 : zM) (er pp : Int), er ≠ 0 → aCompile B p = ((0, er), (B.1, B.2.1, 0, bT B, pp)) → mI m1 772 x = er → mI m1 771 x = pp → mI m1 768 x = 0 → BN x m m1 → zW xs xl (d + 14) cX12_compile 12 (some .int) false [] 107 [zR x, zI p] [] m1 Q := by
      intro m1 er pp hne ea e1 e2 e3 f
      rw [ea] at hQ
      refine bX12_compile_107 ⟨(h.1.eq f.2.1.1 f.2.1.2.2.1 f.2.1.2.2.2.1 f.2.1.2.2.2.2.1).1, fun z => absurd (e1.symm.trans z) hne, fun _ => ?_⟩
      rw [e1]
      have f' : BN x m (sI m1 770 x 0) := f.s (by unfold KJ kJ; omega)
      obtain ⟨q1, q2⟩ := comp_fin (P' := B.2.1) (er := pp) h f'.bf zm_Is ((zm_In (by decide)).trans e2) (fun i hi => by
        have q := hPl i hi
        refine ⟨(f'.2.2 (x + 5) i (by omega)).trans q.1, q.2.1, fun j y hy => ?_⟩
        rw [f'.2.2 (x + 6) _ (by omega), f'.2.2 (x + 6) _ (by omega), f'.2.2 (x + 6) _ (by omega), f'.2.2 (x + 6) _ (by omega)]
        exact q.2.2 j y hy)
      exact hQ _ _ q1 ((zm_In (by decide)).trans e3) (fun _ => rfl) q2
    refine M_scan s0 (fun m5 E s5 h46 hno hE f5 => ⟨rfl, s5.1.1, ?_⟩)
    have b5 : BN x m m5 := f0.tr (SFm.bn f5)
    have i5 : ∀ g, mI m5 g x = mI ms g x := fun g => f5.1 g x (fun z => z.2)
    refine M_planForm (d := d + 5) hE h46 s5 (fun m7 tok ht f7 t7 htok => ⟨1, rfl, fun _ => ⟨(s5.ft f7).1.1, ?_⟩, fun z => absurd (by decide) z⟩) (fun m7 e he f7 t7 hle => ⟨0, rfl, fun z => absurd rfl z, fun _ => ⟨(s5.ft f7).1.1, ?_⟩⟩)
    · have s7 := s5.ft f7
      have i7 : ∀ g, g ≠ 776 → mI m7 g x = mI ms g x := fun g hg => (f7.1 g x (fun z => hg z.2)).trans (i5 g)
      have b7 : BN x m m7 := b5.tr f7.gf.bn
      have hw : formF t n (n + 1) 0 0 false = (true, (formF t n (n + 1) 0 0 false).2) := Prod.ext ht rfl
      obtain ⟨e0, hblk, he0, -⟩ := formF_blk (n + 1) (n + 1) 0 0 false (Nat.le_refl _) hw
      replace he0 := he0 rfl
      rw [ht, if_neg (by decide)] at eA
      have hG : RGo m7 x n E t tok ([], 0, 0, 0) := ⟨⟨s7, t7, htok⟩, ⟨(i7 779 (by decide)).trans v779, Nat.zero_le _, fun j q hq => absurd hq (by simp)⟩, ⟨(i7 781 (by decide)).trans v781, Or.inl rfl, (i7 783 (by decide)).trans v783, ⟨by decide, by decide⟩, fun z => absurd z (by decide)⟩, (i7 772 (by decide)).trans v772, (i7 771 (by decide)).trans v771⟩
      have i768 : ∀ m' : zM, GF x m7 m' → mI m' 768 x = 0 := fun m' f => ((f.1 768 x (fun z => by have := z.2; omega)).trans (i7 768 (by decide))).trans v768
      have eg : goF t n = match evF t n (n + 1) 3 0 ([], 0, 0, 0) with
        | .inl e => .inl e
        | .inr (_, st) => if st.2.2.1 ≠ 0 ∨ st.2.1 ≠ 0 then .inl (3, n) else .inr st.1 := rfl
      refine M_go hE h46 0 e0 tok ([], 0, 0, 0) m7 _ hblk (Nat.zero_le _) hG (fun e pp m' q1 q2 q3 q4 => ⟨0, rfl, fun _ => ?_, fun z => absurd rfl z⟩) (fun st' m' q1 q2 q3 => ⟨1, rfl, fun z => absurd z (by decide), fun _ => ⟨q3.1.1.1.1, ?_⟩⟩)
      · rw [q1] at eg
        rw [eg] at eA
        exact p107e m' e pp q2 (by rw [hT]; exact eA) q4.1 q4.2 (i768 m' q3) (b7.tr q3.bn)
      · rw [q1] at eg
        replace eg : goF t n = if st'.2.2.1 ≠ 0 ∨ st'.2.1 ≠ 0 then .inl (3, n) else .inr st'.1 := eg
        obtain ⟨⟨r1, r2, r3⟩, ⟨r4, r5, r6⟩, ⟨r7, -, r9, -⟩, r12, r13⟩ := q3
        have eE : e0 = E := Decidable.byContradiction fun z => hno e0 (by omega) he0
        have wr3 : st'.2.2.1 ≠ 0 ∨ st'.2.1 ≠ 0 → zC xs xl (d + 14) 177 [zR x, zI 3, zI ((e0 : Nat) : Int)] m' (fun r m14 => ∃ v15 : Int, r = .inl (some (zI v15)) ∧ zW xs xl (d + 14) cX12_compile 12 (some .int) false [] 107 [zR x, zI p] [] m14 Q) := by
          intro z
          rw [if_pos z] at eg
          rw [eg] at eA
          refine M_wrong r1 r3 hE (fun m'' f'' x'' => ⟨0, rfl, ?_⟩)
          have e3 : (tkF t n e0).2.2.1 = n := tok_46 (plF_in t n e0) he0
          rw [e3] at x''
          exact p107e m'' 3 n (by decide) (by rw [hT]; exact eA) x''.1 x''.2 (i768 m'' (q2.tr f'')) ((b7.tr q2.bn).tr f''.bn)
        rw [r7, r9, r2]
        refine ⟨fun z => wr3 (Or.inl z), fun z => ⟨fun z2 => ?_, fun z2 => wr3 (Or.inr z2)⟩⟩
        rw [if_neg (fun y => y.elim z (fun y => y z2))] at eg
        rw [eg] at eA
        replace eA : aCompile B p = ((0, 0), (B.1, up1 B.2.1 p.toNat st'.1, 0, bT B, -1)) := by rw [hT]; exact eA
        rw [eA] at hQ
        have b' : BN x m m' := b7.tr q2.bn
        refine bX12_compile_107 ⟨r1.1.1, fun _ => ?_, fun y => absurd r12 y⟩
        obtain ⟨-, -, ⟨-, -, -, -, d5, d6, d7, -, -⟩, ⟨-, -, -, -, k5, k6, k7⟩, -, -, -, -, n5, n6, n7⟩ := r1.1
        obtain ⟨g, hg⟩ := Int.eq_ofNat_of_zero_le hin.1
        subst hg
        have g6 : g < 6 := by have := hin.2; omega
        rw [Int.toNat_natCast] at hQ
        rw [r4, d5, d6, d7, n5, n6, n7, k5, k6, k7, wr_4o r5, wr_240 g6, Int.toNat_natCast, Int.toNat_natCast, Int.toNat_natCast]
        refine ⟨by omega, rfl, ⟨by omega, by omega, by decide, by omega, by omega, rfl, Or.inl rfl, by omega⟩, ?_⟩
        have fF : BF x m (cpA (sA (sI m' 770 x 0) (x + 5) g (st'.1.length : Int)) (x + 7) 0 (x + 6) (240 * g) (4 * st'.1.length)) := ((b'.bf.s (by unfold KJ kJ; omega)).w (by omega)).cp (fun j _ _ => by omega)
        obtain ⟨q1', q2'⟩ := comp_fin (P' := up1 B.2.1 g st'.1) (er := -1) h fF zm_Is ((zm_In (m := m') (f := 770) (g := 771) (a := x) (b := x) (v := 0) (by decide)).trans r13) (fun i hi => by
          have a5 : ∀ j, mA (cpA (sA (sI m' 770 x 0) (x + 5) g (st'.1.length : Int)) (x + 7) 0 (x + 6) (240 * g) (4 * st'.1.length)) (x + 5) j = if j = g then (st'.1.length : Int) else mA m' (x + 5) j := fun j => by
            show (if x + 5 = x + 6 ∧ _ ∧ _ then _ else (if x + 5 = x + 5 ∧ j = g then _ else mA m' (x + 5) j)) = _
            rw [if_neg (fun z => by omega)]
            by_cases cj : j = g
            · rw [if_pos ⟨rfl, cj⟩, if_pos cj]
            · rw [if_neg (fun z => cj z.2), if_neg cj]
          have a6 : ∀ j, mA (cpA (sA (sI m' 770 x 0) (x + 5) g (st'.1.length : Int)) (x + 7) 0 (x + 6) (240 * g) (4 * st'.1.length)) (x + 6) j = if 240 * g ≤ j ∧ j < 240 * g + 4 * st'.1.length then mA m' (x + 7) (j - 240 * g) else mA m' (x + 6) j := fun j => by
            show (if x + 6 = x + 6 ∧ _ ∧ _ then mA (sA (sI m' 770 x 0) (x + 5) g (st'.1.length : Int)) (x + 7) _ else mA (sA (sI m' 770 x 0) (x + 5) g (st'.1.length : Int)) (x + 6) j) = _
            rw [zm_Aa (show x + 7 ≠ x + 5 by omega), zm_Aa (show x + 6 ≠ x + 5 by omega)]
            by_cases cj : 240 * g ≤ j ∧ j < 240 * g + 4 * st'.1.length
            · rw [if_pos ⟨rfl, cj⟩, if_pos cj, Nat.zero_add]; rfl
            · rw [if_neg (fun z => cj z.2), if_neg cj]; rfl
          generalize cpA (sA (sI m' 770 x 0) (x + 5) g (st'.1.length : Int)) (x + 7) 0 (x + 6) (240 * g) (4 * st'.1.length) = M at a5 a6
          by_cases ci : i = g
          · subst ci
            rw [show up1 B.2.1 i st'.1 i = st'.1 from if_pos rfl]
            refine ⟨(a5 i).trans (if_pos rfl), r5, fun j y hy => ?_⟩
            have hj := (List.getElem?_eq_some_iff.mp hy).1
            have key : ∀ o, o < 4 → mA M (x + 6) (4 * (60 * i + j) + o) = mA m' (x + 7) (4 * j + o) := fun o ho => by
              rw [a6, if_pos ⟨by omega, by omega⟩, show 4 * (60 * i + j) + o - 240 * i = 4 * j + o by omega]
            obtain ⟨y1, y2, y3, y4⟩ := r6 j y hy
            exact ⟨(key 0 (by decide)).trans y1, (key 1 (by decide)).trans y2, fun z => (key 2 (by decide)).trans (y3 z), fun z => (key 3 (by decide)).trans (y4 z)⟩
          · rw [show up1 B.2.1 g st'.1 i = B.2.1 i from if_neg ci]
            have q := hPl i hi
            refine ⟨(a5 i).trans ((if_neg ci).trans ((b'.2.2 (x + 5) i (by omega)).trans q.1)), q.2.1, fun j y hy => ?_⟩
            have hj := (List.getElem?_eq_some_iff.mp hy).1
            have hl : (B.2.1 i).length ≤ 60 := q.2.1
            have key : ∀ o, o < 4 → mA M (x + 6) (4 * (60 * i + j) + o) = mA m (x + 6) (4 * (60 * i + j) + o) := fun o ho => by
              rw [a6, if_neg (fun z => by omega), b'.2.2 (x + 6) _ (by omega)]
            obtain ⟨y1, y2, y3, y4⟩ := q.2.2 j y hy
            exact ⟨(key 0 (by decide)).trans y1, (key 1 (by decide)).trans y2, fun z => (key 2 (by decide)).trans (y3 z), fun z => (key 3 (by decide)).trans (y4 z)⟩)
        exact hQ _ _ q1' ((zm_In (m := m') (f := 770) (g := 768) (a := x) (b := x) (v := 0) (by decide)).trans (i768 m' q2)) (fun _ => rfl) q2'
    · rw [t7]
      rw [he] at eA
      refine M_wrong (s5.ft f7) hle hE (fun m'' f'' x'' => ⟨0, rfl, ?_⟩)
      have i768 : mI m'' 768 x = 0 := (((f''.1 768 x (fun z => by have := z.2; omega)).trans (f7.1 768 x (fun z => absurd z.2 (by decide)))).trans (i5 768)).trans v768
      exact p107e m'' 1 _ (by decide) (by rw [hT]; exact eA) x''.1 x''.2 i768 ((b5.tr f7.gf.bn).tr f''.bn)
  · have e : aCompile B p = ((1, 0), B) := if_pos (fun z => c ⟨z.1, by have := z.2; omega⟩)
    rw [e] at hQ
    exact eM.no (n := 1) (by decide) h hQ thF h.th
end ZRM
