/-! constructors: the reference -/
theorem IS.row {T : List (Nat × Nat × Nat × Int)} {m m' : zM} {b c k o : Nat} {J : Nat → Int} {q : Nat × Nat × Nat × Int} (h : IS T m b c J k m') (ho : 1 ≤ o ∧ o ≤ k) (hq : T[o - 1]? = some q) : mR m' q.1 b = b + o ∧ mC m' (b + o) = q.2.1 ∧ mN m' (b + o) = q.2.2.1 ∧ ∀ i, i < q.2.2.1 → mA m' (b + o) i = q.2.2.2 := by
  have g := h.2.2.1 (o - 1) q (by omega) hq
  rw [show b + 1 + (o - 1) = b + o by omega] at g
  exact g
theorem sTab_r : (∀ e ∈ rTab, (1 ≤ e.2.1 ∧ e.2.1 ≤ 30) ∧ (sTab[e.2.1 - 1]?.map (fun q => (q.1, q.2.1, q.2.2.1))) = some (e.1, e.2.2.1, e.2.2.2)) ∧ (∀ k : Fin 18, (1 ≤ rOff k.1 ∧ rOff k.1 ≤ 30) ∧ (sTab[rOff k.1 - 1]?.map (fun q => (q.2.2.1, q.2.2.2))) = some (6, x0F k.1)) ∧ suM sTab 30 = 2561 := by decide +kernel
theorem IS.rst {m m' : zM} {b : Nat} (h : IS sTab m b 12 (fun _ => 0) 30 m') : RSt m' b Y0 := by
  obtain ⟨t1, t2, -⟩ := sTab_r
  have hz := h.1.1
  have r6 := h.row (o := 6) (q := (711, 20, 5, 0)) ⟨by decide, by decide⟩ rfl
  have r28 := h.row (o := 28) (q := (734, 20, 18, 0)) ⟨by decide, by decide⟩ rfl
  have r29 := h.row (o := 29) (q := (735, 20, 18, 0)) ⟨by decide, by decide⟩ rfl
  have r30 := h.row (o := 30) (q := (739, 20, 240, 0)) ⟨by decide, by decide⟩ rfl
  refine ⟨⟨h.1.2, by omega, fun e he => ?_⟩, ⟨h.2.1 704, h.2.1 705, h.2.1 712, h.2.1 736, h.2.1 737, h.2.1 738, Nat.zero_le _, Nat.zero_le _⟩, fun i hi => absurd hi (Nat.not_lt_zero _), fun j hj => r6.2.2.2 j hj, fun i hi => ⟨fun k hk => ?_, fun z => absurd rfl z, fun j hj => ⟨?_, ?_⟩⟩, fun i hi z => absurd rfl z, fun r j hr hj => r30.2.2.2 (6 * r + j) (by show 6 * r + j < 240; omega)⟩
  · obtain ⟨q1, q2⟩ := t1 e he
    obtain ⟨q, q3, q4⟩ := Option.map_eq_some_iff.mp q2
    obtain ⟨r1, r2, r3, -⟩ := h.row q1 q3
    have e1 : q.1 = e.1 := congrArg (fun z => z.1) q4
    have e2 : q.2.1 = e.2.2.1 := congrArg (fun z => z.2.1) q4
    have e3 : q.2.2.1 = e.2.2.2 := congrArg (fun z => z.2.2) q4
    rw [← e1, ← e2, ← e3]
    exact ⟨r1, r2, r3⟩
  · obtain ⟨q1, q2⟩ := t2 ⟨k, by omega⟩
    obtain ⟨q, q3, q4⟩ := Option.map_eq_some_iff.mp q2
    obtain ⟨-, -, -, r4⟩ := h.row q1 q3
    have e1 : q.2.2.1 = 6 := congrArg (fun z => z.1) q4
    have e2 : q.2.2.2 = x0F k := congrArg (fun z => z.2) q4
    rw [e1, e2] at r4
    exact r4 i hi
  · exact (r28.2.2.2 (3 * i + j) (by show 3 * i + j < 18; omega)).trans (if_neg (by omega)).symm
  · exact (r29.2.2.2 (3 * i + j) (by show 3 * i + j < 18; omega)).trans (if_neg (by omega)).symm
theorem IS.int {T : List (Nat × Nat × Nat × Int)} {m0 m : zM} {b c k g : Nat} {v : Int} {J : Nat → Int} (h : IS T m0 b c J k m) : IS T m0 b c (up1 J g v) k (sI m g b v) := by
  obtain ⟨g1, g3, g4, g5⟩ := h
  refine ⟨g1, fun f => ?_, g4, g5.sI (Nat.le_refl _)⟩
  by_cases c : f = g
  · subst c
    exact zm_Is.trans (if_pos rfl).symm
  · exact (zm_In c).trans ((g3 f).trans (if_neg c).symm)
def mTab : List (Nat × Nat × Nat × Int) := [(769, 20, 1000, 0), (773, 20, 1001, 0), (774, 20, 1001, 0), (775, 20, 1001, 0), (777, 20, 6, 0), (778, 20, 1440, 0), (780, 20, 240, 0)]
theorem mTab_n : (mTab.map (fun q => q.1)).Nodup ∧ suM mTab 7 = 5689 := by decide +kernel
section ZCT
variable {xs : Nat → Int} {xl d : Nat} {m : zM} {Q : zRes → zM → Prop}
theorem C_newState {b : Nat} (hC : mC m b = 12) (hz : mz m = b + 1) (h0 : b ≠ 0) (hI : ∀ f, mI m f b = 0) (hQ : ∀ m', RSt m' b Y0 → mz m' = b + 31 → Fr (up b) 30 2561 m m' → Q (.inl none) m') : zC xs xl (d + 1) 129 [zR b] m Q :=
  C_newSt0 hC hz h0 hI (fun m' h => hQ m' h.rst h.1.1 (by have := h.2.2.2; rw [sTab_r.2.2] at this; exact this))
theorem C_newModel {x : Nat} (hC : mC m x = 13) (hz : mz m = x + 1) (h0 : x ≠ 0) (hI : ∀ f, mI m f x = 0) (hQ : ∀ m', Md m' x B0 → mz m' = x + 70 → Fr (up x) 69 10883 m m' → Q (.inl none) m') : zC xs xl (d + 2) 160 [zR x] m Q := by
  have s0 : IS mTab m x 13 (fun _ => 0) 0 m := ⟨⟨hz, hC⟩, hI, fun j r hj => absurd hj (Nat.not_lt_zero _), Fr.rfl⟩
  have ne : ∀ i, 0 < i → x + i ≠ x := fun i h => by omega
  have ne' : ∀ i, 0 < i → ¬ x = x + i := fun i h => by omega
  have nz : ∀ i, x + i ≠ 0 := fun i => by omega
  have le : ∀ i b, x + i ≤ b → x ≤ b := fun i b h => by omega
  have nle : ∀ i j b, b < x + i → i ≤ j → ¬ x + j ≤ b := fun i j b h1 h2 => by omega
  have xlt : ∀ i, 0 < i → x < x + i := fun i h => by omega
  have lt : ∀ i j, i < j → x + i < x + j := fun i j h => Nat.add_lt_add_left h x
  have lt' : ∀ i j, i ≤ j → x + i ≤ x + j := fun i j h => Nat.add_le_add_left h x
  have eo : ∀ o, x + 1 + o = x + (o + 1) := fun o => by omega
  refine bX12_init_0 ⟨h0, fun m2 e1 => ?_⟩
  have c1 : mC m2 x = 13 := by rw [e1]; exact s0.al
  have s1 : IS mTab m x 13 (up1 (fun _ => 0) 771 (-1)) 1 (sI (sR m2 769 x (mz m)) 771 x (-1)) := by rw [e1]; exact (s0.st rfl mTab_n.1).int
  refine ⟨c1, fun m4 e2 => ?_⟩
  have c2 : mC m4 x = 13 := by rw [e2]; exact s1.al
  have s2 : IS mTab m x 13 (up1 (fun _ => 0) 771 (-1)) 2 (sR m4 773 x (mz m2)) := by rw [e2]; exact s1.st rfl mTab_n.1
  refine ⟨c2, fun m6 e3 => ?_⟩
  have c3 : mC m6 x = 13 := by rw [e3]; exact s2.al
  have s3 : IS mTab m x 13 (up1 (fun _ => 0) 771 (-1)) 3 (sR m6 774 x (mz m4)) := by rw [e3]; exact s2.st rfl mTab_n.1
  refine ⟨c3, fun m8 e4 => ?_⟩
  have c4 : mC m8 x = 13 := by rw [e4]; exact s3.al
  have s4 : IS mTab m x 13 (up1 (fun _ => 0) 771 (-1)) 4 (sR m8 775 x (mz m6)) := by rw [e4]; exact s3.st rfl mTab_n.1
  refine ⟨c4, fun m10 e5 => ?_⟩
  have c5 : mC m10 x = 13 := by rw [e5]; exact s4.al
  have s5 : IS mTab m x 13 (up1 (fun _ => 0) 771 (-1)) 5 (sR m10 777 x (mz m8)) := by rw [e5]; exact s4.st rfl mTab_n.1
  refine ⟨c5, fun m12 e6 => ?_⟩
  have c6 : mC m12 x = 13 := by rw [e6]; exact s5.al
  have s6 : IS mTab m x 13 (up1 (fun _ => 0) 771 (-1)) 6 (sR m12 778 x (mz m10)) := by rw [e6]; exact s5.st rfl mTab_n.1
  refine ⟨c6, fun m14 e7 => ?_⟩
  have c7 : mC m14 x = 13 := by rw [e7]; exact s6.al
  have s7 : IS mTab m x 13 (up1 (fun _ => 0) 771 (-1)) 7 (sR m14 780 x (mz m12)) := by rw [e7]; exact s6.st rfl mTab_n.1
  have z14 : mz m14 = x + 8 := s7.1.1
  refine ⟨c7, fun m16 e16 => ⟨by rw [z14]; exact nz 8, ?_⟩⟩
  generalize sR m14 780 x (mz m12) = w at s7 e16
  have zw : mz w = x + 8 := s7.1.1
  clear c1 c2 c3 c4 c5 c6 s0 s1 s2 s3 s4 s5 s6 e1 e2 e3 e4 e5 e6 e7
  have f16 : Fr (up x) 8 5725 m m16 := by
    have := s7.2.2.2
    rw [mTab_n.2] at this
    rw [e16]; exact this.nwO
  have k16 : mC m16 (x + 8) = 12 := by rw [e16]; exact if_pos zw.symm
  have z16 : mz m16 = x + 8 + 1 := by rw [e16]; show mz w + 1 = _; rw [zw]
  have i16 : ∀ f, mI m16 f (x + 8) = 0 := fun f => by rw [e16]; exact if_pos zw.symm
  have v16 : ∀ b, b < x + 8 → Eqv w m16 b := fun b hb => by rw [e16]; exact eq_nwO (by rw [zw]; exact Nat.ne_of_lt hb)
  clear e16
  rw [z14]
  refine C_newState k16 z16 (nz 8) i16 (fun m17 hS1 z17 f17 => ?_)
  have z17' : mz m17 = x + 39 := z17
  have u17 : ∀ b, b < x + 8 → Eqv w m17 b := fun b hb => (v16 b hb).tr (f17.1 b (by rw [z16]; exact Nat.lt_succ_of_lt hb) (nle 8 8 b hb (Nat.le_refl _)))
  have F17 : Fr (up x) 38 8286 m m17 := f16.tr (f17.sub (fun b q => le 8 b q)) (by decide) (by decide)
  have ex := u17 x (xlt 8 (by decide))
  clear f16 f17 v16 i16 k16
  refine ⟨rfl, ex.2.2.2.2.1.trans s7.1.2, fun m21 e21 => ⟨by rw [z17']; exact nz 39, ?_⟩⟩
  have F21 : Fr (up x) 39 8322 m m21 := by rw [e21]; exact (F17.sR (Nat.le_refl _)).nwO
  have k21 : mC m21 (x + 39) = 12 := by rw [e21]; exact if_pos z17'.symm
  have z21 : mz m21 = x + 39 + 1 := by rw [e21]; show mz m17 + 1 = _; rw [z17']
  have i21 : ∀ f, mI m21 f (x + 39) = 0 := fun f => by rw [e21]; exact if_pos z17'.symm
  have v21 : ∀ b, b < x + 39 → b ≠ x → Eqv m17 m21 b := fun b hb hne => by rw [e21]; exact (eq_sRn hne).tr (eq_nwO (by show b ≠ mz m17; rw [z17']; exact Nat.ne_of_lt hb))
  have x21 : (∀ f, mI m21 f x = mI m17 f x) ∧ (∀ f, f ≠ 784 → mR m21 f x = mR m17 f x) ∧ mR m21 784 x = x + 8 ∧ mC m21 x = mC m17 x := by
    have nx : ¬ x = mz m17 := by rw [z17']; exact ne' 39 (by decide)
    rw [e21]
    exact ⟨fun f => if_neg nx, fun f hf => (if_neg nx).trans (zm_Rn hf), (if_neg nx).trans zm_Rs, if_neg nx⟩
  clear e21
  rw [z17']
  refine C_newState k21 z21 (nz 39) i21 (fun m22 hS2 z22 f22 => ?_)
  have u22 : ∀ b, b < x + 39 → Eqv m21 m22 b := fun b hb => f22.1 b (by rw [z21]; exact Nat.lt_succ_of_lt hb) (nle 39 39 b hb (Nat.le_refl _))
  have F22 : Fr (up x) 69 10883 m m22 := F21.tr (f22.sub (fun b q => le 39 b q)) (by decide) (by decide)
  have ex2 := u22 x (xlt 39 (by decide))
  have rw7 : ∀ o q, 1 ≤ o → o ≤ 7 → mTab[o - 1]? = some q → mC m22 (x + o) = q.2.1 ∧ mN m22 (x + o) = q.2.2.1 ∧ (∀ i, i < q.2.2.1 → mA m22 (x + o) i = q.2.2.2) ∧ (q.1 ≠ 784 → mR m22 q.1 x = x + o) := by
    intro o q o1 o2 hq
    obtain ⟨r1, r2, r3, r4⟩ := s7.row ⟨o1, o2⟩ hq
    have eo' := ((u17 (x + o) (lt o 8 (Nat.lt_succ_of_le o2))).tr (v21 (x + o) (lt o 39 (by omega)) (ne o o1))).tr (u22 (x + o) (lt o 39 (by omega)))
    exact ⟨eo'.2.2.2.2.1.trans r2, eo'.2.2.2.2.2.trans r3, fun i hi => (eo'.2.2.1 i).trans (r4 i hi), fun z => ((ex2.2.1 q.1).trans ((x21.2.1 q.1 z).trans (ex.2.1 q.1))).trans r1⟩
  have rI : ∀ f, mI m22 f x = if f = 771 then -1 else 0 := fun f => ((ex2.1 f).trans ((x21.1 f).trans (ex.1 f))).trans (s7.2.1 f)
  have rC : mC m22 x = 13 := ((ex2.2.2.2.2.1).trans (x21.2.2.2.trans ex.2.2.2.2.1)).trans s7.1.2
  have r84 : mR m22 784 x = x + 8 := (ex2.2.1 784).trans x21.2.2.1
  obtain ⟨a1, a2, a3, a4⟩ := rw7 1 (769, 20, 1000, 0) (by decide) (by decide) rfl
  obtain ⟨b1, b2, b3, b4⟩ := rw7 2 (773, 20, 1001, 0) (by decide) (by decide) rfl
  obtain ⟨d1, d2, d3, d4⟩ := rw7 3 (774, 20, 1001, 0) (by decide) (by decide) rfl
  obtain ⟨g1, g2, g3, g4⟩ := rw7 4 (775, 20, 1001, 0) (by decide) (by decide) rfl
  obtain ⟨h1, h2, h3, h4⟩ := rw7 5 (777, 20, 6, 0) (by decide) (by decide) rfl
  obtain ⟨k1, k2, k3, k4⟩ := rw7 6 (778, 20, 1440, 0) (by decide) (by decide) rfl
  obtain ⟨l1, l2, l3, l4⟩ := rw7 7 (780, 20, 240, 0) (by decide) (by decide) rfl
  have T : ∀ b, b ≠ x → Eqv m22 (sR m22 785 x (x + 39)) b := fun b hb => eq_sRn hb
  have S1 : RSt (sR m22 785 x (x + 39)) (x + 8) Y0 := by
    have G : Fr (rg x (x + 1)) (mc m22) (mu m22) m17 m22 := by
      refine ⟨fun b hb hs => ?_, by rw [z17', z22]; exact Nat.le_of_lt (lt 39 70 (by decide)), Nat.le_add_left _ _, Nat.le_add_left _ _⟩
      have hne : b ≠ x := fun z => hs (by rw [z]; exact ⟨Nat.le_refl _, Nat.lt_succ_self _⟩)
      rw [z17'] at hb
      exact (v21 b hb hne).tr (u22 b hb)
    exact hS1.mv (G.sR ⟨Nat.le_refl _, Nat.lt_succ_self _⟩) (Or.inl (lt' 1 8 (by decide)))
  have S2 : RSt (sR m22 785 x (x + 39)) (x + 39) Y0 := hS2.mv ((Fr.rfl (k := 0) (u := 0) (S := rg x (x + 1))).sR ⟨Nat.le_refl _, Nat.lt_succ_self _⟩) (Or.inl (lt' 1 39 (by decide)))
  have R : ∀ f, f ≠ 785 → mR (sR m22 785 x (x + 39)) f x = mR m22 f x := fun f hf => zm_Rn hf
  have MF' : MdF (sR m22 785 x (x + 39)) x := ⟨rC, by show x + 70 ≤ mz m22; rw [z22]; exact Nat.le_refl _, ⟨(R 769 (by decide)).trans (a4 (by decide)), (R 773 (by decide)).trans (b4 (by decide)), (R 774 (by decide)).trans (d4 (by decide)), (R 775 (by decide)).trans (g4 (by decide)), (R 777 (by decide)).trans (h4 (by decide)), (R 778 (by decide)).trans (k4 (by decide)), (R 780 (by decide)).trans (l4 (by decide)), (R 784 (by decide)).trans r84, zm_Rs⟩, ⟨a1, b1, d1, g1, h1, k1, l1⟩, a2, b2, d2, g2, h2, k2, l2⟩
  exact ⟨rfl, rC, hQ _ ⟨MF', ⟨rI 770, Nat.zero_le _, fun i hi => absurd hi (Nat.not_lt_zero _)⟩, rI 771, fun i hi => ⟨h3 i hi, Nat.zero_le _, fun j q hq => absurd hq (by simp [bP, B0])⟩, S1, S2.1⟩ z22 (F22.sR (Nat.le_refl _))⟩
end ZCT
