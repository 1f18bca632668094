/-! the reference is fed -/
theorem byC_b (w : BitVec 32) (k : Nat) (hk : k ≤ 24) : (BitVec.signExtend 32 (BitVec.signExtend 8 (w >>> k))) &&& 255#32 = (w.sshiftRight k) &&& 255#32 := by
  apply BitVec.eq_of_getLsbD_eq
  intro i hi
  by_cases c : i < 8
  · rw [BitVec.getLsbD_and, BitVec.getLsbD_and, BitVec.getLsbD_signExtend, BitVec.getLsbD_signExtend, BitVec.getLsbD_ushiftRight, BitVec.getLsbD_sshiftRight, if_pos hi, if_pos (show k + i < 32 by omega)]
    simp [hi, c, show ¬ 32 ≤ i by omega]
  · have z : (255#32).getLsbD i = false := by
      have h8 : 8 ≤ i := by omega
      have hall : ∀ j : Fin 32, 8 ≤ j.1 → (255#32).getLsbD j.1 = false := by decide
      exact hall ⟨i, hi⟩ h8
    rw [BitVec.getLsbD_and, BitVec.getLsbD_and, z, Bool.and_false, Bool.and_false]
theorem byC_s (v s : Int) (hs : s = 24 ∨ s = 16 ∨ s = 8 ∨ s = 0) : byC v s = bAnd (bShr v s) 255 := by
  unfold byC bAnd bShr bI2b bUsh
  rw [Int32.ofInt_toInt, Int32.ofInt_toInt, Int32.ofInt_toInt]
  generalize Int32.ofInt v = u
  apply congrArg Int32.toInt
  apply Int32.toBitVec_inj.1
  rcases hs with c | c | c | c <;> subst c
  · exact byC_b u.toBitVec 24 (by omega)
  · exact byC_b u.toBitVec 16 (by omega)
  · exact byC_b u.toBitVec 8 (by omega)
  · exact byC_b u.toBitVec 0 (by omega)
def TP (m : zM) (x n : Nat) (t : Nat → Int) : Prop := (mC m x = 13 ∧ mR m 769 x = x + 1 ∧ mC m (x + 1) = 20 ∧ mN m (x + 1) = 1000) ∧ mI m 770 x = n ∧ ∀ i, i < n → mA m (x + 1) i = t i
abbrev FF (x : Nat) (m m' : zM) : Prop := MF x (fun f => f = 770) (fun a _ => a = x + 1) m m'
theorem FF.e {x a : Nat} {m m' : zM} (f : FF x m m') (h0 : a ≠ x) (h1 : a ≠ x + 1) : Eqv m m' a := ⟨fun k => f.1 k a (fun z => h0 z.1), fun k => by rw [f.2.1.1], fun j => f.2.2 a j h1, fun j => by rw [f.2.1.2.1], by rw [f.2.1.2.2.1], by rw [f.2.1.2.2.2.1]⟩
theorem FF.f {x : Nat} {m m' : zM} (f : FF x m m') : Fr (rg x (x + 2)) 0 0 m m' := ⟨fun a _ hs => f.e (fun z => hs (by unfold rg; omega)) (fun z => hs (by unfold rg; omega)), by rw [f.2.1.2.2.2.2.1]; exact Nat.le_refl _, by rw [f.2.1.2.2.2.2.2.1]; exact Nat.le_refl _, by rw [f.2.1.2.2.2.2.2.2]; exact Nat.le_refl _⟩
section ZMK
variable {xs : Nat → Int} {xl d : Nat} {m : zM} {Q : zRes → zM → Prop}
theorem M_f1 {x n i : Nat} {t : Nat → Int} {a b c e f v w : Int} {u : Nat} (h : TP m x n t) (hn : n < 1000) (hi : i ≤ 3) (hQ : ∀ m', TP m' x (n + 1) (up1 t n (byC v (8 * (i : Int)))) → FF x m m' → zW xs xl d cX12_feed 12 (some .int) false [] 80 [zR x, zI a, zI b, zI c, zI e, zI f, zR u, zR u, zI 5, zI w, zI v, zI ((i : Int) - 1)] [] m' Q) : zW xs xl d cX12_feed 12 (some .int) false [] 80 [zR x, zI a, zI b, zI c, zI e, zI f, zR u, zR u, zI 5, zI w, zI v, zI (i : Int)] [] m Q := by
  obtain ⟨⟨h1, h2, h3, h4⟩, h5, h6⟩ := id h
  have hb : byC v (8 * (i : Int)) = bAnd (bShr v (8 * (i : Int))) 255 := byC_s v _ (by omega)
  refine bX12_feed_80 ⟨fun z => absurd z (by omega), fun _ => ⟨h1, ?_⟩⟩
  rw [h2, h3, h4, h5, Int.toNat_natCast, wr_s (i := n) (by omega), wr_id (x := 8 * (i : Int)) (by omega) (by omega), wr_id (x := (i : Int) + (-1)) (by omega) (by omega), show (i : Int) + (-1) = (i : Int) - 1 by omega, ← hb]
  refine ⟨by omega, rfl, hQ _ ⟨⟨h1, h2, h3, h4⟩, if_pos ⟨rfl, rfl⟩, fun j hj => ?_⟩ (((MF.rfl : FF x m m).w (a := x + 1) (Eq.refl (x + 1))).s (f := 770) (Eq.refl 770))⟩
  show mA (sA m (x + 1) n (byC v (8 * (i : Int)))) (x + 1) j = _
  by_cases cj : j = n
  · subst cj
    rw [zm_As]; exact (if_pos rfl).symm
  · rw [zm_An cj, h6 j (by omega)]; exact (if_neg cj).symm
theorem M_f4 {x n w : Nat} {t : Nat → Int} {a b c e f v : Int} {u : Nat} (h : TP m x n t) (hn : n + 4 ≤ 1000) (hw : w < 5) (hQ : ∀ m' u2 u3, TP m' x (n + 4) (app4 t n v) → FF x m m' → zW xs xl d cX12_feed 12 (some .int) false [] 63 [zR x, zI a, zI b, zI c, zI e, zI f, zR u, zR u, zI 5, zI ((w + 1 : Nat) : Int), u2, u3] [] m' Q) : zW xs xl d cX12_feed 12 (some .int) false [] 80 [zR x, zI a, zI b, zI c, zI e, zI f, zR u, zR u, zI 5, zI (w : Int), zI v, zI 3] [] m Q := by
  refine M_f1 (i := 3) h (by omega) (by omega) (fun m1 g1 f1 => ?_)
  refine M_f1 (i := 2) g1 (by omega) (by omega) (fun m2 g2 f2 => ?_)
  refine M_f1 (i := 1) g2 (by omega) (by omega) (fun m3 g3 f3 => ?_)
  refine M_f1 (i := 0) g3 (by omega) (by omega) (fun m4 g4 f4 => ?_)
  refine bX12_feed_80 ⟨fun _ => ?_, fun z => absurd (by decide) z⟩
  rw [wr_s (i := w) (by omega)]
  exact hQ m4 _ _ g4 (((f1.tr f2).tr f3).tr f4)
theorem M_feed {x : Nat} {B : zB} {a b c e f : Int} (h : Md m x B) (hQ : eM m x 1 5 (aFeed B a b c e f).1 (aFeed B a b c e f).2 Q) : zC xs xl (d + 2) 164 [zR x, zI a, zI b, zI c, zI e, zI f] m Q := by
  have hN := h.2.1.1
  have hN1 := h.2.1.2.1
  have hz := h.1.2.1
  refine bX12_feed_0 ⟨h.1.1, ?_⟩
  rw [hN, wr_id (x := (bN B : Int) + 20) (by omega) (by omega)]
  refine ⟨fun c0 m2 e2 => ?_, fun c0 => ?_⟩
  · have ea : aFeed B a b c e f = ((0, ((bN B + 20 : Nat) : Int)), (B.1, B.2.1, bN B + 20, app20 (bT B) (bN B) a b c e f, bE B)) := if_neg (by omega)
    rw [ea] at hQ
    have h0 : Md (sI m 768 x 0) x B := h.th
    have f2 : Fr (rg 0 0) 1 5 (sI m 768 x 0) m2 := by rw [e2]; exact (Fr.rfl (k := 0) (u := 0)).nwA
    have kA : mC m2 (mz m) = 20 ∧ mN m2 (mz m) = 5 := by rw [e2]; exact ⟨if_pos rfl, if_pos rfl⟩
    have hM2 : Md m2 x B := h0.fr f2 (Or.inr (Nat.zero_le _))
    generalize hA : mz m = A at kA hz ⊢
    have hrA : rg A (A + 1) A := by unfold rg; omega
    have f3 : Fr (rg A (A + 1)) 0 0 m2 (sA (sA (sA (sA (sA m2 A 0 a) A 1 b) A 2 c) A 3 e) A 4 f) := ((((Fr.rfl.sA hrA).sA hrA).sA hrA).sA hrA).sA hrA
    have hM3 : Md (sA (sA (sA (sA (sA m2 A 0 a) A 1 b) A 2 c) A 3 e) A 4 f) x B := hM2.fr f3 (Or.inl hz)
    have v0 : mA (sA (sA (sA (sA (sA m2 A 0 a) A 1 b) A 2 c) A 3 e) A 4 f) A 0 = a := by simp [zget]
    have v1 : mA (sA (sA (sA (sA (sA m2 A 0 a) A 1 b) A 2 c) A 3 e) A 4 f) A 1 = b := by simp [zget]
    have v2 : mA (sA (sA (sA (sA (sA m2 A 0 a) A 1 b) A 2 c) A 3 e) A 4 f) A 2 = c := by simp [zget]
    have v3 : mA (sA (sA (sA (sA (sA m2 A 0 a) A 1 b) A 2 c) A 3 e) A 4 f) A 3 = e := by simp [zget]
    have v4 : mA (sA (sA (sA (sA (sA m2 A 0 a) A 1 b) A 2 c) A 3 e) A 4 f) A 4 = f := by simp [zget]
    have kA3 : mC (sA (sA (sA (sA (sA m2 A 0 a) A 1 b) A 2 c) A 3 e) A 4 f) A = 20 ∧ mN (sA (sA (sA (sA (sA m2 A 0 a) A 1 b) A 2 c) A 3 e) A 4 f) A = 5 := kA
    have hz3 : A < mz (sA (sA (sA (sA (sA m2 A 0 a) A 1 b) A 2 c) A 3 e) A 4 f) := by
      show A < mz m2
      rw [e2]; show A < mz m + 1; omega
    rw [kA.1, kA.2, show wr ((5 : Nat) : Int) = 5 from wr_id (by decide) (by decide)]
    refine ⟨by decide, rfl, by decide, by decide, by decide, by decide, by decide, ?_⟩
    have f20 : Fr (rg A (A + 1)) 1 5 (sI m 768 x 0) (sA (sA (sA (sA (sA m2 A 0 a) A 1 b) A 2 c) A 3 e) A 4 f) := (f2.sub (S' := rg A (A + 1)) (fun a q => absurd q.2 (Nat.not_lt_zero _))).tr f3 (Nat.le_refl _) (Nat.le_refl _)
    have F0 : Fr (rg x (x + 2)) 1 5 (sI m 768 x 0) (sA (sA (sA (sA (sA m2 A 0 a) A 1 b) A 2 c) A 3 e) A 4 f) := f20.mono (fun q hq z => by have hq' : q < mz m := hq; unfold rg at z; omega) (Nat.le_refl _) (Nat.le_refl _)
    generalize sA (sA (sA (sA (sA m2 A 0 a) A 1 b) A 2 c) A 3 e) A 4 f = M at f3 hM3 v0 v1 v2 v3 v4 kA3 hz3 F0 f20 ⊢
    have t0 : TP M x (bN B) (bT B) := ⟨⟨hM3.1.1, hM3.1.2.2.1.1, hM3.1.2.2.2.1.1, hM3.1.2.2.2.2.1⟩, hM3.2.1.1, hM3.2.1.2.2⟩
    have rd : ∀ M' j, FF x M M' → mA M' A j = mA M A j ∧ mC M' A = 20 ∧ mN M' A = 5 := fun M' j g => by
      have q := g.e (a := A) (by omega) (by omega)
      exact ⟨q.2.2.1 j, q.2.2.2.2.1.trans kA3.1, q.2.2.2.2.2.trans kA3.2⟩
    have st : ∀ (M' : zM) (w n : Nat) (t : Nat → Int) (v : Int) (u2 u3 : zV), w < 5 → n + 4 ≤ 1000 → TP M' x n t → FF x M M' → mA M A w = v → (∀ m' u2 u3, TP m' x (n + 4) (app4 t n v) → FF x M m' → zW xs xl (d + 1) cX12_feed 12 (some .int) false [] 63 [zR x, zI a, zI b, zI c, zI e, zI f, zR A, zR A, zI 5, zI ((w + 1 : Nat) : Int), u2, u3] [] m' Q) → zW xs xl (d + 1) cX12_feed 12 (some .int) false [] 63 [zR x, zI a, zI b, zI c, zI e, zI f, zR A, zR A, zI 5, zI (w : Int), u2, u3] [] M' Q := by
      intro M' w n t v u2 u3 hw hn ht hf hv hq
      obtain ⟨g1, g2, g3⟩ := rd M' w hf
      refine bX12_feed_63 ⟨fun z => absurd z (by omega), fun _ => ⟨g2, by rw [g3]; omega, ?_⟩⟩
      rw [Int.toNat_natCast, g1, hv]
      exact M_f4 ht hn hw (fun m' u2 u3 q1 q2 => hq m' u2 u3 q1 (hf.tr q2))
    refine st M 0 (bN B) (bT B) a zU zU (by decide) (by omega) t0 MF.rfl v0 (fun m4 u1 u2 g1 f4 => ?_)
    refine st m4 1 _ _ b u1 u2 (by decide) (by omega) g1 f4 v1 (fun m5 u1 u2 g2 f5 => ?_)
    refine st m5 2 _ _ c u1 u2 (by decide) (by omega) g2 f5 v2 (fun m6 u1 u2 g3 f6 => ?_)
    refine st m6 3 _ _ e u1 u2 (by decide) (by omega) g3 f6 v3 (fun m7 u1 u2 g4 f7 => ?_)
    refine st m7 4 _ _ f u1 u2 (by decide) (by omega) g4 f7 v4 (fun m8 u1 u2 g5 f8 => ?_)
    refine bX12_feed_63 ⟨fun _ => ⟨g5.1.1, ?_⟩, fun z => absurd (by decide) z⟩
    rw [g5.2.1]
    obtain ⟨h1, h2, h3, h4, h5, h6⟩ := hM3
    have fF := f8.f
    have F8 : Fr (rg x (x + 70)) 1 5 m m8 := fr_to thF (F0.tr fF (Nat.le_refl _) (Nat.le_refl _)) (Or.inr ⟨Nat.le_refl _, by omega⟩)
    have e7 : ∀ o, 2 ≤ o → Eqv M m8 (x + o) := fun o ho => f8.e (by omega) (by omega)
    have hMF : MdF m8 x := by
      unfold MdF
      rw [f8.2.1.1, f8.2.1.2.2.1, f8.2.1.2.2.2.1, f8.2.1.2.2.2.2.1]
      exact h1
    have hMd : Md m8 x (B.1, B.2.1, bN B + 20, app20 (bT B) (bN B) a b c e f, bE B) := ⟨hMF, ⟨g5.2.1, by show bN B + 20 ≤ 1000; omega, g5.2.2⟩, (f8.1 771 x (fun z => absurd z.2 (by decide))).trans h3, fun i hi => (h4 i hi).mv (e7 5 (by omega)) (e7 6 (by omega)), h5.mv fF (by omega), h6.fr fF (by omega)⟩
    have th8 : mI m8 768 x = 0 := by
      rw [f8.1 768 x (fun z => absurd z.2 (by decide)), (f20.1 x (by show x < mz m; omega) (fun z => by unfold rg at z; omega)).1 768]
      exact th0
    exact hQ m8 _ hMd th8 (fun _ => rfl) F8
  · have ea : aFeed B a b c e f = ((1, 0), B) := if_pos (by omega)
    rw [ea] at hQ
    refine M_no h.th (fun m' g1 g2 g3 => ⟨0, rfl, hQ m' 0 g1 g2 (fun z : (1 : Nat) = 0 => absurd z (by decide)) ((thF.tr0 g3).mono (fun _ _ z => z) (Nat.zero_le _) (Nat.zero_le _))⟩)
end ZMK
