theorem i32_and (a b : Int32) : (a &&& b).toBitVec = a.toBitVec &&& b.toBitVec := rfl
theorem bAnd_255 {a : Int} : 0 ≤ bAnd a 255 ∧ bAnd a 255 ≤ 255 := by
  unfold bAnd
  have e : (Int32.ofInt a &&& Int32.ofInt 255).toInt = ((Int32.ofInt a &&& Int32.ofInt 255).toBitVec).toInt := rfl
  rw [e, i32_and]
  have h2 : ((Int32.ofInt a).toBitVec &&& (Int32.ofInt 255).toBitVec).toNat ≤ 255 := by
    rw [BitVec.toNat_and]
    exact Nat.and_le_right
  rw [BitVec.toInt_eq_toNat_cond]
  split <;> omega
theorem bI2b_in {a : Int} : -128 ≤ bI2b a ∧ bI2b a ≤ 127 := by
  unfold bI2b
  rw [Int8.toInt_toInt32]
  exact ⟨Int8.le_toInt _, Int8.toInt_le _⟩
def byC (v s : Int) : Int := bAnd (bI2b (bUsh v s)) 255
def app4 (t : Nat → Int) (n : Nat) (v : Int) : Nat → Int := up1 (up1 (up1 (up1 t n (byC v 24)) (n + 1) (byC v 16)) (n + 2) (byC v 8)) (n + 3) (byC v 0)
def app20 (t : Nat → Int) (n : Nat) (a b c d e : Int) : Nat → Int := app4 (app4 (app4 (app4 (app4 t n a) (n + 4) b) (n + 8) c) (n + 12) d) (n + 16) e
def aFeed (B : zB) (a b c d e : Int) : (Nat × Int) × zB := if 980 < bN B then ((1, 0), B) else ((0, ((bN B + 20 : Nat) : Int)), (B.1, B.2.1, bN B + 20, app20 (bT B) (bN B) a b c d e, bE B))
def aCompile (B : zB) (p : Int) : (Nat × Int) × zB := if ¬ inF p 6 then ((1, 0), B) else if (formF (bT B) (bN B) (bN B + 1) 0 0 false).1 = false then ((0, 1), (B.1, B.2.1, 0, bT B, ((tkF (bT B) (bN B) (formF (bT B) (bN B) (bN B + 1) 0 0 false).2).2.2.1 : Nat)))
  else match goF (bT B) (bN B) with
    | .inl e => ((0, e.1), (B.1, B.2.1, 0, bT B, (e.2 : Nat)))
    | .inr l => ((0, 0), (B.1, up1 B.2.1 p.toNat l, 0, bT B, -1))
theorem Tp.push {m : zM} {a n : Nat} {t : Nat → Int} {b v : Int} (h : Tp m a n t) (hn : n < 1000) (e : v = ((n + 1 : Nat) : Int)) : Tp (sI (sA m (a + 1) n b) 513 a v) a (n + 1) (up1 t n (bAnd b 255)) := by
  obtain ⟨h1, h2, h3⟩ := h
  refine ⟨h1, ⟨zm_Is.trans e, by omega⟩, fun i hi => ?_⟩
  show bAnd (mA (sA m (a + 1) n b) (a + 1) i) 255 = up1 t n (bAnd b 255) i
  by_cases c : i = n
  · rw [c, zm_As]; exact (if_pos rfl).symm
  · rw [zm_An c, h3 i (by omega)]; exact (if_neg c).symm
section ZBG
variable {xs : Nat → Int} {xl d : Nat} {m : zM} {Q : zRes → zM → Prop}
theorem C_tpAppend {a n : Nat} {t : Nat → Int} {v : Int} (h : Tp m a n t) (hn : n + 4 ≤ 1000) (hQ : ∀ m', Tp m' a (n + 4) (app4 t n v) → Fr (rg a (a + 2)) 0 0 m m' → Q (.inl none) m') : zC xs xl (d + 1) 82 [zR a, zI v] m Q := by
  have hr : rg a (a + 2) a := by unfold rg; omega
  have hr1 : rg a (a + 2) (a + 1) := by unfold rg; omega
  have st : ∀ (k : Nat) (s s' : Int) (m1 : zM) (t1 : Nat → Int), Tp m1 a k t1 → k < 1000 → 0 ≤ s → wr (s + (-8)) = s' → Fr (rg a (a + 2)) 0 0 m m1 → (∀ m2, Tp m2 a (k + 1) (up1 t1 k (byC v s)) → Fr (rg a (a + 2)) 0 0 m m2 → zW xs xl d cX8_append 8 (none) false [] 3 [zR a, zI v, zI s'] [] m2 Q) → zW xs xl d cX8_append 8 (none) false [] 3 [zR a, zI v, zI s] [] m1 Q := by
    intro k s s' m1 t1 g hk hs es f hq
    obtain ⟨⟨g1, g2, g3, g4, g5⟩, ⟨g6, g7⟩, g8⟩ := id g
    have hb := bI2b_in (a := bUsh v s)
    refine bX8_append_3 ⟨fun z => absurd z (by omega), fun _ => ⟨g1, fun z => absurd z (by omega), fun _ => ?_⟩⟩
    rw [g6, g2, g3, g4, es, Int.toNat_natCast, wr_s (by omega)]
    exact ⟨by omega, Or.inr ⟨rfl, hb⟩, hq _ (g.push hk rfl) ((f.sA hr1).sI hr)⟩
  refine bX8_append_0 (st n 24 16 m t h (by omega) (by decide) (by decide) Fr.rfl (fun m2 g2 f2 => st (n + 1) 16 8 m2 _ g2 (by omega) (by decide) (by decide) f2 (fun m3 g3 f3 => st (n + 2) 8 0 m3 _ g3 (by omega) (by decide) (by decide) f3 (fun m4 g4 f4 => st (n + 3) 0 (-8) m4 _ g4 (by omega) (by decide) (by decide) f4 (fun m5 g5 f5 => bX8_append_3 ⟨fun _ => hQ m5 g5 f5, fun z => absurd (by decide) z⟩)))))
theorem Bd.tape {P x n' : Nat} {m m' : zM} {B : zB} {t' : Nat → Int} (h : Bd P m x B) (f : Fr (rg (x + 1) (x + 3)) 0 0 m m') (hT : Tp m' (x + 1) n' t') (ht : ∀ i, i < n' → 0 ≤ t' i) : Bd P m' x (B.1, B.2.1, n', t', bE B) := by
  obtain ⟨h1, h2, h3, h4, ⟨p, h5⟩, h6⟩ := h
  have hz := h1.2.2
  have hx := h1.2.1
  exact ⟨h1.mv f.2.1 (f.1 x (by omega) (fun z => by unfold rg at z; omega)), ⟨hT, ht⟩, h3.mv f (by omega), h4.mv (by omega) f (by omega) (by omega), ⟨p, h5.mv f (by omega) (by omega)⟩, h6.mv f (by omega) (by omega)⟩
theorem app4_in {t : Nat → Int} {n : Nat} {v : Int} (h : ∀ i, i < n → 0 ≤ t i) : ∀ i, i < n + 4 → 0 ≤ app4 t n v i := by
  intro i hi
  have hb : ∀ s, 0 ≤ byC v s := fun s => bAnd_255.1
  unfold app4 up1
  split
  · exact hb _
  · split
    · exact hb _
    · split
      · exact hb _
      · split
        · exact hb _
        · exact h i (by omega)
theorem C_bFeed {P x : Nat} {B : zB} {v1 v2 v3 v4 v5 : Int} (h : Bd P m x B) (hQ : ∀ m', Bd P m' x (aFeed B v1 v2 v3 v4 v5).2 → Fr (rg x (x + 392)) 1 6 m m' → Q (rsF 0 0 0 (aFeed B v1 v2 v3 v4 v5).1) m') : zC xs xl (d + 2) 103 [zR x, zI v1, zI v2, zI v3, zI v4, zI v5] m Q := by
  obtain ⟨h1, h2, h3, h4, ⟨p, h5⟩, h6⟩ := id h
  have hn := h2.1.2.1.2
  unfold aFeed at hQ
  refine bX10_feed_0 ⟨h1.1.1, ?_⟩
  rw [h1.1.2.1, h2.1.2.1.1]
  have e0 : wr ((bN B : Int) + 20) = (bN B : Int) + 20 := wr_id (by omega) (by omega)
  rw [e0]
  refine ⟨h2.1.1.1, fun c => ?_, fun c => ?_⟩
  · rw [if_neg (by omega)] at hQ
    refine C_tpAppend h2.1 (by omega) (fun m2 g2 f2 => ?_)
    have b2 := h.tape (f2.rg (by omega) (by omega)) g2 (app4_in h2.2)
    refine ⟨rfl, b2.1.1.1, ?_⟩
    rw [b2.1.1.2.1]
    refine ⟨g2.1.1, C_tpAppend g2 (by omega) (fun m3 g3 f3 => ?_)⟩
    have b3 := b2.tape (f3.rg (by omega) (by omega)) g3 (app4_in b2.2.1.2)
    refine ⟨rfl, b3.1.1.1, ?_⟩
    rw [b3.1.1.2.1]
    refine ⟨g3.1.1, C_tpAppend g3 (by omega) (fun m4 g4 f4 => ?_)⟩
    have b4 := b3.tape (f4.rg (by omega) (by omega)) g4 (app4_in b3.2.1.2)
    refine ⟨rfl, b4.1.1.1, ?_⟩
    rw [b4.1.1.2.1]
    refine ⟨g4.1.1, C_tpAppend g4 (by omega) (fun m5 g5 f5 => ?_)⟩
    have b5 := b4.tape (f5.rg (by omega) (by omega)) g5 (app4_in b4.2.1.2)
    refine ⟨rfl, b5.1.1.1, ?_⟩
    rw [b5.1.1.2.1]
    refine ⟨g5.1.1, C_tpAppend g5 (by omega) (fun m6 g6 f6 => ?_)⟩
    have b6 := b5.tape (f6.rg (by omega) (by omega)) g6 (app4_in b5.2.1.2)
    refine ⟨rfl, b6.1.1.1, ?_⟩
    rw [b6.1.1.2.1, g6.2.1.1]
    exact ⟨g6.1.1, hQ m6 b6 (fr_by ((((f2.tr0 f3).tr0 f4).tr0 f5).tr0 f6) (by omega) (by omega))⟩
  · rw [if_pos (by omega)] at hQ
    exact hQ _ h.x (fr_bx fr_nwX)
theorem C_bCompile {P x : Nat} {B : zB} {q : Int} (h : Bd P m x B) (hQ : ∀ m', Bd P m' x (aCompile B q).2 → Fr (rg x (x + 392)) 62 305 m m' → Q (rsF 2 0 0 (aCompile B q).1) m') : zC xs xl (d + 11) 105 [zR x, zI q] m Q := by
  obtain ⟨h1, h2, h3, h4, ⟨p, h5⟩, h6⟩ := id h
  have hz := h1.2.2
  have hx := h1.2.1
  have hn := h2.1.2.1.2
  unfold aCompile at hQ
  refine bX10_compile_0 (C_isBelow ⟨_, rfl, fun c => ?_, fun c => ?_⟩)
  · have c' : inF q 6 := Decidable.byContradiction (fun z => c (isb.mpr z))
    rw [if_neg (fun z => z c')] at hQ
    intro m3 e3
    have f3 : Fr (rg 0 0) 1 5 m m3 := by rw [e3]; exact (Fr.rfl (k := 0) (u := 0)).nwO
    have z3 : mz m3 = mz m + 1 := by rw [e3]; rfl
    have k3 : mC m3 (mz m) = 4 := by rw [e3]; exact if_pos rfl
    refine ⟨by omega, bX3_init_0 ⟨by omega, fun m2 e2 => ?_⟩⟩
    have f2 : Fr (rg 0 0) 1 60 m3 m2 := by rw [e2]; exact (Fr.rfl (k := 0) (u := 0)).nwA
    have z2 : mz m2 = mz m + 2 := by rw [e2]; show mz m3 + 1 = _; omega
    have k2 : mC m2 (mz m + 1) = 30 ∧ mN m2 (mz m + 1) = 60 := by rw [e2, ← z3]; exact ⟨if_pos rfl, if_pos rfl⟩
    have q2 := f2.1 (mz m) (by omega) (fun z => by unfold rg at z; omega)
    refine ⟨by rw [q2.2.2.2.2.1]; exact k3, ?_⟩
    rw [z3]
    have f4 : Fr (rg (mz m) (mz m + 1)) 0 0 m2 (sI (sI (sI (sI (sR m2 192 (mz m) (mz m + 1)) 193 (mz m) 0) 194 (mz m) 0) 195 (mz m) 0) 196 (mz m) 0) := by
      have hr : rg (mz m) (mz m + 1) (mz m) := by unfold rg; omega
      exact ((((Fr.rfl.sR hr).sI hr).sI hr).sI hr).sI hr
    have p4 : PlT P (sI (sI (sI (sI (sR m2 192 (mz m) (mz m + 1)) 193 (mz m) 0) 194 (mz m) 0) 195 (mz m) 0) 196 (mz m) 0) (mz m) [] := by
      have er : mR (sI (sI (sI (sI (sR m2 192 (mz m) (mz m + 1)) 193 (mz m) 0) 194 (mz m) 0) 195 (mz m) 0) 196 (mz m) 0) 192 (mz m) = mz m + 1 := by simp [zget]
      refine ⟨⟨⟨hz, ?_, by omega⟩, ?_, ?_, by simp [zget], by decide, fun i r hr => absurd hr (by simp)⟩, er, by simp [zget, cutsL], by simp [zget, lensL], by simp [zget, leastL]⟩
      · show mz m < mz m2; omega
      · rw [er]; exact ⟨by omega, by show mz m + 1 < mz m2; omega⟩
      · rw [er]; exact ⟨by show mC m2 (mz m) = 4; rw [q2.2.2.2.2.1]; exact k3, k2.1, k2.2⟩
    have z4 : mz (sI (sI (sI (sI (sR m2 192 (mz m) (mz m + 1)) 193 (mz m) 0) 194 (mz m) 0) 195 (mz m) 0) 196 (mz m) 0) = mz m + 2 := z2
    generalize sI (sI (sI (sI (sR m2 192 (mz m) (mz m + 1)) 193 (mz m) 0) 194 (mz m) 0) 195 (mz m) 0) 196 (mz m) 0 = m4 at f4 p4 z4 ⊢
    have fm4 : Fr (rg 0 0) 2 65 m m4 := ⟨fun b hb hs => ((f3.1 b hb hs).tr (f2.1 b (by omega) hs)).tr (f4.1 b (by omega) (fun z => by unfold rg at z; omega)), by omega, by have a1 := f3.2.2.1; have a2 := f2.2.2.1; have a3 := f4.2.2.1; omega, by have a1 := f3.2.2.2; have a2 := f2.2.2.2; have a3 := f4.2.2.2; omega⟩
    have b4 : Bd P m4 x B := h.fr fm4 (Nat.zero_le _) (Or.inl (Nat.zero_le _))
    obtain ⟨g1, g2, g3, g4, ⟨pp, g5⟩, g6⟩ := id b4
    obtain ⟨g31, sp, sk, sv, ss, g32⟩ := g3.1
    refine ⟨rfl, g1.1.1, ?_⟩
    rw [g1.1.2.2.1]
    -- what comes at the end, from any state in which the compiler alone has moved
    have fin : ∀ (m5 : zM) (e : Int), Fr (rg (x + 3) (x + 9)) 62 305 m m5 → CS m5 (x + 3) (x + 1) → mI m5 74 (x + 3) = e → Bd P (sI m5 513 (x + 1) 0) x (B.1, B.2.1, 0, bT B, e) ∧ Fr (rg x (x + 392)) 62 305 m (sI m5 513 (x + 1) 0) ∧ BdF P m5 x ∧ mC m5 (x + 1) = 9 ∧ mC m5 (x + 9) = 33 ∧ mN m5 (x + 9) = 6 := by
      intro m5 e f hcs he
      have t5 : BdT m5 x (bN B) (bT B) := h2.mv f (by omega)
      have l5 : BdP P m5 x (bP B) := h4.mv (by omega) f (by omega) (by omega)
      have b5 : Bd P m5 x (B.1, B.2.1, bN B, bT B, e) := ⟨h1.mv f.2.1 (f.1 x (by omega) (fun z => by unfold rg at z; omega)), t5, ⟨hcs, he⟩, l5, ⟨p, h5.mv f (by omega) (by omega)⟩, h6.mv f (by omega) (by omega)⟩
      have t6 : Tp (sI m5 513 (x + 1) 0) (x + 1) 0 (bT B) := ⟨t5.1.1, ⟨zm_Is, by omega⟩, fun i hi => absurd hi (by omega)⟩
      refine ⟨b5.tape (Fr.rfl.sI (by unfold rg; omega)) t6 (fun i hi => absurd hi (by omega)), (f.rg (by omega) (by omega)).sI (by unfold rg; omega), b5.1, t5.1.1.1, l5.1.1, l5.1.2⟩
    refine ⟨g31.1.1, C_formError g31 g32 g2.1 g2.2 (by omega) (fun eF m8 p8 k8 v8 s8 c8 s8' e8 f8 => ⟨_, rfl, fun z => absurd rfl z, fun _ => ?_⟩) (fun eF m8 p8 k8 v8 s8 c8 s8' e8 f8 => ⟨_, rfl, fun _ => ?_, fun z => absurd (by decide) z⟩)⟩
    · rw [if_neg (by rw [eF]; decide)] at hQ
      obtain ⟨e0, be, b46, -⟩ := formF_blk (bN B + 1) (bN B + 1) 0 0 false (Nat.le_refl _) (Prod.ext eF rfl : formF (bT B) (bN B) (bN B + 1) 0 0 false = (true, _))
      have e80 := f8.1 x (by omega) (fun z => by unfold rg at z; omega)
      have f18 := g1.mv f8.2.1 e80
      have t8 := g2.mv f8 (by omega)
      refine ⟨f18.1.1, ?_⟩
      rw [f18.1.2.2.1]
      have fm8 : Fr (rg (x + 3) (x + 9)) 2 65 m m8 := (fm4.sub (fun a z => by unfold rg at z; omega)).tr (f8.rg (by omega) (by omega)) (by omega) (by omega)
      have p8' : PlT P m8 (mz m) [] := p4.mv f8 (by omega)
      have fall : ∀ m12, Fr (cRg (x + 3) (mz m)) 60 240 m8 m12 → Fr (rg (x + 3) (x + 9)) 62 305 m m12 := by
        intro m12 f12
        have zz := f8.2.1
        exact ⟨fun b hb hs => (fm8.1 b hb hs).tr (f12.1 b (by omega) (fun z => by rcases z with z | z; exact hs z; unfold rg at z; omega)), by have := f12.2.1; omega, by have a1 := fm8.2.2.1; have a2 := f12.2.2.1; omega, by have a1 := fm8.2.2.2; have a2 := f12.2.2.2; omega⟩
      refine ⟨c8.1.1, C_goThrough c8 s8' t8.1 t8.2 (by omega) (by omega) (by omega) p8' e8 be (b46 rfl) (fun e pl m12 eg ne cs7 e7 f12 => ⟨_, rfl, ?_⟩) (fun l m12 eg cs7 e7 p7 f12 => ⟨_, rfl, ?_⟩)⟩
      · rw [eg] at hQ
        obtain ⟨y1, y2, y3, y4, y5, y6⟩ := fin m12 _ (fall m12 f12) cs7 e7
        refine bX10_compile_48 ⟨fun _ => ⟨y3.1.1, ?_⟩, fun z => absurd ne z⟩
        rw [y3.1.2.1]
        exact ⟨y4, hQ _ y1 y2⟩
      · rw [eg] at hQ
        obtain ⟨y1, y2, y3, y4, y5, y6⟩ := fin m12 _ (fall m12 f12) cs7 e7
        refine bX10_compile_48 ⟨fun z => absurd rfl z, fun _ => ⟨y3.1.1, ?_⟩⟩
        rw [y3.1.2.2.2.1, y3.1.2.1, y5, y6, p7.1.2.2.1.1]
        refine ⟨by omega, by decide, rfl, y4, ?_⟩
        have hrow : Bd P (sI (sO m12 (x + 9) q.toNat (mz m)) 513 (x + 1) 0) x (B.1, up1 B.2.1 q.toNat l, 0, bT B, -1) := by
          obtain ⟨w1, w2, w3, w4, ⟨w5p, w5⟩, w6⟩ := y1
          have fo : Fr (rg (x + 9) (x + 10)) 0 0 (sI m12 513 (x + 1) 0) (sI (sO m12 (x + 9) q.toNat (mz m)) 513 (x + 1) 0) := by
            have : sI (sO m12 (x + 9) q.toNat (mz m)) 513 (x + 1) 0 = sO (sI m12 513 (x + 1) 0) (x + 9) q.toNat (mz m) := rfl
            rw [this]
            exact Fr.rfl.sO (by unfold rg; omega)
          have wz := w1.2.2
          refine ⟨w1.mv fo.2.1 (fo.1 x (by omega) (fun z => by unfold rg at z; omega)), w2.mv fo (by omega), w3.mv fo (by omega), ⟨w4.1, fun i hi => ?_⟩, ⟨w5p, w5.mv fo (by omega) (by omega)⟩, w6.mv fo (by omega) (by omega)⟩
          show PlR P (x + 392) (x + 404) _ (if x + 9 = x + 9 ∧ i = q.toNat then mz m else mO m12 (x + 9) i) (if i = q.toNat then l else B.2.1 i)
          by_cases ci : i = q.toNat
          · rw [if_pos ⟨rfl, ci⟩, if_pos ci]
            have p9 : PlT P (sI (sO m12 (x + 9) q.toNat (mz m)) 513 (x + 1) 0) (mz m) l := p7.mv (((Fr.rfl (S := rg x (x + 10)) (k := 0) (u := 0)).sO (by unfold rg; omega)).sI (by unfold rg; omega)) (by omega)
            exact ⟨⟨p9.1.2.2.1.1, p9.1.2.2.2.1, p9.2.2.1, p9.2.2.2.1, p9.2.2.2.2⟩, Or.inl p9⟩
          · rw [if_neg (fun z => ci z.2), if_neg ci]
            exact (w4.2 i hi).mv fo (by omega) (by omega)
        exact hQ _ hrow (((fall m12 f12).rg (by omega) (by omega)).sO (by unfold rg; omega) |>.sI (by unfold rg; omega))
    · rw [if_pos eF] at hQ
      have fm8 : Fr (rg (x + 3) (x + 9)) 62 305 m m8 := (fm4.sub (fun a z => by unfold rg at z; omega)).tr (f8.rg (by omega) (by omega)) (by omega) (by omega)
      obtain ⟨y1, y2, y3, y4, y5, y6⟩ := fin m8 _ fm8 ⟨c8, _, _, _, _, s8'⟩ e8
      refine bX10_compile_48 ⟨fun _ => ⟨y3.1.1, ?_⟩, fun z => absurd (by decide) z⟩
      rw [y3.1.2.1]
      exact ⟨y4, hQ _ y1 y2⟩
  · rw [if_pos (isb.mp (Decidable.not_not.mp c))] at hQ
    exact hQ _ h.x ((fr_bx fr_nwX).mono (fun _ _ z => z) (by omega) (by omega))
end ZBG
