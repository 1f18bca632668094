/-! what the reference's state tells -/
section ZRL
variable {xs : Nat → Int} {xl d : Nat} {m : zM} {Q : zRes → zM → Prop}
theorem R_slip3 {b s A k : Nat} {Y : zY} {a3 : zV} (h : RSt m b Y) (hs : s < 6) (hk : k < 15) (hA : b + 31 ≤ A) (kA : mC m A = 20 ∧ mN m A = 15) (hv : ∀ j, j < 11 → mA m A j = yX Y s j) (hQ : ∀ m', Fr (rg A (A + 1)) 0 0 m m' → Q (.inl (some (zI (yX Y s k)))) m') : zW xs xl d cX11_slip 11 (some .int) false [] 141 [zR b, zI (s : Int), zI (k : Int), a3] [zI (yX Y s 11), zI 11, zR A, zR A] m Q := by
  have hx := h.2.2.2.2.1 s hs
  obtain ⟨a1, a2, a3'⟩ := h.1.at (by decide : (725, 19, 20, 6) ∈ rTab)
  obtain ⟨b1, b2, b3⟩ := h.1.at (by decide : (723, 17, 20, 6) ∈ rTab)
  obtain ⟨c1, c2, c3⟩ := h.1.at (by decide : (724, 18, 20, 6) ∈ rTab)
  have v12 : mA m (b + 19) s = yX Y s 12 := hx.1 12 (by omega)
  have v13 : mA m (b + 17) s = yX Y s 13 := hx.1 13 (by omega)
  have v14 : mA m (b + 18) s = yX Y s 14 := hx.1 14 (by omega)
  have hne : ∀ o, o < 31 → b + o ≠ A := fun o ho => by omega
  have eA : ∀ (M : zM) (o j : Nat) (v : Int), o < 31 → mA (sA M A j v) (b + o) s = mA M (b + o) s := fun M o j v ho => (Eqv.nA (hne o ho)).2.2.1 s
  refine bX11_slip_141 ?_
  rw [a1, a2, a3', b1, b2, b3, c1, c2, c3, kA.1, kA.2, Int.toNat_natCast, Int.toNat_natCast, show Int.toNat 11 = 11 from rfl]
  simp only [eA _ 19 _ _ (by omega), eA _ 17 _ _ (by omega), eA _ 18 _ _ (by omega), v12, v13, v14]
  have hrA : rg A (A + 1) A := by unfold rg; omega
  have f : Fr (rg A (A + 1)) 0 0 m (sA (sA (sA (sA m A 11 (yX Y s 11)) A 12 (yX Y s 12)) A 13 (yX Y s 13)) A 14 (yX Y s 14)) := (((Fr.rfl.sA hrA).sA hrA).sA hrA).sA hrA
  have hval : mA (sA (sA (sA (sA m A 11 (yX Y s 11)) A 12 (yX Y s 12)) A 13 (yX Y s 13)) A 14 (yX Y s 14)) A k = yX Y s k := by
    by_cases c : k < 11
    · rw [zm_An (by omega), zm_An (by omega), zm_An (by omega), zm_An (by omega)]; exact hv k c
    · have hk4 : k = 11 ∨ k = 12 ∨ k = 13 ∨ k = 14 := by omega
      rcases hk4 with c | c | c | c <;> subst c <;> simp [zget]
  rw [hval]
  exact ⟨by decide, trivial, h.1.1, trivial, by omega, by decide, trivial, trivial, by omega, by decide, trivial, by omega, by decide, by omega, hQ _ f⟩
theorem R_slip2 {b s A k : Nat} {Y : zY} {a3 : zV} (h : RSt m b Y) (hs : s < 6) (hf : flagOk (yX Y s)) (hk : k < 15) (hA : b + 31 ≤ A) (kA : mC m A = 20 ∧ mN m A = 15) (hv : ∀ j, j < 5 → mA m A j = yX Y s j) (hQ : ∀ m', Fr (rg A (A + 1)) 0 0 m m' → Q (.inl (some (zI (yX Y s k)))) m') : zW xs xl d cX11_slip 11 (some .int) false [] 73 [zR b, zI (s : Int), zI (k : Int), a3] [zI (yX Y s 5), zI 5, zR A, zR A] m Q := by
  have hx := h.2.2.2.2.1 s hs
  obtain ⟨a1, a2, a3'⟩ := h.1.at (by decide : (731, 25, 20, 6) ∈ rTab)
  obtain ⟨b1, b2, b3⟩ := h.1.at (by decide : (732, 26, 20, 6) ∈ rTab)
  obtain ⟨c1, c2, c3⟩ := h.1.at (by decide : (733, 27, 20, 6) ∈ rTab)
  obtain ⟨d1, d2, d3⟩ := h.1.at (by decide : (726, 20, 20, 6) ∈ rTab)
  obtain ⟨e1, e2, e3⟩ := h.1.at (by decide : (727, 21, 20, 6) ∈ rTab)
  obtain ⟨f1, f2, f3⟩ := h.1.at (by decide : (728, 22, 21, 6) ∈ rTab)
  have v6 : mA m (b + 25) s = yX Y s 6 := hx.1 6 (by omega)
  have v7 : mA m (b + 26) s = yX Y s 7 := hx.1 7 (by omega)
  have v8 : mA m (b + 27) s = yX Y s 8 := hx.1 8 (by omega)
  have v9 : mA m (b + 20) s = yX Y s 9 := hx.1 9 (by omega)
  have v10 : mA m (b + 21) s = yX Y s 10 := hx.1 10 (by omega)
  have v11 : mA m (b + 22) s = yX Y s 11 := hx.1 11 (by omega)
  have hne : ∀ o, o < 31 → b + o ≠ A := fun o ho => by omega
  have eA : ∀ (M : zM) (o j : Nat) (v : Int), o < 31 → mA (sA M A j v) (b + o) s = mA M (b + o) s := fun M o j v ho => (Eqv.nA (hne o ho)).2.2.1 s
  refine bX11_slip_73 ?_
  rw [a1, a2, a3', b1, b2, b3, c1, c2, c3, d1, d2, d3, e1, e2, e3, f1, f2, f3, kA.1, kA.2, Int.toNat_natCast, show Int.toNat 5 = 5 from rfl]
  simp only [eA _ 25 _ _ (by omega), eA _ 26 _ _ (by omega), eA _ 27 _ _ (by omega), eA _ 20 _ _ (by omega), eA _ 21 _ _ (by omega), eA _ 22 _ _ (by omega), v6, v7, v8, v9, v10, v11]
  have hrA : rg A (A + 1) A := by unfold rg; omega
  have f : Fr (rg A (A + 1)) 0 0 m (sA (sA (sA (sA (sA (sA m A 5 (yX Y s 5)) A 6 (yX Y s 6)) A 7 (yX Y s 7)) A 8 (yX Y s 8)) A 9 (yX Y s 9)) A 10 (yX Y s 10)) := (((((Fr.rfl.sA hrA).sA hrA).sA hrA).sA hrA).sA hrA).sA hrA
  have hw : ∀ j, j < 11 → mA (sA (sA (sA (sA (sA (sA m A 5 (yX Y s 5)) A 6 (yX Y s 6)) A 7 (yX Y s 7)) A 8 (yX Y s 8)) A 9 (yX Y s 9)) A 10 (yX Y s 10)) A j = yX Y s j := by
    intro j hj
    by_cases c : j < 5
    · rw [zm_An (by omega), zm_An (by omega), zm_An (by omega), zm_An (by omega), zm_An (by omega), zm_An (by omega)]; exact hv j c
    · have hk4 : j = 5 ∨ j = 6 ∨ j = 7 ∨ j = 8 ∨ j = 9 ∨ j = 10 := by omega
      rcases hk4 with c | c | c | c | c | c <;> subst c <;> simp [zget]
  have fin := R_slip3 (xs := xs) (xl := xl) (d := d) (Q := Q) (a3 := a3) (k := k) (h.mv f (by omega)) hs hk hA kA hw (fun m' g => hQ m' (f.tr0 g))
  refine ⟨by decide, trivial, h.1.1, trivial, by omega, by decide, trivial, trivial, by omega, by decide, trivial, by omega, by decide, trivial, by omega, by decide, trivial, by omega, by decide, Or.inl trivial, by omega, fun c => ?_, fun c => ?_⟩
  · rwa [c] at fin
  · rwa [show yX Y s 11 = 1 by have := hf.2.2; omega] at fin
theorem R_slip {b s k : Nat} {Y : zY} (h : RSt m b Y) (hs : s < 6) (hf : flagOk (yX Y s)) (hk : k < 15) (hQ : ∀ m', Fr (rg 0 0) 1 15 m m' → Q (.inl (some (zI (yX Y s k)))) m') : zC xs xl (d + 1) 158 [zR b, zI (s : Int), zI (k : Int)] m Q := by
  have hz := h.1.2.1
  refine bX11_slip_0 (fun m1 e1 => ?_)
  have f1 : Fr (rg 0 0) 1 15 m m1 := by rw [e1]; exact (Fr.rfl (k := 0) (u := 0)).nwA
  have r1 : RSt m1 b Y := h.mv f1 (by omega)
  have kA : mC m1 (mz m) = 20 ∧ mN m1 (mz m) = 15 := by rw [e1]; exact ⟨if_pos rfl, if_pos rfl⟩
  have hx := r1.2.2.2.2.1 s hs
  obtain ⟨g1, g2, g3⟩ := r1.1.at (by decide : (714, 8, 21, 6) ∈ rTab)
  obtain ⟨a1, a2, a3'⟩ := r1.1.at (by decide : (713, 7, 20, 6) ∈ rTab)
  obtain ⟨b1, b2, b3⟩ := r1.1.at (by decide : (718, 12, 20, 6) ∈ rTab)
  obtain ⟨c1, c2, c3⟩ := r1.1.at (by decide : (721, 15, 20, 6) ∈ rTab)
  obtain ⟨d1, d2, d3⟩ := r1.1.at (by decide : (722, 16, 20, 6) ∈ rTab)
  obtain ⟨i1, i2, i3⟩ := r1.1.at (by decide : (729, 23, 21, 6) ∈ rTab)
  have v0 : mA m1 (b + 8) s = yX Y s 0 := hx.1 0 (by omega)
  have v1 : mA m1 (b + 7) s = yX Y s 1 := hx.1 1 (by omega)
  have v2 : mA m1 (b + 12) s = yX Y s 2 := hx.1 2 (by omega)
  have v3 : mA m1 (b + 15) s = yX Y s 3 := hx.1 3 (by omega)
  have v4 : mA m1 (b + 16) s = yX Y s 4 := hx.1 4 (by omega)
  have v5 : mA m1 (b + 23) s = yX Y s 5 := hx.1 5 (by omega)
  generalize hA : mz m = A at kA hz ⊢
  have hne : ∀ o, o < 31 → b + o ≠ A := fun o ho => by omega
  have eA : ∀ (M : zM) (o j : Nat) (v : Int), o < 31 → mA (sA M A j v) (b + o) s = mA M (b + o) s := fun M o j v ho => (Eqv.nA (hne o ho)).2.2.1 s
  have st2 : zW xs xl d cX11_slip 11 (some .int) false [] 20 [zR b, zI (s : Int), zI (k : Int), zU] [zI (yX Y s 0), zI 0, zR A, zR A] m1 Q := by
    refine bX11_slip_20 ?_
    rw [a1, a2, a3', b1, b2, b3, c1, c2, c3, d1, d2, d3, i1, i2, i3, kA.1, kA.2, Int.toNat_natCast, show Int.toNat 0 = 0 from rfl]
    simp only [eA _ 7 _ _ (by omega), eA _ 12 _ _ (by omega), eA _ 15 _ _ (by omega), eA _ 16 _ _ (by omega), eA _ 23 _ _ (by omega), v1, v2, v3, v4, v5]
    have hrA : rg A (A + 1) A := by unfold rg; omega
    have f : Fr (rg A (A + 1)) 0 0 m1 (sA (sA (sA (sA (sA m1 A 0 (yX Y s 0)) A 1 (yX Y s 1)) A 2 (yX Y s 2)) A 3 (yX Y s 3)) A 4 (yX Y s 4)) := ((((Fr.rfl.sA hrA).sA hrA).sA hrA).sA hrA).sA hrA
    have hw : ∀ j, j < 5 → mA (sA (sA (sA (sA (sA m1 A 0 (yX Y s 0)) A 1 (yX Y s 1)) A 2 (yX Y s 2)) A 3 (yX Y s 3)) A 4 (yX Y s 4)) A j = yX Y s j := by
      intro j hj
      have hk4 : j = 0 ∨ j = 1 ∨ j = 2 ∨ j = 3 ∨ j = 4 := by omega
      rcases hk4 with c | c | c | c | c <;> subst c <;> simp [zget]
    have fin := R_slip2 (xs := xs) (xl := xl) (d := d) (Q := Q) (a3 := zU) (k := k) (r1.mv f (by omega)) hs hf hk hz kA hw (fun m' g => hQ m' (((f1.sub (S' := rg A (A + 1)) (fun a q => absurd q.2 (Nat.not_lt_zero _))).tr (f.tr0 g) (Nat.le_refl _) (Nat.le_refl _)).mono (fun a ha z => by unfold rg at z; omega) (Nat.le_refl _) (Nat.le_refl _)))
    refine ⟨by decide, trivial, r1.1.1, trivial, by omega, by decide, trivial, trivial, by omega, by decide, trivial, by omega, by decide, trivial, by omega, by decide, Or.inl trivial, by omega, fun c => ?_, fun c => ?_⟩
    · rwa [c] at fin
    · rwa [show yX Y s 5 = 1 by have := hf.2.1; omega] at fin
  rw [g1, g2, g3, Int.toNat_natCast, v0]
  refine ⟨r1.1.1, Or.inl rfl, by omega, fun c => ?_, fun c => ?_⟩
  · rwa [c] at st2
  · rwa [show yX Y s 0 = 1 by have := hf.1; omega] at st2
end ZRL
theorem waitR_f {x : Nat → Nat → Int} {so : Int} (h : so ≠ -1) : ∀ n, waitR x so n = wtF x so n
  | 0 => rfl
  | n + 1 => by
    show wr (waitR x so n + _) = wr (wtF x so n + _)
    rw [waitR_f h n, if_neg h]
    by_cases c : x n 9 = -1
    · rw [if_pos c, if_neg (fun z => h (by omega))]
    · rw [if_neg c]
theorem waitR_in {x : Nat → Nat → Int} {so : Int} : ∀ n, n ≤ 6 → 0 ≤ waitR x so n ∧ waitR x so n ≤ n
  | 0, _ => ⟨Int.le_refl _, Int.le_refl _⟩
  | n + 1, hn => by
    have g := waitR_in (x := x) (so := so) n (by omega)
    show 0 ≤ wr (waitR x so n + _) ∧ wr (waitR x so n + _) ≤ _
    have e : (0 : Int) ≤ (if x n 9 = -1 then (0 : Int) else if so = -1 then 1 else if x n 9 = so then 1 else 0) ∧ (if x n 9 = -1 then (0 : Int) else if so = -1 then 1 else if x n 9 = so then 1 else 0) ≤ 1 := by
      split
      · omega
      · split
        · omega
        · split <;> omega
    generalize (if x n 9 = -1 then (0 : Int) else if so = -1 then 1 else if x n 9 = so then 1 else 0) = t at e ⊢
    rw [wr_id (by omega) (by omega)]
    omega
theorem waitR_a {x : Nat → Nat → Int} : ∀ n, n ≤ 6 → (∀ i, i < n → -1 ≤ x i 9 ∧ x i 9 ≤ 4) → waitR x (-1) n = wtA x n 5 := by
  have w5 : ∀ n, n ≤ 6 → wtA x n 5 = wtF x 0 n + wtF x 1 n + wtF x 2 n + wtF x 3 n + wtF x 4 n ∧ ∀ j : Int, j ≠ -1 → 0 ≤ wtF x j n ∧ wtF x j n ≤ n := by
    intro n hn
    have g : ∀ j : Int, j ≠ -1 → 0 ≤ wtF x j n ∧ wtF x j n ≤ n := fun j hj => by rw [← waitR_f hj]; exact waitR_in n hn
    refine ⟨?_, g⟩
    show wr (wr (wr (wr (wr (0 + wtF x 0 n) + wtF x 1 n) + wtF x 2 n) + wtF x 3 n) + wtF x 4 n) = _
    have g0 := g 0 (by decide)
    have g1 := g 1 (by decide)
    have g2 := g 2 (by decide)
    have g3 := g 3 (by decide)
    have g4 := g 4 (by decide)
    generalize wtF x 0 n = a0 at g0 ⊢
    generalize wtF x 1 n = a1 at g1 ⊢
    generalize wtF x 2 n = a2 at g2 ⊢
    generalize wtF x 3 n = a3 at g3 ⊢
    generalize wtF x 4 n = a4 at g4 ⊢
    clear g
    rw [wr_id (x := 0 + a0) (by omega) (by omega), wr_id (x := 0 + a0 + a1) (by omega) (by omega), wr_id (x := 0 + a0 + a1 + a2) (by omega) (by omega), wr_id (x := 0 + a0 + a1 + a2 + a3) (by omega) (by omega), wr_id (by omega) (by omega)]
    omega
  intro n
  induction n with
  | zero => intro _ _; rfl
  | succ n ih =>
    intro hn hx
    have e1 := ih (by omega) (fun i hi => hx i (by omega))
    have hx9 := hx n (by omega)
    have gb := waitR_in (x := x) (so := -1) n (by omega)
    rw [(w5 n (by omega)).1] at e1
    rw [(w5 (n + 1) hn).1]
    have gs : ∀ j : Int, j ≠ -1 → wtF x j (n + 1) = wtF x j n + (if x n 9 = j then 1 else 0) := by
      intro j hj
      have g := (w5 n (by omega)).2 j hj
      show wr (wtF x j n + _) = _
      have e : (0 : Int) ≤ (if x n 9 = j then (1 : Int) else 0) ∧ (if x n 9 = j then (1 : Int) else 0) ≤ 1 := by split <;> omega
      generalize (if x n 9 = j then (1 : Int) else 0) = t at e ⊢
      exact wr_id (by omega) (by omega)
    rw [gs 0 (by decide), gs 1 (by decide), gs 2 (by decide), gs 3 (by decide), gs 4 (by decide)]
    show wr (waitR x (-1) n + _) = _
    have et : (if x n 9 = -1 then (0 : Int) else if (-1 : Int) = -1 then 1 else if x n 9 = -1 then 1 else 0) = (if x n 9 = 0 then 1 else 0) + (if x n 9 = 1 then 1 else 0) + (if x n 9 = 2 then 1 else 0) + (if x n 9 = 3 then 1 else 0) + (if x n 9 = 4 then 1 else 0) := by
      have h6 : x n 9 = -1 ∨ x n 9 = 0 ∨ x n 9 = 1 ∨ x n 9 = 2 ∨ x n 9 = 3 ∨ x n 9 = 4 := by omega
      rcases h6 with c | c | c | c | c | c <;> rw [c] <;> decide
    have e2 : (0 : Int) ≤ (if x n 9 = -1 then (0 : Int) else if (-1 : Int) = -1 then 1 else if x n 9 = -1 then 1 else 0) ∧ (if x n 9 = -1 then (0 : Int) else if (-1 : Int) = -1 then 1 else if x n 9 = -1 then 1 else 0) ≤ 1 := by
      split
      · omega
      · split
        · omega
        · decide
    rw [wr_id (by omega) (by omega), et, e1]
    clear et e2 gs e1 gb hx9
    omega
section ZRM
variable {xs : Nat → Int} {xl d : Nat} {m : zM} {Q : zRes → zM → Prop}
theorem R_counted {b k : Nat} {Y : zY} (h : RSt m b Y) (hy : yOk Y) (hk : k < 9) (hQ : ∀ m', Fr (rg 0 0) 1 9 m m' → Q (.inl (some (zI (ctT Y k)))) m') : zC xs xl (d + 2) 159 [zR b, zI (k : Int)] m Q := by
  have hz := h.1.2.1
  have hS := h.2.1.2.2.1
  have hN := h.2.1.2.1
  have hs6 := h.2.1.2.2.2.2.2.2.2
  have hn60 := h.2.1.2.2.2.2.2.2.1
  obtain ⟨g1, g2, g3⟩ := h.1.at (by decide : (714, 8, 21, 6) ∈ rTab)
  obtain ⟨a1, a2, a3⟩ := h.1.at (by decide : (707, 2, 20, 60) ∈ rTab)
  have lp2 : ∀ (r i : Nat), i + r = yN Y → zW xs xl (d + 1) cX11_counted 11 (some .int) false [] 43 [zR b, zI (k : Int), zI (cntB (yX Y) (yS Y)), zI (sumL (yY Y) i), zI (i : Int)] [] m Q := by
    intro r
    induction r with
    | zero =>
      intro i e
      have ei : i = yN Y := by omega
      subst ei
      refine bX11_counted_43 ⟨h.1.1, fun _ m2 e2 => ?_, fun z => absurd (by rw [hN]; exact Int.le_refl _) z⟩
      have f2 : Fr (rg 0 0) 1 9 m m2 := by rw [e2]; exact (Fr.rfl (k := 0) (u := 0)).nwA
      have r2 : RSt m2 b Y := h.mv f2 (by omega)
      have kA : mC m2 (mz m) = 20 ∧ mN m2 (mz m) = 9 := by rw [e2]; exact ⟨if_pos rfl, if_pos rfl⟩
      have q2 := r2.2.1
      generalize hA : mz m = A at kA hz ⊢
      have hrA : rg A (A + 1) A := by unfold rg; omega
      rw [kA.1, kA.2, q2.1, q2.2.1, q2.2.2.1]
      refine ⟨r2.1.1, by decide, rfl, by decide, by decide, by decide, ?_⟩
      have f3 : Fr (rg A (A + 1)) 0 0 m2 (sA (sA (sA (sA m2 A 0 (yG Y 0)) A 1 (yN Y : Int)) A 2 (yS Y : Int)) A 3 (cntB (yX Y) (yS Y))) := (((Fr.rfl.sA hrA).sA hrA).sA hrA).sA hrA
      have r3 := r2.mv f3 (by omega)
      have q3 := r3.2.1
      refine R_waiting r3 ⟨_, rfl, ?_⟩
      generalize hM : sA (sA (sA (sA m2 A 0 (yG Y 0)) A 1 (yN Y : Int)) A 2 (yS Y : Int)) A 3 (cntB (yX Y) (yS Y)) = M at f3 r3 q3
      have kM : mC M A = 20 ∧ mN M A = 9 := by rw [← hM]; exact kA
      rw [kM.1, kM.2, q3.2.2.2.1, q3.2.2.2.2.1, q3.2.2.2.2.2.1, Int.toNat_natCast, waitR_a _ hs6 (fun i hi => by have := (hy.2.1.2.1 i (by omega)).2.2.2.2.2.1; exact this)]
      refine ⟨by decide, rfl, r3.1.1, by decide, by decide, by decide, by decide, by omega, ?_⟩
      have hval : mA (sA (sA (sA (sA (sA M A 4 (wtA (yX Y) (yS Y) 5)) A 5 (yG Y 1)) A 6 (yG Y 2)) A 7 (yG Y 3)) A 8 (sumL (yY Y) (yN Y))) A k = ctT Y k := by
        rw [← hM]
        have hk9 : k = 0 ∨ k = 1 ∨ k = 2 ∨ k = 3 ∨ k = 4 ∨ k = 5 ∨ k = 6 ∨ k = 7 ∨ k = 8 := by omega
        rcases hk9 with c | c | c | c | c | c | c | c | c <;> subst c <;> simp [zget, ctT]
      rw [hval]
      have f4 : Fr (rg A (A + 1)) 0 0 M (sA (sA (sA (sA (sA M A 4 (wtA (yX Y) (yS Y) 5)) A 5 (yG Y 1)) A 6 (yG Y 2)) A 7 (yG Y 3)) A 8 (sumL (yY Y) (yN Y))) := ((((Fr.rfl.sA hrA).sA hrA).sA hrA).sA hrA).sA hrA
      exact hQ _ (((f2.sub (S' := rg A (A + 1)) (fun a q => absurd q.2 (Nat.not_lt_zero _))).tr (f3.tr0 f4) (Nat.le_refl _) (Nat.le_refl _)).mono (fun a ha z => by unfold rg at z; omega) (Nat.le_refl _) (Nat.le_refl _))
    | succ r ih =>
      intro i e
      have e2 : mA m (b + 2) i = (yY Y i).2.1 := (h.2.2.1 i (by omega)).1.2.1
      refine bX11_counted_43 ⟨h.1.1, fun z => absurd z (by rw [hN]; omega), fun _ => ?_⟩
      rw [a1, a2, a3, Int.toNat_natCast, e2, wr_s (i := i) (by omega)]
      exact ⟨rfl, by omega, ih (i + 1) (by omega)⟩
  have lp1 : ∀ (r i : Nat), i + r = yS Y → zW xs xl (d + 1) cX11_counted 11 (some .int) false [] 7 [zR b, zI (k : Int), zI (cntB (yX Y) i), zI 0, zI (i : Int)] [] m Q := by
    intro r
    induction r with
    | zero =>
      intro i e
      have ei : i = yS Y := by omega
      subst ei
      exact bX11_counted_7 ⟨h.1.1, fun _ => lp2 (yN Y) 0 (by omega), fun z => absurd (by rw [hS]; exact Int.le_refl _) z⟩
    | succ r ih =>
      intro i e
      have e0 : mA m (b + 8) i = yX Y i 0 := (h.2.2.2.2.1 i (by omega)).1 0 (by omega)
      have hn := ih (i + 1) (by omega)
      rw [show cntB (yX Y) (i + 1) = wr (cntB (yX Y) i + (if yX Y i 0 = 0 then 0 else 1)) from rfl] at hn
      refine bX11_counted_7 ⟨h.1.1, fun z => absurd z (by rw [hS]; omega), fun _ => ?_⟩
      rw [g1, g2, g3, Int.toNat_natCast, e0, wr_s (i := i) (by omega)]
      refine ⟨Or.inl rfl, by omega, fun c => ?_, fun c => ?_⟩
      · rwa [if_pos c] at hn
      · rwa [if_neg c] at hn
  exact bX11_counted_0 (lp1 (yS Y) 0 (by omega))
end ZRM
