/-! constructors: rows of an object; the reference's state -/
def suM (T : List (Nat × Nat × Nat × Int)) (k : Nat) : Nat := ((T.take k).map (fun q => q.2.2.1)).sum
/-- an object of class c - 1 at b with its first k rows -/
def IS (T : List (Nat × Nat × Nat × Int)) (m0 : zM) (b c : Nat) (J : Nat → Int) (k : Nat) (m : zM) : Prop := (mz m = b + 1 + k ∧ mC m b = c) ∧ (∀ f, mI m f b = J f) ∧ (∀ (j : Nat) (r : Nat × Nat × Nat × Int), j < k → T[j]? = some r → mR m r.1 b = b + 1 + j ∧ mC m (b + 1 + j) = r.2.1 ∧ mN m (b + 1 + j) = r.2.2.1 ∧ ∀ i, i < r.2.2.1 → mA m (b + 1 + j) i = r.2.2.2) ∧ Fr (up b) k (suM T k) m0 m
theorem suM_s {T : List (Nat × Nat × Nat × Int)} {k : Nat} {q : Nat × Nat × Nat × Int} (h : T[k]? = some q) : suM T (k + 1) = suM T k + q.2.2.1 := by
  unfold suM
  rw [List.take_add_one, h, List.map_append, List.sum_append]
  rfl
theorem IS.al {T : List (Nat × Nat × Nat × Int)} {m0 m : zM} {b c k kd n : Nat} {J : Nat → Int} (h : IS T m0 b c J k m) : mC (nwA m kd n) b = c := (if_neg (by have := h.1.1; omega)).trans h.1.2
theorem dup_ixN {l : List Nat} (h : l.Nodup) {i j v : Nat} (hi : l[i]? = some v) (hj : l[j]? = some v) : i = j := (List.getElem?_inj (List.getElem?_eq_some_iff.mp hi).1 h).mp (hi.trans hj.symm)
theorem IS.gen {T : List (Nat × Nat × Nat × Int)} {m0 m M : zM} {b c k f kd n : Nat} {v : Int} {J : Nat → Int} (h : IS T m0 b c J k m) (hk : T[k]? = some (f, kd, n, v)) (hn : (T.map (fun q => q.1)).Nodup) (h1 : mz M = mz m + 1) (h2 : ∀ g a, mI M g a = mI m g a) (h3 : ∀ g a, ¬ (g = f ∧ a = b) → mR M g a = mR m g a) (h3' : mR M f b = mz m) (h4 : ∀ a, a ≠ mz m → mC M a = mC m a ∧ mN M a = mN m a ∧ ∀ i, mA M a i = mA m a i) (h5 : mC M (mz m) = kd ∧ mN M (mz m) = n ∧ ∀ i, i < n → mA M (mz m) i = v) (hF : ∀ (u : Nat), Fr (up b) k u m0 m → Fr (up b) (k + 1) (u + n) m0 M) : IS T m0 b c J (k + 1) M := by
  obtain ⟨⟨g1, g2⟩, g3, g4, g5⟩ := h
  have hb : b ≠ mz m := by omega
  refine ⟨⟨by omega, (h4 b hb).1.trans g2⟩, fun g => (h2 g b).trans (g3 g), fun j r hj hr => ?_, by rw [suM_s hk]; exact hF _ g5⟩
  by_cases cj : j = k
  · subst cj
    have er : (f, kd, n, v) = r := Option.some.inj (hk.symm.trans hr)
    subst er
    rw [← g1]
    exact ⟨h3', h5⟩
  · have hf : r.1 ≠ f := by
      intro e
      have i1 : (T.map (fun q => q.1))[j]? = some f := by rw [List.getElem?_map, hr]; exact congrArg some e
      have i2 : (T.map (fun q => q.1))[k]? = some f := by rw [List.getElem?_map, hk]; rfl
      exact cj (dup_ixN hn i1 i2)
    obtain ⟨q1, q2, q3, q4⟩ := g4 j r (by omega) hr
    obtain ⟨w1, w2, w3⟩ := h4 (b + 1 + j) (by omega)
    exact ⟨(h3 r.1 b (fun z => hf z.1)).trans q1, w1.trans q2, w2.trans q3, fun i hi => (w3 i).trans (q4 i hi)⟩
theorem IS.st {T : List (Nat × Nat × Nat × Int)} {m0 m : zM} {b c k f kd n : Nat} {J : Nat → Int} (h : IS T m0 b c J k m) (hk : T[k]? = some (f, kd, n, 0)) (hn : (T.map (fun q => q.1)).Nodup) : IS T m0 b c J (k + 1) (sR (nwA m kd n) f b (mz m)) :=
  h.gen hk hn rfl (fun _ _ => rfl) (fun g a z => if_neg z) zm_Rs (fun a ha => ⟨if_neg ha, if_neg ha, fun i => if_neg ha⟩) ⟨if_pos rfl, if_pos rfl, fun i _ => if_pos rfl⟩ (fun u F => F.nwA.sR (Nat.le_refl _))
theorem fil6 (m : zM) (p : Nat) : ∃ M, M = sA (sA (sA (sA (sA (sA m p 0 (-1)) p 1 (-1)) p 2 (-1)) p 3 (-1)) p 4 (-1)) p 5 (-1) ∧ mz M = mz m ∧ mC M = mC m ∧ mN M = mN m ∧ mI M = mI m ∧ mR M = mR m ∧ (∀ a i, a ≠ p → mA M a i = mA m a i) ∧ (∀ i, i < 6 → mA M p i = -1) ∧ ∀ (S : Nat → Prop) (k u : Nat) (m0 : zM), S p → Fr S k u m0 m → Fr S k u m0 M := by
  refine ⟨_, rfl, rfl, rfl, rfl, rfl, rfl, fun a i ha => ?_, fun i hi => ?_, fun S k u m0 hp F => (((((F.sA hp).sA hp).sA hp).sA hp).sA hp).sA hp⟩
  · rw [zm_Aa ha, zm_Aa ha, zm_Aa ha, zm_Aa ha, zm_Aa ha, zm_Aa ha]
  · have hi' : i = 0 ∨ i = 1 ∨ i = 2 ∨ i = 3 ∨ i = 4 ∨ i = 5 := by omega
    rcases hi' with z | z | z | z | z | z <;> subst z
    · rw [zm_An (show 0 ≠ 5 by decide), zm_An (show 0 ≠ 4 by decide), zm_An (show 0 ≠ 3 by decide), zm_An (show 0 ≠ 2 by decide), zm_An (show 0 ≠ 1 by decide), zm_As]
    · rw [zm_An (show 1 ≠ 5 by decide), zm_An (show 1 ≠ 4 by decide), zm_An (show 1 ≠ 3 by decide), zm_An (show 1 ≠ 2 by decide), zm_As]
    · rw [zm_An (show 2 ≠ 5 by decide), zm_An (show 2 ≠ 4 by decide), zm_An (show 2 ≠ 3 by decide), zm_As]
    · rw [zm_An (show 3 ≠ 5 by decide), zm_An (show 3 ≠ 4 by decide), zm_As]
    · rw [zm_An (show 4 ≠ 5 by decide), zm_As]
    · rw [zm_As]
theorem IS.fi {T : List (Nat × Nat × Nat × Int)} {m0 m : zM} {b c k f kd : Nat} {J : Nat → Int} (h : IS T m0 b c J k m) (hk : T[k]? = some (f, kd, 6, -1)) (hn : (T.map (fun q => q.1)).Nodup) : IS T m0 b c J (k + 1) (sR (sA (sA (sA (sA (sA (sA (nwA m kd 6) (mz m) 0 (-1)) (mz m) 1 (-1)) (mz m) 2 (-1)) (mz m) 3 (-1)) (mz m) 4 (-1)) (mz m) 5 (-1)) f b (mz m)) := by
  have hz : up b (mz m) := by have := h.1.1; show b ≤ mz m; omega
  obtain ⟨M, hM, q1, q2, q3, q4, q5, q6, q7, q8⟩ := fil6 (nwA m kd 6) (mz m)
  rw [← hM]
  clear hM
  have e1 : ∀ a, mC (sR M f b (mz m)) a = mC M a := fun _ => rfl
  have e2 : ∀ a, mN (sR M f b (mz m)) a = mN M a := fun _ => rfl
  have e3 : ∀ a i, mA (sR M f b (mz m)) a i = mA M a i := fun _ _ => rfl
  have n1 : ∀ a, a ≠ mz m → mC (nwA m kd 6) a = mC m a := fun a ha => if_neg ha
  have n2 : ∀ a, a ≠ mz m → mN (nwA m kd 6) a = mN m a := fun a ha => if_neg ha
  have n3 : ∀ a i, a ≠ mz m → mA (nwA m kd 6) a i = mA m a i := fun a i ha => if_neg ha
  have n4 : mC (nwA m kd 6) (mz m) = kd := if_pos rfl
  have n5 : mN (nwA m kd 6) (mz m) = 6 := if_pos rfl
  have n6 : ∀ g a, mR (nwA m kd 6) g a = mR m g a := fun _ _ => rfl
  have n7 : ∀ g a, mI (nwA m kd 6) g a = mI m g a := fun _ _ => rfl
  refine h.gen hk hn (show mz M = _ from q1) (fun g a => by show mI M g a = _; rw [q4]; exact n7 g a) (fun g a z => by rw [show mR (sR M f b (mz m)) g a = mR M g a from if_neg z, q5]; exact n6 g a) zm_Rs (fun a ha => ⟨by rw [e1, q2]; exact n1 a ha, by rw [e2, q3]; exact n2 a ha, fun i => by rw [e3, q6 a i ha]; exact n3 a i ha⟩) ⟨by rw [e1, q2]; exact n4, by rw [e2, q3]; exact n5, fun i hi => by rw [e3]; exact q7 i hi⟩ (fun u F => (q8 _ _ _ _ hz F.nwA).sR (Nat.le_refl _))
def sTab : List (Nat × Nat × Nat × Int) := [(706, 20, 60, 0), (707, 20, 60, 0), (708, 20, 60, 0), (709, 20, 60, 0), (710, 20, 480, 0), (711, 20, 5, 0), (713, 20, 6, -1), (714, 21, 6, 0), (715, 20, 6, 0), (716, 20, 6, 0), (717, 20, 1440, 0), (718, 20, 6, 0), (719, 20, 6, 0), (720, 20, 6, 0), (721, 20, 6, 0), (722, 20, 6, 0), (723, 20, 6, 0), (724, 20, 6, -1), (725, 20, 6, 0), (726, 20, 6, -1), (727, 20, 6, -1), (728, 21, 6, 0), (729, 21, 6, 0), (730, 20, 6, 0), (731, 20, 6, 0), (732, 20, 6, 0), (733, 20, 6, 0), (734, 20, 18, 0), (735, 20, 18, 0), (739, 20, 240, 0)]
theorem sTab_n : (sTab.map (fun q => q.1)).Nodup := by decide +kernel
section ZCS
variable {xs : Nat → Int} {xl d : Nat} {m : zM} {Q : zRes → zM → Prop}
theorem C_newSt0 {b : Nat} (hC : mC m b = 12) (hz : mz m = b + 1) (h0 : b ≠ 0) (hI : ∀ f, mI m f b = 0) (hQ : ∀ m', IS sTab m b 12 (fun _ => 0) 30 m' → Q (.inl none) m') : zC xs xl (d + 1) 129 [zR b] m Q := by
  have s0 : IS sTab m b 12 (fun _ => 0) 0 m := ⟨⟨hz, hC⟩, hI, fun j r hj => absurd hj (Nat.not_lt_zero _), Fr.rfl⟩
  refine bX11_init_0 ⟨h0, fun m2 e1 => ?_⟩
  have c1 : mC m2 b = 12 := by rw [e1]; exact s0.al
  have s1 : IS sTab m b 12 (fun _ => 0) 1 (sR m2 706 b (mz m)) := by rw [e1]; exact s0.st rfl sTab_n
  refine ⟨c1, fun m4 e2 => ?_⟩
  have c2 : mC m4 b = 12 := by rw [e2]; exact s1.al
  have s2 : IS sTab m b 12 (fun _ => 0) 2 (sR m4 707 b (mz m2)) := by rw [e2]; exact s1.st rfl sTab_n
  refine ⟨c2, fun m6 e3 => ?_⟩
  have c3 : mC m6 b = 12 := by rw [e3]; exact s2.al
  have s3 : IS sTab m b 12 (fun _ => 0) 3 (sR m6 708 b (mz m4)) := by rw [e3]; exact s2.st rfl sTab_n
  refine ⟨c3, fun m8 e4 => ?_⟩
  have c4 : mC m8 b = 12 := by rw [e4]; exact s3.al
  have s4 : IS sTab m b 12 (fun _ => 0) 4 (sR m8 709 b (mz m6)) := by rw [e4]; exact s3.st rfl sTab_n
  refine ⟨c4, fun m10 e5 => ?_⟩
  have c5 : mC m10 b = 12 := by rw [e5]; exact s4.al
  have s5 : IS sTab m b 12 (fun _ => 0) 5 (sR m10 710 b (mz m8)) := by rw [e5]; exact s4.st rfl sTab_n
  refine ⟨c5, fun m12 e6 => ?_⟩
  have c6 : mC m12 b = 12 := by rw [e6]; exact s5.al
  have s6 : IS sTab m b 12 (fun _ => 0) 6 (sR m12 711 b (mz m10)) := by rw [e6]; exact s5.st rfl sTab_n
  refine ⟨c6, fun m14 e7 => ?_⟩
  have c7 : mC m14 b = 12 := by rw [e7]; exact s6.al
  have n7 : mN m14 (mz m12) = 6 ∧ mC m14 (mz m12) = 20 := by rw [e7]; exact ⟨if_pos rfl, if_pos rfl⟩
  have s7 : IS sTab m b 12 (fun _ => 0) 7 (sR (sA (sA (sA (sA (sA (sA m14 (mz m12) 0 (-1)) (mz m12) 1 (-1)) (mz m12) 2 (-1)) (mz m12) 3 (-1)) (mz m12) 4 (-1)) (mz m12) 5 (-1)) 713 b (mz m12)) := by rw [e7]; exact s6.fi rfl sTab_n
  refine ⟨by rw [n7.1]; decide, n7.2, by rw [n7.1]; decide, by rw [n7.1]; decide, by rw [n7.1]; decide, by rw [n7.1]; decide, by rw [n7.1]; decide, c7, fun m23 e8 => ?_⟩
  have c8 : mC m23 b = 12 := by rw [e8]; exact s7.al
  have s8 : IS sTab m b 12 (fun _ => 0) 8 (sR m23 714 b (mz m14)) := by rw [e8]; exact s7.st rfl sTab_n
  refine ⟨c8, fun m25 e9 => ?_⟩
  have c9 : mC m25 b = 12 := by rw [e9]; exact s8.al
  have s9 : IS sTab m b 12 (fun _ => 0) 9 (sR m25 715 b (mz m23)) := by rw [e9]; exact s8.st rfl sTab_n
  refine ⟨c9, fun m27 e10 => ?_⟩
  have c10 : mC m27 b = 12 := by rw [e10]; exact s9.al
  have s10 : IS sTab m b 12 (fun _ => 0) 10 (sR m27 716 b (mz m25)) := by rw [e10]; exact s9.st rfl sTab_n
  refine ⟨c10, fun m29 e11 => ?_⟩
  have c11 : mC m29 b = 12 := by rw [e11]; exact s10.al
  have s11 : IS sTab m b 12 (fun _ => 0) 11 (sR m29 717 b (mz m27)) := by rw [e11]; exact s10.st rfl sTab_n
  refine ⟨c11, fun m31 e12 => ?_⟩
  have c12 : mC m31 b = 12 := by rw [e12]; exact s11.al
  have s12 : IS sTab m b 12 (fun _ => 0) 12 (sR m31 718 b (mz m29)) := by rw [e12]; exact s11.st rfl sTab_n
  refine ⟨c12, fun m33 e13 => ?_⟩
  have c13 : mC m33 b = 12 := by rw [e13]; exact s12.al
  have s13 : IS sTab m b 12 (fun _ => 0) 13 (sR m33 719 b (mz m31)) := by rw [e13]; exact s12.st rfl sTab_n
  refine ⟨c13, fun m35 e14 => ?_⟩
  have c14 : mC m35 b = 12 := by rw [e14]; exact s13.al
  have s14 : IS sTab m b 12 (fun _ => 0) 14 (sR m35 720 b (mz m33)) := by rw [e14]; exact s13.st rfl sTab_n
  refine ⟨c14, fun m37 e15 => ?_⟩
  have c15 : mC m37 b = 12 := by rw [e15]; exact s14.al
  have s15 : IS sTab m b 12 (fun _ => 0) 15 (sR m37 721 b (mz m35)) := by rw [e15]; exact s14.st rfl sTab_n
  refine ⟨c15, fun m39 e16 => ?_⟩
  have c16 : mC m39 b = 12 := by rw [e16]; exact s15.al
  have s16 : IS sTab m b 12 (fun _ => 0) 16 (sR m39 722 b (mz m37)) := by rw [e16]; exact s15.st rfl sTab_n
  refine ⟨c16, fun m41 e17 => ?_⟩
  have c17 : mC m41 b = 12 := by rw [e17]; exact s16.al
  have s17 : IS sTab m b 12 (fun _ => 0) 17 (sR m41 723 b (mz m39)) := by rw [e17]; exact s16.st rfl sTab_n
  refine ⟨c17, fun m43 e18 => ?_⟩
  have c18 : mC m43 b = 12 := by rw [e18]; exact s17.al
  have n18 : mN m43 (mz m41) = 6 ∧ mC m43 (mz m41) = 20 := by rw [e18]; exact ⟨if_pos rfl, if_pos rfl⟩
  have s18 : IS sTab m b 12 (fun _ => 0) 18 (sR (sA (sA (sA (sA (sA (sA m43 (mz m41) 0 (-1)) (mz m41) 1 (-1)) (mz m41) 2 (-1)) (mz m41) 3 (-1)) (mz m41) 4 (-1)) (mz m41) 5 (-1)) 724 b (mz m41)) := by rw [e18]; exact s17.fi rfl sTab_n
  refine ⟨by rw [n18.1]; decide, n18.2, by rw [n18.1]; decide, by rw [n18.1]; decide, by rw [n18.1]; decide, by rw [n18.1]; decide, by rw [n18.1]; decide, c18, fun m52 e19 => ?_⟩
  have c19 : mC m52 b = 12 := by rw [e19]; exact s18.al
  have s19 : IS sTab m b 12 (fun _ => 0) 19 (sR m52 725 b (mz m43)) := by rw [e19]; exact s18.st rfl sTab_n
  refine ⟨c19, fun m54 e20 => ?_⟩
  have c20 : mC m54 b = 12 := by rw [e20]; exact s19.al
  have n20 : mN m54 (mz m52) = 6 ∧ mC m54 (mz m52) = 20 := by rw [e20]; exact ⟨if_pos rfl, if_pos rfl⟩
  have s20 : IS sTab m b 12 (fun _ => 0) 20 (sR (sA (sA (sA (sA (sA (sA m54 (mz m52) 0 (-1)) (mz m52) 1 (-1)) (mz m52) 2 (-1)) (mz m52) 3 (-1)) (mz m52) 4 (-1)) (mz m52) 5 (-1)) 726 b (mz m52)) := by rw [e20]; exact s19.fi rfl sTab_n
  refine ⟨by rw [n20.1]; decide, n20.2, by rw [n20.1]; decide, by rw [n20.1]; decide, by rw [n20.1]; decide, by rw [n20.1]; decide, by rw [n20.1]; decide, c20, fun m63 e21 => ?_⟩
  have c21 : mC m63 b = 12 := by rw [e21]; exact s20.al
  have n21 : mN m63 (mz m54) = 6 ∧ mC m63 (mz m54) = 20 := by rw [e21]; exact ⟨if_pos rfl, if_pos rfl⟩
  have s21 : IS sTab m b 12 (fun _ => 0) 21 (sR (sA (sA (sA (sA (sA (sA m63 (mz m54) 0 (-1)) (mz m54) 1 (-1)) (mz m54) 2 (-1)) (mz m54) 3 (-1)) (mz m54) 4 (-1)) (mz m54) 5 (-1)) 727 b (mz m54)) := by rw [e21]; exact s20.fi rfl sTab_n
  refine ⟨by rw [n21.1]; decide, n21.2, by rw [n21.1]; decide, by rw [n21.1]; decide, by rw [n21.1]; decide, by rw [n21.1]; decide, by rw [n21.1]; decide, c21, fun m72 e22 => ?_⟩
  have c22 : mC m72 b = 12 := by rw [e22]; exact s21.al
  have s22 : IS sTab m b 12 (fun _ => 0) 22 (sR m72 728 b (mz m63)) := by rw [e22]; exact s21.st rfl sTab_n
  refine ⟨c22, fun m74 e23 => ?_⟩
  have c23 : mC m74 b = 12 := by rw [e23]; exact s22.al
  have s23 : IS sTab m b 12 (fun _ => 0) 23 (sR m74 729 b (mz m72)) := by rw [e23]; exact s22.st rfl sTab_n
  refine ⟨c23, fun m76 e24 => ?_⟩
  have c24 : mC m76 b = 12 := by rw [e24]; exact s23.al
  have s24 : IS sTab m b 12 (fun _ => 0) 24 (sR m76 730 b (mz m74)) := by rw [e24]; exact s23.st rfl sTab_n
  refine ⟨c24, fun m78 e25 => ?_⟩
  have c25 : mC m78 b = 12 := by rw [e25]; exact s24.al
  have s25 : IS sTab m b 12 (fun _ => 0) 25 (sR m78 731 b (mz m76)) := by rw [e25]; exact s24.st rfl sTab_n
  refine ⟨c25, fun m80 e26 => ?_⟩
  have c26 : mC m80 b = 12 := by rw [e26]; exact s25.al
  have s26 : IS sTab m b 12 (fun _ => 0) 26 (sR m80 732 b (mz m78)) := by rw [e26]; exact s25.st rfl sTab_n
  refine ⟨c26, fun m82 e27 => ?_⟩
  have c27 : mC m82 b = 12 := by rw [e27]; exact s26.al
  have s27 : IS sTab m b 12 (fun _ => 0) 27 (sR m82 733 b (mz m80)) := by rw [e27]; exact s26.st rfl sTab_n
  refine ⟨c27, fun m84 e28 => ?_⟩
  have c28 : mC m84 b = 12 := by rw [e28]; exact s27.al
  have s28 : IS sTab m b 12 (fun _ => 0) 28 (sR m84 734 b (mz m82)) := by rw [e28]; exact s27.st rfl sTab_n
  refine ⟨c28, fun m86 e29 => ?_⟩
  have c29 : mC m86 b = 12 := by rw [e29]; exact s28.al
  have s29 : IS sTab m b 12 (fun _ => 0) 29 (sR m86 735 b (mz m84)) := by rw [e29]; exact s28.st rfl sTab_n
  refine ⟨c29, fun m88 e30 => ?_⟩
  have c30 : mC m88 b = 12 := by rw [e30]; exact s29.al
  have s30 : IS sTab m b 12 (fun _ => 0) 30 (sR m88 739 b (mz m86)) := by rw [e30]; exact s29.st rfl sTab_n
  exact ⟨c30, hQ _ s30⟩
end ZCS
