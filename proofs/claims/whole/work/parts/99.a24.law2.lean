/-! the law: a call of both sides -/
section ZLX
variable {xs : Nat → Int} {xl d : Nat} {m : zM} {Q : zRes → zM → Prop}
theorem C_bRunA {P x : Nat} {B : zB} {k : Int} (h : Bd P m x B) (hW : 1 ≤ k ∧ k ≤ 200 → ∀ j, j < k.toNat → yW (passN j (bY B))) (hQ : ∀ m', Bd P m' x (aRun B k).2 → Fr (rg x (x + 392)) 1 6 m m' → Q (rsF 1 0 0 (aRun B k).1) m') : zC xs xl (d + 7) 120 [zR x, zI k] m Q := by
  by_cases c0 : 1 ≤ k ∧ k ≤ 200
  · exact C_bRun h (hW c0) hQ
  · unfold aRun at hQ
    rw [if_pos c0] at hQ
    exact bX10_run_0 ⟨fun c => hQ _ h.x (fr_bx fr_nwX), fun c => ⟨fun c1 => absurd ⟨by omega, c1⟩ c0, fun c1 => hQ _ h.x (fr_bx fr_nwX)⟩⟩
theorem C_bForeseeA {P x : Nat} {B : zB} {k w : Int} (h : Bd P m x B) (hf : ∀ i, i < yS (bY B) → flagOk (yX (bY B) i)) (hW : 1 ≤ k ∧ k ≤ 200 → ∀ j, j < k.toNat → yW (passN j (bY B))) (hQ : ∀ m', Bd P m' x B → Fr (rg x (x + 392)) 1 6 m m' → Q (rsF 1 2 0 (aForesee B k w)) m') : zC xs xl (d + 7) 123 [zR x, zI k, zI w] m Q := by
  by_cases c0 : 1 ≤ k ∧ k ≤ 200
  · exact C_bForesee h hf (hW c0) hQ
  · unfold aForesee at hQ
    rw [if_pos c0] at hQ
    exact bX10_foresee_0 ⟨fun c => hQ _ h.x (fr_bx fr_nwX), fun c => ⟨fun c1 => absurd ⟨by omega, c1⟩ c0, fun c1 => hQ _ h.x (fr_bx fr_nwX)⟩⟩
end ZLX
def LI (m : zM) (B : zB) (k : Nat) : Prop := (Bd 476 m 1 B ∧ Md m 405 B ∧ mC m 475 = 23 ∧ mN m 475 = 1) ∧ BI B k ∧ mc m ≤ 1000 + 400 * k ∧ mu m ≤ 30000 + 4000 * k
def LW (m1 : zM) (B B' : zB) (a : Nat × Int) (m : zM) : Prop := Bd 476 m1 1 B' ∧ Md m1 405 B ∧ (mC m1 475 = 23 ∧ mN m1 475 = 1) ∧ (a.1 = 0 → mA m1 475 0 = a.2) ∧ mc m1 ≤ mc m + 62 ∧ mu m1 ≤ mu m + 305
theorem LI.out {m m' : zM} {B : zB} {k kc uc : Nat} (h : LI m B k) (f : Fr (rg 1 (1 + 392)) kc uc m m') : Md m' 405 B ∧ mC m' 475 = 23 ∧ mN m' 475 = 1 := by
  have hz : 476 ≤ mz m := h.1.1.1.2.2
  have e := f.1 475 (Nat.lt_of_lt_of_le (by decide) hz) (fun z => absurd z.2 (by decide))
  exact ⟨h.1.2.1.fr f (Or.inr (by decide)), e.2.2.2.2.1.trans h.1.2.2.1, e.2.2.2.2.2.trans h.1.2.2.2⟩
theorem LW.no {m m' : zM} {B B' : zB} {k kc uc : Nat} {a : Nat × Int} (h : LI m B k) (hb : Bd 476 m' 1 B') (f : Fr (rg 1 (1 + 392)) kc uc m m') (hk : kc ≤ 62) (hu : uc ≤ 305) (ha : a.1 ≠ 0) : LW m' B B' a m := by
  obtain ⟨q1, q2, q3⟩ := h.out f
  exact ⟨hb, q1, ⟨q2, q3⟩, fun z => absurd z ha, Nat.le_trans f.2.2.1 (Nat.add_le_add_left hk _), Nat.le_trans f.2.2.2 (Nat.add_le_add_left hu _)⟩
theorem LW.yes {m m' : zM} {B B' : zB} {k kc uc : Nat} {a : Nat × Int} (h : LI m B k) (hb : Bd 476 m' 1 B') (f : Fr (rg 1 (1 + 392)) kc uc m m') (hk : kc ≤ 62) (hu : uc ≤ 305) : ((0 : Int) < mN m' 475) ∧ (mC m' 475 = 23) ∧ LW (sA m' 475 0 a.2) B B' a m := by
  obtain ⟨q1, q2, q3⟩ := h.out f
  have g : Fr (rg 475 476) 0 0 m' (sA m' 475 0 a.2) := Fr.rfl.sA ⟨Nat.le_refl _, by decide⟩
  exact ⟨by rw [q3]; decide, q2, hb.fr g (by decide) (Or.inr (by decide)), q1.fr g (Or.inl (by decide)), ⟨q2, q3⟩, fun _ => zm_As, Nat.le_trans f.2.2.1 (Nat.add_le_add_left hk _), Nat.le_trans f.2.2.2 (Nat.add_le_add_left hu _)⟩
theorem rs_0 {e1 e2 e3 : Nat} {a : Nat × Int} (h : a.1 = 0) : rsF e1 e2 e3 a = .inl (some (zI a.2)) := if_pos h
theorem rs_1 {e1 e2 e3 : Nat} {a : Nat × Int} (h : a.1 = 1) : rsF e1 e2 e3 a = .inr e1 := (if_neg (by rw [h]; decide)).trans (if_pos h)
theorem rs_2 {e1 e2 e3 : Nat} {a : Nat × Int} (h : a.1 = 2) : rsF e1 e2 e3 a = .inr e2 := (if_neg (by rw [h]; decide)).trans ((if_neg (by rw [h]; decide)).trans (if_pos h))
theorem rs_3 {e1 e2 e3 : Nat} {a : Nat × Int} (h : a.1 = 3) : rsF e1 e2 e3 a = .inr e3 := (if_neg (by rw [h]; decide)).trans ((if_neg (by rw [h]; decide)).trans (if_neg (by rw [h]; decide)))
section ZLW
variable {xs : Nat → Int} {xl d : Nat} {m : zM} {Q : zRes → zM → Prop}
theorem LW.f1 {m' : zM} {B B' : zB} {k kc uc e1 e2 e3 : Nat} {a : Nat × Int} (h : LI m B k) (hb : Bd 476 m' 1 B') (f : Fr (rg 1 (1 + 392)) kc uc m m') (hk : kc ≤ 62) (hu : uc ≤ 305) (h1 : a.1 ≤ 1) (hQ : ∀ m1, LW m1 B B' a m → Q (.inl (some (zI (a.1 : Int)))) m1) : (∃ v2 : Int, rsF e1 e2 e3 a = .inl (some (zI v2)) ∧ ((0 : Int) < mN m' 475) ∧ (mC m' 475 = 23) ∧ Q (.inl (some (zI 0))) (sA m' 475 0 v2)) ∨ (rsF e1 e2 e3 a = .inr e1 ∧ Q (.inl (some (zI 1))) m') := by
  by_cases c : a.1 = 0
  · obtain ⟨q1, q2, q3⟩ := LW.yes (a := a) h hb f hk hu
    have := hQ _ q3
    rw [c] at this
    exact Or.inl ⟨_, rs_0 c, q1, q2, this⟩
  · have c1 : a.1 = 1 := by omega
    have := hQ _ (LW.no h hb f hk hu c)
    rw [c1] at this
    exact Or.inr ⟨rs_1 c1, this⟩
theorem LW.f2 {m' : zM} {B B' : zB} {k kc uc e1 e2 e3 : Nat} {a : Nat × Int} (h : LI m B k) (hb : Bd 476 m' 1 B') (f : Fr (rg 1 (1 + 392)) kc uc m m') (hk : kc ≤ 62) (hu : uc ≤ 305) (h1 : a.1 ≤ 2) (hQ : ∀ m1, LW m1 B B' a m → Q (.inl (some (zI (a.1 : Int)))) m1) : (∃ v2 : Int, rsF e1 e2 e3 a = .inl (some (zI v2)) ∧ ((0 : Int) < mN m' 475) ∧ (mC m' 475 = 23) ∧ Q (.inl (some (zI 0))) (sA m' 475 0 v2)) ∨ (rsF e1 e2 e3 a = .inr e1 ∧ Q (.inl (some (zI 1))) m') ∨ (rsF e1 e2 e3 a = .inr e2 ∧ Q (.inl (some (zI 2))) m') := by
  by_cases c : a.1 ≤ 1
  · rcases LW.f1 (e1 := e1) (e2 := e2) (e3 := e3) h hb f hk hu c hQ with z | z
    · exact Or.inl z
    · exact Or.inr (Or.inl z)
  · have c1 : a.1 = 2 := by omega
    have := hQ _ (LW.no h hb f hk hu (by rw [c1]; decide))
    rw [c1] at this
    exact Or.inr (Or.inr ⟨rs_2 c1, this⟩)
theorem LW.f3 {m' : zM} {B B' : zB} {k kc uc e1 e2 e3 : Nat} {a : Nat × Int} (h : LI m B k) (hb : Bd 476 m' 1 B') (f : Fr (rg 1 (1 + 392)) kc uc m m') (hk : kc ≤ 62) (hu : uc ≤ 305) (h1 : a.1 ≤ 3) (hQ : ∀ m1, LW m1 B B' a m → Q (.inl (some (zI (a.1 : Int)))) m1) : (∃ v2 : Int, rsF e1 e2 e3 a = .inl (some (zI v2)) ∧ ((0 : Int) < mN m' 475) ∧ (mC m' 475 = 23) ∧ Q (.inl (some (zI 0))) (sA m' 475 0 v2)) ∨ (rsF e1 e2 e3 a = .inr e1 ∧ Q (.inl (some (zI 1))) m') ∨ (rsF e1 e2 e3 a = .inr e2 ∧ Q (.inl (some (zI 2))) m') ∨ (rsF e1 e2 e3 a = .inr e3 ∧ Q (.inl (some (zI 3))) m') := by
  by_cases c : a.1 ≤ 2
  · rcases LW.f2 (e1 := e1) (e2 := e2) (e3 := e3) h hb f hk hu c hQ with z | z | z
    · exact Or.inl z
    · exact Or.inr (Or.inl z)
    · exact Or.inr (Or.inr (Or.inl z))
  · have c1 : a.1 = 3 := by omega
    have := hQ _ (LW.no h hb f hk hu (by rw [c1]; decide))
    rw [c1] at this
    exact Or.inr (Or.inr (Or.inr ⟨rs_3 c1, this⟩))
theorem L_feed {B : zB} {k : Nat} {v1 v2 v3 v4 v5 : Int} (h : LI m B k) (hk : k < 600) (hQ : ∀ m1, LW m1 B (aFeed B v1 v2 v3 v4 v5).2 (aFeed B v1 v2 v3 v4 v5).1 m → Q (.inl (some (zI ((aFeed B v1 v2 v3 v4 v5).1.1 : Int)))) m1) : zC xs xl (d + 12) 225 [zR 1, zI v1, zI v2, zI v3, zI v4, zI v5, zR 475] m Q :=
  bL_feed_0 ⟨h.1.1.1.1.1, C_bFeed h.1.1 (fun m' hb f => LW.f1 h hb f (by decide) (by decide) (bi_feed h.2.1).2 hQ)⟩
theorem L_trim {B : zB} {k : Nat} {v1 : Int} (h : LI m B k) (hk : k < 600) (hQ : ∀ m1, LW m1 B (aTrim B v1).2 (aTrim B v1).1 m → Q (.inl (some (zI ((aTrim B v1).1.1 : Int)))) m1) : zC xs xl (d + 12) 226 [zR 1, zI v1, zR 475] m Q :=
  bL_trim_0 ⟨h.1.1.1.1.1, C_bTrim h.1.1 (fun m' hb f => LW.f1 h hb f (by decide) (by decide) (bi_trim h.2.1).2 hQ)⟩
theorem L_compile {B : zB} {k : Nat} {v1 : Int} (h : LI m B k) (hk : k < 600) (hQ : ∀ m1, LW m1 B (aCompile B v1).2 (aCompile B v1).1 m → Q (.inl (some (zI ((aCompile B v1).1.1 : Int)))) m1) : zC xs xl (d + 12) 227 [zR 1, zI v1, zR 475] m Q :=
  bL_compile_0 ⟨h.1.1.1.1.1, C_bCompile h.1.1 (fun m' hb f => LW.f1 h hb f (by decide) (by decide) (bi_compile h.2.1).2 hQ)⟩
theorem L_plan {B : zB} {k : Nat} {v1 v2 : Int} (h : LI m B k) (hk : k < 600) (hQ : ∀ m1, LW m1 B B (aPlan B v1 v2) m → Q (.inl (some (zI ((aPlan B v1 v2).1 : Int)))) m1) : zC xs xl (d + 12) 228 [zR 1, zI v1, zI v2, zR 475] m Q :=
  bL_plan_0 ⟨h.1.1.1.1.1, C_bPlan h.1.1 (fun m' hb f => LW.f1 h hb f (by decide) (by decide) cd_1.1 hQ)⟩
theorem L_addPlank {B : zB} {k : Nat} {v1 v2 v3 : Int} (h : LI m B k) (hk : k < 600) (hQ : ∀ m1, LW m1 B (aAddPlank B v1 v2 v3).2 (aAddPlank B v1 v2 v3).1 m → Q (.inl (some (zI ((aAddPlank B v1 v2 v3).1.1 : Int)))) m1) : zC xs xl (d + 12) 229 [zR 1, zI v1, zI v2, zI v3, zR 475] m Q :=
  bL_addPlank_0 ⟨h.1.1.1.1.1, C_bAddPlank h.1.1 (fun m' hb f => LW.f2 h hb f (by decide) (by decide) (bi_addPlank h.2.1).2 hQ)⟩
theorem L_addKnot {B : zB} {k : Nat} {v1 v2 : Int} (h : LI m B k) (hk : k < 600) (hQ : ∀ m1, LW m1 B (aAddKnot B v1 v2).2 (aAddKnot B v1 v2).1 m → Q (.inl (some (zI ((aAddKnot B v1 v2).1.1 : Int)))) m1) : zC xs xl (d + 12) 230 [zR 1, zI v1, zI v2, zR 475] m Q :=
  bL_addKnot_0 ⟨h.1.1.1.1.1, C_bAddKnot h.1.1 h.2.1.1.1.1.1 (fun m' hb f => LW.f3 h hb f (by decide) (by decide) (bi_addKnot h.2.1).2 hQ)⟩
theorem L_plank {B : zB} {k : Nat} {v1 v2 : Int} (h : LI m B k) (hk : k < 600) (hQ : ∀ m1, LW m1 B B (aPlank B v1 v2) m → Q (.inl (some (zI ((aPlank B v1 v2).1 : Int)))) m1) : zC xs xl (d + 12) 231 [zR 1, zI v1, zI v2, zR 475] m Q :=
  bL_plank_0 ⟨h.1.1.1.1.1, C_bPlank h.1.1 h.2.1.1.1.1.1 (fun m' hb f => LW.f1 h hb f (by decide) (by decide) cd_1.2.1 hQ)⟩
theorem L_find {B : zB} {k : Nat} {v1 v2 v3 : Int} (h : LI m B k) (hk : k < 600) (hQ : ∀ m1, LW m1 B B (aFind B v1 v2 v3) m → Q (.inl (some (zI ((aFind B v1 v2 v3).1 : Int)))) m1) : zC xs xl (d + 12) 232 [zR 1, zI v1, zI v2, zI v3, zR 475] m Q :=
  bL_find_0 ⟨h.1.1.1.1.1, C_bFind h.1.1 h.2.1.1.1.1.1 (fun m' hb f => LW.f1 h hb f (by decide) (by decide) cd_2.1 hQ)⟩
theorem L_addFrame {B : zB} {k : Nat} {v1 : Int} (h : LI m B k) (hk : k < 600) (hQ : ∀ m1, LW m1 B (aAddFrame B v1).2 (aAddFrame B v1).1 m → Q (.inl (some (zI ((aAddFrame B v1).1.1 : Int)))) m1) : zC xs xl (d + 12) 233 [zR 1, zI v1, zR 475] m Q :=
  bL_addFrame_0 ⟨h.1.1.1.1.1, C_bAddFrame h.1.1 (fun m' hb f => LW.f2 h hb f (by decide) (by decide) (bi_addFrame h.2.1).2 hQ)⟩
theorem L_frames {B : zB} {k : Nat} {v1 v2 : Int} (h : LI m B k) (hk : k < 600) (hQ : ∀ m1, LW m1 B B (aFrames B v1 v2) m → Q (.inl (some (zI ((aFrames B v1 v2).1 : Int)))) m1) : zC xs xl (d + 12) 234 [zR 1, zI v1, zI v2, zR 475] m Q :=
  bL_frames_0 ⟨h.1.1.1.1.1, C_bFrames h.1.1 (fun m' hb f => LW.f1 h hb f (by decide) (by decide) cd_1.2.2.1 hQ)⟩
theorem L_addSlip {B : zB} {k : Nat} (h : LI m B k) (hk : k < 600) (hQ : ∀ m1, LW m1 B (aAddSlip B).2 (aAddSlip B).1 m → Q (.inl (some (zI ((aAddSlip B).1.1 : Int)))) m1) : zC xs xl (d + 12) 235 [zR 1, zR 475] m Q :=
  bL_addSlip_0 ⟨h.1.1.1.1.1, C_bAddSlip h.1.1 (fun m' hb f => LW.f1 h hb f (by decide) (by decide) (bi_addSlip h.2.1).2 hQ)⟩
theorem L_start {B : zB} {k : Nat} {v1 v2 v3 : Int} (h : LI m B k) (hk : k < 600) (hQ : ∀ m1, LW m1 B (aStart B v1 v2 v3).2 (aStart B v1 v2 v3).1 m → Q (.inl (some (zI ((aStart B v1 v2 v3).1.1 : Int)))) m1) : zC xs xl (d + 12) 236 [zR 1, zI v1, zI v2, zI v3, zR 475] m Q :=
  bL_start_0 ⟨h.1.1.1.1.1, C_bStart h.1.1 (fun m' hb f => LW.f3 h hb f (by decide) (by decide) (bi_start h.2.1).2 hQ)⟩
theorem L_lend {B : zB} {k : Nat} {v1 v2 v3 : Int} (h : LI m B k) (hk : k < 600) (hQ : ∀ m1, LW m1 B (aLend B v1 v2 v3).2 (aLend B v1 v2 v3).1 m → Q (.inl (some (zI ((aLend B v1 v2 v3).1.1 : Int)))) m1) : zC xs xl (d + 12) 237 [zR 1, zI v1, zI v2, zI v3, zR 475] m Q :=
  bL_lend_0 ⟨h.1.1.1.1.1, C_bLend h.1.1 (fun m' hb f => LW.f3 h hb f (by decide) (by decide) (bi_lend h.2.1).2 hQ)⟩
theorem L_slip {B : zB} {k : Nat} {v1 v2 : Int} (h : LI m B k) (hk : k < 600) (hQ : ∀ m1, LW m1 B B (aSlip B v1 v2) m → Q (.inl (some (zI ((aSlip B v1 v2).1 : Int)))) m1) : zC xs xl (d + 12) 238 [zR 1, zI v1, zI v2, zR 475] m Q :=
  bL_slip_0 ⟨h.1.1.1.1.1, C_bSlip h.1.1 (fun i hi => (h.2.1.1.1.2.1.2.1 i (by have := h.2.1.1.1.2.1.1; omega)).1) (fun m' hb f => LW.f1 h hb f (by decide) (by decide) cd_1.2.2.2.1 hQ)⟩
theorem L_bend {B : zB} {k : Nat} {v1 v2 v3 : Int} (h : LI m B k) (hk : k < 600) (hQ : ∀ m1, LW m1 B B (aBend B v1 v2 v3) m → Q (.inl (some (zI ((aBend B v1 v2 v3).1 : Int)))) m1) : zC xs xl (d + 12) 239 [zR 1, zI v1, zI v2, zI v3, zR 475] m Q :=
  bL_bend_0 ⟨h.1.1.1.1.1, C_bBend h.1.1 (fun m' hb f => LW.f1 h hb f (by decide) (by decide) cd_2.2.1 hQ)⟩
theorem L_run {B : zB} {k : Nat} {v1 : Int} (h : LI m B k) (hk : k < 600) (hQ : ∀ m1, LW m1 B (aRun B v1).2 (aRun B v1).1 m → Q (.inl (some (zI ((aRun B v1).1.1 : Int)))) m1) : zC xs xl (d + 12) 240 [zR 1, zI v1, zR 475] m Q :=
  bL_run_0 ⟨h.1.1.1.1.1, C_bRunA h.1.1 (fun c j hj => by have h1 := h.2.1.2.2; have g := passN_yOk h.2.1.1.1 (by omega) j (by omega); have g3 := g.2.2; exact g.1.W (by omega)) (fun m' hb f => LW.f1 h hb f (by decide) (by decide) (bi_run h.2.1 hk).2 hQ)⟩
theorem L_count {B : zB} {k : Nat} {v1 : Int} (h : LI m B k) (hk : k < 600) (hQ : ∀ m1, LW m1 B B (aCount B v1) m → Q (.inl (some (zI ((aCount B v1).1 : Int)))) m1) : zC xs xl (d + 12) 241 [zR 1, zI v1, zR 475] m Q :=
  bL_count_0 ⟨h.1.1.1.1.1, C_bCount h.1.1 (fun m' hb f => LW.f1 h hb f (by decide) (by decide) (cd_1 (b := 0)).2.2.2.2.1 hQ)⟩
theorem L_hull {B : zB} {k : Nat} {v1 v2 : Int} (h : LI m B k) (hk : k < 600) (hQ : ∀ m1, LW m1 B B (aHull B v1 v2) m → Q (.inl (some (zI ((aHull B v1 v2).1 : Int)))) m1) : zC xs xl (d + 12) 242 [zR 1, zI v1, zI v2, zR 475] m Q :=
  bL_hull_0 ⟨h.1.1.1.1.1, C_bHull h.1.1 (fun m' hb f => LW.f1 h hb f (by decide) (by decide) cd_1.2.2.2.2.2 hQ)⟩
theorem L_foresee {B : zB} {k : Nat} {v1 v2 : Int} (h : LI m B k) (hk : k < 600) (hQ : ∀ m1, LW m1 B B (aForesee B v1 v2) m → Q (.inl (some (zI ((aForesee B v1 v2).1 : Int)))) m1) : zC xs xl (d + 12) 243 [zR 1, zI v1, zI v2, zR 475] m Q :=
  bL_foresee_0 ⟨h.1.1.1.1.1, C_bForeseeA h.1.1 (fun i hi => (h.2.1.1.1.2.1.2.1 i (by have := h.2.1.1.1.2.1.1; omega)).1) (fun c j hj => by have h1 := h.2.1.2.2; have g := passN_yOk h.2.1.1.1 (by omega) j (by omega); have g3 := g.2.2; exact g.1.W (by omega)) (fun m' hb f => LW.f2 h hb f (by decide) (by decide) (cd_2 (c := 0)).2.2 hQ)⟩
end ZLW
