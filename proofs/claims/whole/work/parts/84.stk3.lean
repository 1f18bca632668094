/-! the slips that wait for good: both sides agree -/
def eN (Y : zY) : Prop := ∀ j, j < 5 → 0 ≤ yE Y j
theorem eN.ye {Y : zY} {j : Nat} {v : Int} (h : eN Y) (hv : j < 5 → 0 ≤ v) : eN (ye Y j v) := fun k hk => by
  by_cases c : k = j
  · subst c
    rw [show yE (Jvm.Pilot.CBendYardLaw_law_r9006_842aff.ye Y k v) k = v from if_pos rfl]; exact hv hk
  · rw [show yE (Jvm.Pilot.CBendYardLaw_law_r9006_842aff.ye Y j v) k = yE Y k from if_neg c]; exact h k hk
theorem eOk.b {Y : zY} (h : eOk Y) {j : Nat} (hj : j < 5) : yE Y j ≤ 4 := by
  have q := freeZ_in (x := yX Y) (F := yF Y j) (j := j) (n := yS Y)
  have := h j hj
  omega
theorem grant1_eN {Y : zY} {i : Nat} (h : eOk Y) (n : eN Y) : eN (grant1 Y i) := by
  unfold grant1
  split
  · rename_i c
    have hj : (yX Y i 9).toNat < 5 := by omega
    have hb := h.b hj
    exact n.ye (fun _ => by rw [wr_id (x := yE Y (yX Y i 9).toNat - 1) (by omega) (by omega)]; omega)
  · exact n
theorem grantR_eN : ∀ (k : Nat) {Y : zY} {seen : Int}, yOk Y → eN Y → eN (grantR k Y seen)
  | 0, _, _, _, n => n
  | k + 1, Y, seen, h, n => by
    unfold grantR
    split
    · exact n
    · have hb := longF_in (yX Y) seen (yS Y)
      exact grantR_eN k (grant1_yOk h (by omega)) (grant1_eN h.2.2.1 n)
theorem finF_E {Y : zY} {i : Nat} : yE (finF Y i) = yE Y := by
  unfold finF
  split <;> rfl
theorem setR_E {Y : zY} {i : Nat} {o : Int} : yE (setR Y i o) = yE Y := by
  unfold setR
  split
  · rfl
  · split
    · split
      · rw [finF_E]; rfl
      · rfl
    · rfl
theorem workQ_eN {Y : zY} {i : Nat} {q : zAc} (h : eOk Y) (n : eN Y) : eN (workQ Y i q).2 := by
  unfold workQ
  split
  · unfold takeR
    split
    · show eN (if yX Y i 9 < 0 then _ else Y)
      split <;> exact n
    · exact n
  · split
    · unfold giveR
      show eN (if bAnd (yX Y i 12) (bShl 1 q.2.1) = 0 then Y else _)
      split
      · exact n
      · exact eN.ye (Y := yx Y i (releaseF (yX Y i) q.2.1)) n (fun hj => by
          have hb := h.b hj
          have h0 := n _ hj
          rw [wr_id (x := yE Y q.2.1.toNat + 1) (by omega) (by omega)]; omega)
    · split
      · unfold cutR
        split <;> exact n
      · split
        · exact n
        · split <;> exact n
theorem act_eN {Y : zY} {i : Nat} (h : eOk Y) (n : eN Y) : eN (actF Y i) := by
  unfold actF
  split
  · exact n
  · unfold eN
    rw [setR_E]
    unfold workR
    split
    · exact n
    · exact workQ_eN h n
theorem tick_eN {Y : zY} (h : yOk Y) (n : eN Y) (hg : yG Y 1 < 1000000000) : ∀ k, k ≤ yS Y → eN (actsF (grantR (yS Y) (beatF Y) 0) k)
  | 0, _ => grantR_eN (yS Y) (beat_yOk h) n
  | k + 1, hk => act_eN (tick_yOk h hg k (by omega)).1.2.2.1 (tick_eN h n hg k (by omega))
theorem dryY_E {Y : zY} : yE (dryY Y) = yE Y := by
  unfold dryY
  split <;> rfl
theorem pass_eN {Y : zY} (h : yOk Y) (n : eN Y) (hg : yG Y 1 < 1000000000) : eN (passF Y) := by
  unfold passF eN
  rw [dryY_E]
  exact tick_eN h n hg _ (Nat.le_refl _)
theorem passN_eN {Y : zY} (h : yOk Y) (n : eN Y) (hg : yG Y 1 < 900000000) : ∀ k, k ≤ 1000000 → eN (passN k Y)
  | 0, _ => n
  | k + 1, hk => by
    have g := passN_yOk h hg k (by omega)
    exact pass_eN g.1 (passN_eN h n hg k (by omega)) (by omega)
theorem freeZ_hb {x : Nat → Nat → Int} {F S : Int} {f : Nat} : ∀ n, freeZ x F f n + hbZ x S f n ≤ F ∧ ((∃ k : Nat, k < n ∧ bAnd S (bShl 1 (k : Int)) = 0 ∧ inG (x k 12) f) → freeZ x F f n + hbZ x S f n + 1 ≤ F) ∧ ((∀ k : Nat, k < n → inG (x k 12) f → bAnd S (bShl 1 (k : Int)) ≠ 0) → freeZ x F f n + hbZ x S f n = F)
  | 0 => ⟨by show F + 0 ≤ F; omega, fun ⟨k, hk, _⟩ => absurd hk (Nat.not_lt_zero _), fun _ => by show F + 0 = F; omega⟩
  | n + 1 => by
    obtain ⟨q1, q2, q3⟩ := freeZ_hb (x := x) (F := F) (S := S) (f := f) n
    have e1 : freeZ x F f (n + 1) = freeZ x F f n - (if bAnd (x n 12) (bShl 1 (f : Int)) = 0 then 0 else 1) := rfl
    have e2 : hbZ x S f (n + 1) = hbZ x S f n + (if bAnd S (bShl 1 (n : Int)) = 0 then 0 else if bAnd (x n 12) (bShl 1 (f : Int)) = 0 then 0 else 1) := rfl
    rw [e1, e2]
    by_cases c : bAnd (x n 12) (bShl 1 (f : Int)) = 0
    · have e3 : (if bAnd S (bShl 1 (n : Int)) = 0 then (0 : Int) else if bAnd (x n 12) (bShl 1 (f : Int)) = 0 then 0 else 1) = 0 := (by rw [if_pos c]; split <;> rfl)
      rw [e3, if_pos c]
      refine ⟨by omega, fun ⟨k, hk, a, b⟩ => ?_, fun z => ?_⟩
      · have hne : k ≠ n := fun w => b (by rw [w]; exact c)
        have := q2 ⟨k, by omega, a, b⟩
        omega
      · have := q3 (fun k hk => z k (by omega))
        omega
    · rw [if_neg c]
      by_cases c2 : bAnd S (bShl 1 (n : Int)) = 0
      · rw [if_pos c2]
        exact ⟨by omega, fun _ => by omega, fun z => absurd c2 (z n (by omega) c)⟩
      · rw [if_neg c2]
        refine ⟨by omega, fun ⟨k, hk, a, b⟩ => ?_, fun z => ?_⟩
        · have hne : k ≠ n := fun w => c2 (by rw [← w]; exact a)
          have := q2 ⟨k, by omega, a, b⟩
          omega
        · have := q3 (fun k hk => z k (by omega))
          omega
theorem yOk.xB {Y : zY} (h : yOk Y) : xB (yX Y) (yS Y) := ⟨h.2.1.1, fun i hi => by
  have h6 := h.2.1.1
  have q := (h.2.1.2.1 i (by omega)).2.2.2.2.2
  exact ⟨q.2.1, q.1⟩⟩
section ZSL
variable {xs : Nat → Int} {xl d : Nat} {m : zM} {Q : zRes → zM → Prop}
theorem R_stuck {b : Nat} {Y : zY} (h : RSt m b Y) (hy : yOk Y) (he : eN Y) (hQ : Q (.inl (some (zI (stuckF Y)))) m) : zC xs xl (d + 2) 145 [zR b] m Q := by
  have hx := hy.xB
  have h6 := hx.1
  obtain ⟨s1, s2⟩ := setE_m (E := yE Y) 5 (Nat.le_refl _)
  obtain ⟨g1, g2, g3, g4⟩ := rnds_m hx s1 (yS Y)
  have hst := stuckB_m (x := yX Y) (g := rndsF (yX Y) (yS Y) (setE (yE Y) 5) (yS Y)) (yS Y) h6
  have eS : stuckF Y = stuckB (yX Y) (rndsF (yX Y) (yS Y) (setE (yE Y) 5) (yS Y)) (yS Y) := rfl
  rw [eS] at hQ
  have cl : clG (yX Y) (yS Y) (rndsF (yX Y) (yS Y) (setE (yE Y) 5) (yS Y)) := by
    rcases g4 with z | z
    · exact z
    · exact absurd z (by have := cG_le (x := yX Y) (g := rndsF (yX Y) (yS Y) (setE (yE Y) 5) (yS Y)) (yS Y); omega)
  generalize rndsF (yX Y) (yS Y) (setE (yE Y) 5) (yS Y) = G at g1 g2 g3 cl hst hQ
  generalize stuckB (yX Y) G (yS Y) = U at hst hQ
  obtain ⟨t1, t2⟩ := hst
  refine R_stuckS h hx (fun j hj => (hy.2.2.1 j hj).1) (fun S o1 o2 => ?_)
  have w9 : ∀ i, i < yS Y → 0 ≤ yX Y i 9 → (yX Y i 9).toNat < 5 ∧ (((yX Y i 9).toNat : Nat) : Int) = yX Y i 9 := fun i hi z => by
    have := (hx.2 i hi).2
    exact ⟨by omega, by omega⟩
  have A : ∀ i : Nat, i < 6 → bAnd S (bShl 1 (i : Int)) ≠ 0 → bAnd U (bShl 1 (i : Int)) ≠ 0 := by
    have pk : ∀ i : Nat, i < 6 → bAnd S (bShl 1 (i : Int)) ≠ 0 → ¬ (0 < yE Y (yX Y i 9).toNat ∨ ∃ k : Nat, k < yS Y ∧ bAnd S (bShl 1 (k : Int)) = 0 ∧ inG (yX Y k 12) (yX Y i 9).toNat) := by
      intro i hi z w
      obtain ⟨⟨p1, -, p2⟩, p3⟩ := o1.2 i hi z
      have hw := w9 i p1 p2
      have hF := (hy.2.2.1 _ hw.1).2
      have hq := freeZ_hb (x := yX Y) (F := yF Y (yX Y i 9).toNat) (S := S) (f := (yX Y i 9).toNat) (yS Y)
      have h0 := he _ hw.1
      unfold keepP at p3
      rcases w with w | w
      · have := hq.1; omega
      · have := hq.2.1 w; omega
    intro i hi z
    obtain ⟨⟨p1, -, p2⟩, p3⟩ := o1.2 i hi z
    refine (t2 i hi).mpr ⟨p1, fun cd => ?_⟩
    have hw := w9 i p1 p2
    rcases cd with c | c
    · omega
    · refine pk i hi z (g3 (fun f => 0 < yE Y f ∨ ∃ k : Nat, k < yS Y ∧ bAnd S (bShl 1 (k : Int)) = 0 ∧ inG (yX Y k 12) f) (fun f hf q => Or.inl ((s2 f hf).mp q).2) (fun k hk q f hf hh => Or.inr ⟨k, hk, ?_, hh⟩) _ hw.1 ?_)
      · refine Decidable.byContradiction (fun nz => ?_)
        have p0 := (o1.2 k (by omega) nz).1.2.2
        rcases q with q | q
        · omega
        · exact pk k (by omega) nz q
      · unfold inG
        rw [hw.2]; exact c
  have B : ∀ i : Nat, i < 6 → bAnd U (bShl 1 (i : Int)) ≠ 0 → bAnd S (bShl 1 (i : Int)) ≠ 0 := by
    refine o2 U ⟨t1, fun i hi z => ?_⟩
    obtain ⟨p1, p2⟩ := (t2 i hi).mp z
    have p9 : 0 ≤ yX Y i 9 := Decidable.byContradiction (fun w => p2 (Or.inl (by omega)))
    have hw := w9 i p1 p9
    have nw : ¬ inG G (yX Y i 9).toNat := fun w => p2 (Or.inr (by
      unfold inG at w
      rw [hw.2] at w; exact w))
    have p0 : yX Y i 0 ≠ 0 := fun w => by
      have := ((hy.2.1.2.1 i hi).2.2.2.2.2.2.2.2.2.1 w).2.1
      omega
    refine ⟨⟨p1, p0, p9⟩, ?_⟩
    have hq := (freeZ_hb (x := yX Y) (F := yF Y (yX Y i 9).toNat) (S := U) (f := (yX Y i 9).toNat) (yS Y)).2.2 (fun k hk hh => (t2 k (by omega)).mpr ⟨hk, fun cd => nw (cl k hk cd _ hw.1 hh)⟩)
    have hF := (hy.2.2.1 _ hw.1).2
    have hE : ¬ 0 < yE Y (yX Y i 9).toNat := fun w => nw (g2 _ hw.1 ((s2 _ hw.1).mpr ⟨hw.1, w⟩))
    unfold keepP
    omega
  rw [sS_ext o1.1 t1 (fun i hi => ⟨fun z => Decidable.byContradiction (fun w => B i hi w z), fun z => Decidable.byContradiction (fun w => A i hi w z)⟩)]
  exact hQ
end ZSL
