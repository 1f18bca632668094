/-! the reference goes through a plan: times, go -/
def GoC (xs : Nat → Int) (xl D x n E : Nat) (t : Nat → Int) (q : Nat) (body : Nat → zPs → zRs) : Prop := ∀ (i j tok : Nat) (st : zPs) (m : zM) (Q : zRes → zM → Prop), blkF t n (n + 1) i = some j → i ≤ E → RGo m x n E t tok st → (∀ (e : Int) (p : Nat) (m' : zM), body i st = .inl (e, p) → e ≠ 0 → GF x m m' → RErr m' x e p → Q (.inl (some (zI 0))) m') → (∀ (st' : zPs) (m' : zM), body i st = .inr (j, st') → GF x m m' → RGo m' x n E t j st' → Q (.inl (some (zI 1))) m') → zC xs xl D 178 [zR x, zI (i : Int), zI (q : Int)] m Q
section ZRK
variable {xs : Nat → Int} {xl d : Nat} {m : zM} {Q : zRes → zM → Prop}
theorem M_goTimes {x n E i j1 k q : Nat} {t : Nat → Int} {st : zPs} {body : Nat → zPs → zRs} (hE : E ≤ n) (h46 : (tkF t n E).1 = 46) (hkq : k + q = 3) (hb : 0 < k → GoC xs xl (d + 6) x n E t (q + 1) body) (h : RGo m x n E t i st) (hi : i + 3 ≤ E) (h110 : (tkF t n (i + 1)).1 = 110) (hblk : blkF t n (n + 1) (i + 3) = some j1) (h125 : (tkF t n j1).1 = 125)
    (h4 : k = 0 → ∀ m', GF x m m' → RErr m' x 4 (tkF t n i).2.2.1 → Q (.inl (some (zI 0))) m')
    (h2 : k ≠ 0 → ¬ allowB 8 (tkF t n (i + 1)).2.1 → ∀ m', GF x m m' → RErr m' x 2 (tkF t n (i + 1)).2.2.1 → Q (.inl (some (zI 0))) m')
    (hl : k ≠ 0 → allowB 8 (tkF t n (i + 1)).2.1 → ∀ (e : Int) (p : Nat) (m' : zM), repF body (tkF t n (i + 1)).2.1.toNat (i + 3) st = .inl (e, p) → e ≠ 0 → GF x m m' → RErr m' x e p → Q (.inl (some (zI 0))) m')
    (ho : k ≠ 0 → allowB 8 (tkF t n (i + 1)).2.1 → ∀ (st' : zPs) (m' : zM), repF body (tkF t n (i + 1)).2.1.toNat (i + 3) st = .inr (j1, st') → GF x m m' → RGo m' x n E t (j1 + 1) st' → Q (.inl (some (zI 1))) m') : zC xs xl (d + 7) 179 [zR x, zI (q : Int)] m Q := by
  obtain ⟨⟨g1, g2, g3⟩, -⟩ := id h
  have hn := g1.2.1.2.1
  refine bX12_goTimes_0 ⟨fun c3 => ⟨g1.1.1, ?_⟩, fun c3 => ⟨g1.1.1, ?_⟩⟩
  · have hk : k ≠ 0 := by omega
    rw [g2, wr_s (i := i) (by omega)]
    refine M_numberAt g1 (show i + 1 ≤ E by omega) hE h110 ⟨_, rfl, ?_⟩
    refine M_in (fun c => ⟨1, rfl, fun _ => ⟨g1.1.1, M_numberAt g1 (show i + 1 ≤ E by omega) hE h110 ⟨_, rfl, ?_⟩⟩, fun z => absurd (by decide) z⟩) (fun c => ⟨0, rfl, fun z => absurd rfl z, fun _ => ⟨g1.1.1, ?_⟩⟩)
    · have ha : allowB 8 (tkF t n (i + 1)).2.1 := by
        unfold allowB
        rw [if_neg (by decide), if_neg (by decide), if_pos rfl]
        exact c
      replace hl := hl hk ha
      replace ho := ho hk ha
      replace hb := hb (by omega)
      generalize (tkF t n (i + 1)).2.1 = v at c hl ho ⊢
      have lp : ∀ (r c tok : Nat) (st1 : zPs) (m1 : zM), ((r + 1 + c : Nat) : Int) = v → RGo m1 x n E t tok st1 → GF x m m1 → repF body v.toNat (i + 3) st = repF body (r + 1) (i + 3) st1 → zW xs xl (d + 6) cX12_goTimes 12 (some .boolean) false [] 52 [zR x, zI (q : Int), zI ((i + 1 : Nat) : Int), zI v, zI (c : Int)] [] m1 Q := by
        intro r
        induction r with
        | zero =>
          intro c1 tok st1 m1 ev g f er
          refine bX12_goTimes_52 ⟨fun z => absurd z (by omega), fun _ => ⟨g.1.1.1.1, ?_⟩⟩
          rw [wr_id (x := ((i + 1 : Nat) : Int) + 2) (by omega) (by omega), wr_s (i := q) (by omega), show ((i + 1 : Nat) : Int) + 2 = ((i + 3 : Nat) : Int) by omega, wr_s (i := c1) (by omega)]
          refine hb (i + 3) j1 tok st1 m1 _ hblk hi g (fun e p m' q1 q2 q3 q4 => ⟨0, rfl, fun z => absurd rfl z, fun _ => ?_⟩) (fun st' m' q1 q2 q3 => ⟨1, rfl, fun _ => ?_, fun z => absurd (by decide) z⟩)
          · exact hl e p m' (er.trans (repF_l q1)) q2 (f.tr q3) q4
          · refine bX12_goTimes_52 ⟨fun _ => ⟨q3.1.1.1.1, ?_⟩, fun z => absurd (by omega) z⟩
            have e1 : mI m' 776 x = (j1 : Int) := q3.1.2.1
            have hj : j1 + 1 ≤ E := tk_lt q3.1.2.2 h46 (by rw [h125]; decide)
            rw [e1, wr_s (i := j1) (by omega)]
            exact ho st' _ (er.trans (repF_r0 q1)) ((f.tr q2).s (Or.inr (Or.inr (Or.inl rfl)))) (q3.tk (MF.rfl.s rfl) zm_Is hj)
        | succ r ih =>
          intro c1 tok st1 m1 ev g f er
          refine bX12_goTimes_52 ⟨fun z => absurd z (by omega), fun _ => ⟨g.1.1.1.1, ?_⟩⟩
          rw [wr_id (x := ((i + 1 : Nat) : Int) + 2) (by omega) (by omega), wr_s (i := q) (by omega), show ((i + 1 : Nat) : Int) + 2 = ((i + 3 : Nat) : Int) by omega, wr_s (i := c1) (by omega)]
          refine hb (i + 3) j1 tok st1 m1 _ hblk hi g (fun e p m' q1 q2 q3 q4 => ⟨0, rfl, fun z => absurd rfl z, fun _ => ?_⟩) (fun st' m' q1 q2 q3 => ⟨1, rfl, fun _ => ?_, fun z => absurd (by decide) z⟩)
          · exact hl e p m' (er.trans (repF_l q1)) q2 (f.tr q3) q4
          · exact ih (c1 + 1) j1 st' m' (by omega) q3 (f.tr q2) (er.trans (repF_rs q1))
      obtain ⟨r, hr⟩ : ∃ r : Nat, v = ((r + 1 : Nat) : Int) := ⟨v.toNat - 1, by omega⟩
      exact lp r 0 i st m (by omega) h MF.rfl (by rw [hr, Int.toNat_natCast])
    · have ha : ¬ allowB 8 (tkF t n (i + 1)).2.1 := by
        unfold allowB
        rw [if_neg (by decide), if_neg (by decide), if_pos rfl]
        exact c
      exact M_wrong g1 (show i + 1 ≤ E by omega) hE (fun m' f x' => ⟨0, rfl, Or.inl rfl, h2 hk ha m' f x'⟩)
  · rw [g2]
    exact M_wrong g1 g3 hE (fun m' f x' => ⟨0, rfl, Or.inl rfl, h4 (by omega) m' f x'⟩)
theorem M_items {x n E k q : Nat} {t : Nat → Int} {a1 : Int} {body : Nat → zPs → zRs} {m0 : zM} (hE : E ≤ n) (h46 : (tkF t n E).1 = 46) (hkq : k + q = 3) (hb : 0 < k → GoC xs xl (d + 6) x n E t (q + 1) body) : ∀ (f : Nat), f ≤ n + 1 → ∀ (i j : Nat) (st : zPs) (m : zM), blkF t n f i = some j → RGo m x n E t i st → GF x m0 m →
    (∀ (e : Int) (p : Nat) (m' : zM), itF t n k body f i st = .inl (e, p) → e ≠ 0 → GF x m0 m' → RErr m' x e p → Q (.inl (some (zI 0))) m') → (∀ (st' : zPs) (m' : zM), itF t n k body f i st = .inr (j, st') → GF x m0 m' → RGo m' x n E t j st' → Q (.inl (some (zI 1))) m') → zW xs xl (d + 7) cX12_go 12 (some .boolean) false [] 5 [zR x, zI a1, zI (q : Int)] [] m Q := by
  intro f
  induction f with
  | zero => intro _ i j st m hB; exact absurd hB (by unfold blkF; exact fun z => by cases z)
  | succ f ih =>
    intro hf i j st m hB h f0 hEr hO
    obtain ⟨⟨g1, g2, g3⟩, -⟩ := id h
    obtain ⟨k1, k2, k3, k4, k5, k6, k7⟩ := g1.k g3 hE
    have hn := g1.2.1.2.1
    have eB : blkF t n (f + 1) i = if (tkF t n i).1 = 46 ∨ (tkF t n i).1 = 125 then some i else if (tkF t n i).1 ≠ 115 ∨ (restF t n (formL (tkF t n i).2.1) (i + 1)).1 = false then none else if (tkF t n i).2.1 = 8 then (match blkF t n f (i + 3) with
      | some j => if (tkF t n j).1 = 125 then blkF t n f (j + 1) else none
      | none => none) else blkF t n f (i + 1 + (formL (tkF t n i).2.1).length) := rfl
    rw [eB] at hB
    have eI : itF t n k body (f + 1) i st = if (tkF t n i).1 = 46 ∨ (tkF t n i).1 = 125 then .inr (i, st) else if (tkF t n i).2.1 = 8 then
      (if k = 0 then .inl (4, (tkF t n i).2.2.1) else if ¬ allowB 8 (tkF t n (i + 1)).2.1 then .inl (2, (tkF t n (i + 1)).2.2.1)
       else match repF body (tkF t n (i + 1)).2.1.toNat (i + 3) st with
        | .inl e => .inl e
        | .inr (j, st') => itF t n k body f (j + 1) st')
      else match stpF t n i (tkF t n i).2.1 st with
      | .inl e => .inl e
      | .inr st' => itF t n k body f (i + 1 + (formL (tkF t n i).2.1).length) st' := rfl
    rw [eI] at hEr hO
    have stop : (tkF t n i).1 = 46 ∨ (tkF t n i).1 = 125 → Q (.inl (some (zI 1))) m := by
      intro c
      rw [if_pos c] at hB hO
      have ej : i = j := Option.some.inj hB
      subst ej
      exact hO st m rfl f0 h
    refine bX12_go_5 ⟨k1, ?_⟩
    rw [k2, k3, k4, g2, Int.toNat_natCast, k5]
    refine ⟨rfl, ⟨by omega, k6⟩, fun c => stop (Or.inl (kd_46.mp c)), fun c => M_isSym g1 g3 hE (Or.inl ⟨rfl, rfl⟩) (fun c2 => ⟨1, rfl, fun _ => stop (Or.inr c2), fun z => absurd (by decide) z⟩) (fun c2 => ⟨0, rfl, fun z => absurd rfl z, fun _ => ⟨k1, ?_⟩⟩)⟩
    have cn : ¬ ((tkF t n i).1 = 46 ∨ (tkF t n i).1 = 125) := fun z => z.elim (fun z => c (kd_46.mpr z)) c2
    rw [if_neg cn] at hB hEr hO
    by_cases cw : (tkF t n i).1 ≠ 115 ∨ (restF t n (formL (tkF t n i).2.1) (i + 1)).1 = false
    · rw [if_pos cw] at hB; cases hB
    rw [if_neg cw] at hB
    have h115 : (tkF t n i).1 = 115 := Decidable.byContradiction fun z => cw (Or.inl z)
    have hr : (restF t n (formL (tkF t n i).2.1) (i + 1)).1 = true := by
      cases hq : (restF t n (formL (tkF t n i).2.1) (i + 1)).1 with
      | true => rfl
      | false => exact absurd (Or.inr hq) cw
    have hi1 : i + 1 ≤ E := tk_lt g3 h46 (by rw [h115]; decide)
    have hrE := rest_E h46 hr hi1 (fun k hk => formL_46 hk)
    rw [g2]
    refine M_isTimes g1 g3 hE (fun c8 => ⟨1, rfl, fun z => absurd z (by decide), fun _ => ⟨k1, ?_⟩⟩) (fun c8 => ⟨0, rfl, fun _ => ⟨k1, ?_⟩, fun z => absurd rfl z⟩)
    · have e8 := c8.2
      rw [if_pos e8] at hB hEr hO
      rw [e8] at hr hrE
      rw [formL_8] at hr hrE
      have h110 := rest_at hr 0 110 rfl
      rw [Nat.add_zero] at h110
      have hi3 : i + 3 ≤ E := hrE
      cases hj1 : blkF t n f (i + 3) with
      | none => rw [hj1] at hB; cases hB
      | some j1 =>
        rw [hj1] at hB
        replace hB : (if (tkF t n j1).1 = 125 then blkF t n f (j1 + 1) else none) = some j := hB
        by_cases c125 : (tkF t n j1).1 = 125
        · rw [if_pos c125] at hB
          have hj2 := blkF_mono (show f ≤ n + 1 by omega) hj1
          refine M_goTimes hE h46 hkq hb h hi3 h110 hj2 c125 (fun kz m' q1 q2 => ⟨0, rfl, fun _ => ?_, fun z => absurd rfl z⟩) (fun kz ka m' q1 q2 => ⟨0, rfl, fun _ => ?_, fun z => absurd rfl z⟩) (fun kz ka e p m' q1 q2 q3 q4 => ⟨0, rfl, fun _ => ?_, fun z => absurd rfl z⟩) (fun kz ka st' m' q1 q2 q3 => ⟨1, rfl, fun z => absurd z (by decide), fun _ => ?_⟩)
          · exact hEr 4 _ m' (if_pos kz) (by decide) (f0.tr q1) q2
          · rw [if_neg kz, if_pos ka] at hEr
            exact hEr 2 _ m' rfl (by decide) (f0.tr q1) q2
          · rw [if_neg kz, if_neg (fun z => z ka), q1] at hEr
            exact hEr e p m' rfl q2 (f0.tr q3) q4
          · rw [if_neg kz, if_neg (fun z => z ka), q1] at hEr hO
            exact ih (by omega) (j1 + 1) j st' m' hB q3 (f0.tr q2) hEr hO
        · rw [if_neg c125] at hB; cases hB
    · have n8 : (tkF t n i).2.1 ≠ 8 := fun z => c8 ⟨h115, z⟩
      rw [if_neg n8] at hB hEr hO
      have hb8 := tok_v.1 h115
      obtain ⟨w, ew⟩ : ∃ w : Nat, (tkF t n i).2.1 = (w : Int) := ⟨(tkF t n i).2.1.toNat, by have := hb8.1; have e : (tkF t n i).2.1 = (tokF t n (plF t n i)).2.1 := rfl; omega⟩
      have hw : w < 8 := by
        have := hb8.2
        have e : (tokF t n (plF t n i)).2.1 = (w : Int) := ew
        omega
      rw [ew] at hr hB hEr hO
      refine M_goAction hE h46 h h115 ew hw hr (fun e p m' q1 q2 q3 q4 => ⟨0, rfl, fun z => absurd rfl z, fun _ => ?_⟩) (fun st' m' q1 q2 q3 => ⟨1, rfl, fun _ => ?_, fun z => absurd (by decide) z⟩)
      · rw [q1] at hEr
        exact hEr e p m' rfl q2 (f0.tr q3) q4
      · rw [q1] at hEr hO
        exact ih (by omega) _ j st' m' hB q3 (f0.tr q2) hEr hO
end ZRK
section ZRL
variable {xs : Nat → Int} {xl d : Nat}
theorem M_goW {x n E k q : Nat} {t : Nat → Int} {body : Nat → zPs → zRs} (hE : E ≤ n) (h46 : (tkF t n E).1 = 46) (hkq : k + q = 3) (hb : 0 < k → GoC xs xl (d + 6) x n E t (q + 1) body) : GoC xs xl (d + 8) x n E t q (itF t n k body (n + 1)) := by
  intro i j tok st m Q hB hi h hEr hO
  refine bX12_go_0 ⟨h.1.1.1.1, ?_⟩
  have f1 : FT x m (sI m 776 x (i : Int)) := MF.rfl.s rfl
  exact M_items hE h46 hkq hb (n + 1) (Nat.le_refl _) i j st _ hB (h.tk f1 zm_Is hi) f1.gf hEr hO
theorem M_go {x n E : Nat} {t : Nat → Int} (hE : E ≤ n) (h46 : (tkF t n E).1 = 46) : GoC xs xl (d + 14) x n E t 0 (evF t n (n + 1) 3) := by
  have h0 : GoC xs xl (d + 8) x n E t 3 (evF t n (n + 1) 0) := M_goW (d := d) (k := 0) hE h46 (by omega) (fun z => absurd z (by decide))
  have h1 : GoC xs xl (d + 10) x n E t 2 (evF t n (n + 1) 1) := M_goW (d := d + 2) (k := 1) hE h46 (by omega) (fun _ => h0)
  have h2 : GoC xs xl (d + 12) x n E t 1 (evF t n (n + 1) 2) := M_goW (d := d + 4) (k := 2) hE h46 (by omega) (fun _ => h1)
  exact M_goW (d := d + 6) (k := 3) hE h46 (by omega) (fun _ => h2)
end ZRL
