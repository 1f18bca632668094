/-! what holds of plans, slips, yards -/
def hpL (l : List zAc) : Nat → Int
  | 0 => 0
  | i + 1 => match l[i]? with
    | none => hpL l i
    | some q => if q.1 = 2 then 1 else if q.1 = 7 then 0 else hpL l i
def givenL (l : List zAc) (i : Nat) (f : Int) : Prop := ∃ (j : Nat) (q : zAc), i ≤ j ∧ l[j]? = some q ∧ q.1 = 1 ∧ q.2.1 = f
def planOk (l : List zAc) : Prop := (∀ q ∈ l, acOk q) ∧ (l.length ≤ 60 ∧ 0 < l.length) ∧ (∀ (i : Nat) (q : zAc), l[i]? = some q → (q.1 = 0 → givenL l (i + 1) q.2.1) ∧ (q.1 = 2 → hpL l i = 0) ∧ (3 ≤ q.1 → hpL l i = 1)) ∧ hpL l l.length = 0
def pieceOk (x : Nat → Int) : Prop := (x 5 = 0 → x 6 = 0 ∧ x 7 = 0 ∧ x 8 = 0 ∧ ∀ k, 20 ≤ k → k ≤ 25 → x k = 0) ∧ (x 5 ≠ 0 → 0 ≤ x 18 ∧ x 18 ≤ 3)
def idleOk (x : Nat → Int) : Prop := x 12 = 0 ∧ x 9 = -1 ∧ x 5 = 0 ∧ x 11 = 0
def busyOk (x : Nat → Int) (l : List zAc) : Prop := planOk l ∧ (0 ≤ x 2 ∧ x 2 < l.length) ∧ x 5 = hpL l (x 2).toNat ∧ (0 ≤ x 16 ∧ ∀ q, l[(x 2).toNat]? = some q → q.1 = 3 ∨ q.1 = 4 ∨ q.1 = 6 → x 16 < q.2.1) ∧ (x 5 ≠ 0 → (0 ≤ x 17 ∧ x 17 < x 2) ∧ ∃ q, l[(x 17).toNat]? = some q ∧ q.1 = 2) ∧ (∀ f : Nat, f < 5 → bAnd (x 12) (bShl 1 (f : Int)) ≠ 0 ∨ (x 11 ≠ 0 ∧ x 9 = f) → givenL l (x 2).toNat f) ∧ (0 ≤ x 9 → bAnd (x 12) (bShl 1 (x 9)) = 0) ∧ (x 11 = 0 → 0 ≤ x 9 → ∃ q, l[(x 2).toNat]? = some q ∧ q.1 = 0 ∧ q.2.1 = x 9)
def slOk (x : Nat → Int) (l : List zAc) : Prop := flagOk x ∧ pcOk x ∧ pbOk x ∧ (0 ≤ x 8 ∧ x 8 ≤ 2) ∧ (0 ≤ x 2 ∧ x 2 ≤ 60) ∧ (-1 ≤ x 9 ∧ x 9 ≤ 4) ∧ (0 ≤ x 12 ∧ x 12 ≤ 31) ∧ (x 11 ≠ 0 → 0 ≤ x 9) ∧ pieceOk x ∧ (x 0 = 0 → idleOk x) ∧ (x 0 ≠ 0 → busyOk x l)
def freeZ (x : Nat → Nat → Int) (F : Int) (j : Nat) : Nat → Int
  | 0 => F
  | i + 1 => freeZ x F j i - (if bAnd (x i 12) (bShl 1 (j : Int)) = 0 then 0 else 1)
def eOk (Y : zY) : Prop := ∀ j, j < 5 → (0 ≤ yF Y j ∧ yF Y j ≤ 4) ∧ yE Y j = freeZ (yX Y) (yF Y j) j (yS Y)
def yOk (Y : zY) : Prop := (stOk (yN Y) (yY Y) ∧ yN Y ≤ 60) ∧ (yS Y ≤ 6 ∧ (∀ i, i < 6 → slOk (yX Y i) (yL Y i)) ∧ ∀ i, yS Y ≤ i → i < 6 → yX Y i 0 = 0) ∧ eOk Y ∧ 0 ≤ yG Y 1
theorem freeZ_in {x : Nat → Nat → Int} {F : Int} {j : Nat} : ∀ {n : Nat}, F - n ≤ freeZ x F j n ∧ freeZ x F j n ≤ F
  | 0 => ⟨by show F - 0 ≤ F; omega, Int.le_refl _⟩
  | n + 1 => by
    have h := freeZ_in (x := x) (F := F) (j := j) (n := n)
    unfold freeZ
    split <;> omega
theorem freeR_Z {x : Nat → Nat → Int} {F : Int} {j : Nat} (hj : j < 5) (hF : 0 ≤ F ∧ F ≤ 4) : ∀ {n : Nat}, n ≤ 6 → (∀ i, i < n → 0 ≤ x i 12 ∧ x i 12 ≤ 31) → freeR x F j n = freeZ x F j n
  | 0, _, _ => rfl
  | n + 1, hn, hx => by
    have h := freeR_Z (x := x) (F := F) (j := j) hj hF (n := n) (by omega) (fun i hi => hx i (by omega))
    have hz := freeZ_in (x := x) (F := F) (j := j) (n := n)
    show wr (freeR x F j n - bAnd (bShr (x n 12) (j : Int)) 1) = freeZ x F j n - (if bAnd (x n 12) (bShl 1 (j : Int)) = 0 then 0 else 1)
    rw [h, bit_1 (hx n (by omega)) hj]
    exact wr_id (by split <;> omega) (by split <;> omega)
theorem freeZ_cg {x y : Nat → Nat → Int} {F : Int} {j : Nat} : ∀ {n : Nat}, (∀ i, i < n → y i 12 = x i 12) → freeZ y F j n = freeZ x F j n
  | 0, _ => rfl
  | n + 1, h => by
    unfold freeZ
    rw [freeZ_cg (fun i hi => h i (by omega)), h n (by omega)]
/-- one slip's frames changed -/
theorem freeZ_up {x : Nat → Nat → Int} {F : Int} {j s : Nat} {v : Nat → Int} : ∀ {n : Nat}, s < n → freeZ (up1 x s v) F j n = freeZ x F j n + (if bAnd (x s 12) (bShl 1 (j : Int)) = 0 then 0 else 1) - (if bAnd (v 12) (bShl 1 (j : Int)) = 0 then 0 else 1)
  | 0, h => absurd h (by omega)
  | n + 1, h => by
    unfold freeZ
    by_cases c : s = n
    · subst c
      have e1 : up1 x s v s = v := if_pos rfl
      rw [freeZ_cg (x := x) (y := up1 x s v) (fun i hi => congrFun (if_neg (by omega) : up1 x s v i = x i) 12), e1]
      omega
    · have e1 : up1 x s v n = x n := if_neg (fun z => c z.symm)
      rw [freeZ_up (n := n) (by omega), e1]
      omega
/-- freedom of a frame, in both sides' words -/
theorem free_eq {Y : zY} (h : eOk Y) (hs : yS Y ≤ 6) (hx : ∀ i, i < 6 → 0 ≤ yX Y i 12 ∧ yX Y i 12 ≤ 31) {j : Nat} (hj : j < 5) : freeR (yX Y) (yF Y j) j (yS Y) = yE Y j := by
  rw [(h j hj).2, freeR_Z hj (h j hj).1 hs (fun i hi => hx i (by omega))]
/-- what granting keeps -/
def gOk (Y : zY) : Prop := yS Y ≤ 6 ∧ eOk Y ∧ ∀ i, i < 6 → (0 ≤ yX Y i 12 ∧ yX Y i 12 ≤ 31) ∧ (-1 ≤ yX Y i 9 ∧ yX Y i 9 ≤ 4) ∧ (0 ≤ yX Y i 9 → bAnd (yX Y i 12) (bShl 1 (yX Y i 9)) = 0)
theorem grant1_ok {Y : zY} {i : Nat} (h : gOk Y) (hi : i < yS Y) : gOk (grant1 Y i) := by
  obtain ⟨h1, h2, h3⟩ := id h
  unfold grant1
  by_cases c : (0 ≤ yX Y i 9 ∧ yX Y i 9 < 5) ∧ 0 < yE Y (yX Y i 9).toNat
  · rw [if_pos c]
    obtain ⟨g1, g2, g3⟩ := h3 i (by omega)
    obtain ⟨f, hf⟩ := Int.eq_ofNat_of_zero_le c.1.1
    have hf5 : f < 5 := by omega
    have hfz := freeZ_in (x := yX Y) (F := yF Y f) (j := f) (n := yS Y)
    rw [hf, Int.toNat_natCast] at c ⊢
    have hE := h2 f hf5
    have e12 : receiveF (yX Y i) (f : Int) 12 = bOr (yX Y i 12) (bShl 1 (f : Int)) := rfl
    have e9 : receiveF (yX Y i) (f : Int) 9 = -1 := rfl
    have g3' := g3 (by omega)
    rw [hf] at g3'
    refine ⟨h1, fun j hj => ⟨(h2 j hj).1, ?_⟩, fun k hk => ?_⟩
    · show (if j = f then wr (yE Y f - 1) else yE Y j) = freeZ (up1 (yX Y) i (receiveF (yX Y i) (f : Int))) (yF Y j) j (yS Y)
      rw [freeZ_up hi, e12]
      have hb := (bit_4 (h := yX Y i 12) (f := f) (g := j) g1 hf5 hj).1
      by_cases cj : j = f
      · subst cj
        rw [if_pos rfl, if_pos g3', if_neg (fun z => (hb.mp z).1 rfl), wr_id (by omega) (by omega), hE.2]
        omega
      · rw [if_neg cj, (h2 j hj).2]
        by_cases cb : bAnd (yX Y i 12) (bShl 1 (j : Int)) = 0
        · rw [if_pos cb, if_pos (hb.mpr ⟨cj, cb⟩)]; omega
        · rw [if_neg cb, if_neg (fun z => cb (hb.mp z).2)]; omega
    · by_cases ck : k = i
      · subst ck
        have e : yX (yx (ye Y f (wr (yE Y f - 1))) k (receiveF (yX Y k) (f : Int))) k = receiveF (yX Y k) (f : Int) := if_pos rfl
        rw [e, e12, e9]
        exact ⟨(bit_3 g1 hf5).1, by omega, fun z => absurd z (by decide)⟩
      · have e : yX (yx (ye Y f (wr (yE Y f - 1))) i (receiveF (yX Y i) (f : Int))) k = yX Y k := if_neg ck
        rw [e]; exact h3 k hk
  · rw [if_neg c]; exact h
theorem longF_w {x : Nat → Nat → Int} {seen : Int} : ∀ {i : Nat}, 0 ≤ longF x seen i → ¬ (x (longF x seen i).toNat 9 < 0)
  | 0, h => absurd h (show ¬ (0 ≤ (-1 : Int)) by decide)
  | i + 1, h => by
    rw [longF_s] at h ⊢
    split at h
    · rename_i c
      rw [if_pos c, Int.toNat_natCast]; exact c.1
    · rename_i c
      rw [if_neg c]
      exact longF_w h
theorem and0_f : ∀ g : Fin 6, bAnd 0 (bShl 1 (g.1 : Int)) = 0 := by decide +kernel
theorem and0 (g : Nat) (h : g < 6) : bAnd 0 (bShl 1 (g : Int)) = 0 := and0_f ⟨g, h⟩
theorem fr_new {S : Nat → Prop} {lo hi k u M : Nat} {m m0 m1 : zM} (h : Fr S k u m0 m) (f : Fr (rg lo hi) 0 0 m m1) (hl : mz m0 ≤ lo) : Fr S k u m0 m1 := ⟨fun a ha hs => (h.1 a ha hs).tr (f.1 a (Nat.lt_of_lt_of_le ha h.2.1) (fun z => by unfold rg at z; omega)), Nat.le_trans h.2.1 f.2.1, by have := h.2.2.1; have := f.2.2.1; omega, by have := h.2.2.2; have := f.2.2.2; omega⟩
section ZRG
variable {xs : Nat → Int} {xl d : Nat} {m : zM} {Q : zRes → zM → Prop}
theorem R_giveOut {b : Nat} {Y : zY} (h : RSt m b Y) (hg : gOk Y) (hQ : ∀ m', RSt m' b (grantR (yS Y) Y 0) → Fr (rg b (b + 31)) 1 6 m m' → Q (.inl none) m') : zC xs xl (d + 2) 144 [zR b] m Q := by
  refine bX11_giveOut_0 (fun m1 e1 => ?_)
  have hz0 := h.1.2.1
  have f1 : Fr (rg b (b + 31)) 1 6 m m1 := by rw [e1]; exact (Fr.rfl (k := 0) (u := 0)).nwA
  have f1n : Fr (rg 0 0) 1 6 m m1 := by rw [e1]; exact (Fr.rfl (k := 0) (u := 0)).nwA
  have hz1 : mz m1 = mz m + 1 := by rw [e1]; rfl
  have kA : mC m1 (mz m) = 21 ∧ mN m1 (mz m) = 6 := by rw [e1]; exact ⟨if_pos rfl, if_pos rfl⟩
  have vA : ∀ j, mA m1 (mz m) j = 0 := fun j => by rw [e1]; exact if_pos rfl
  have h1 : RSt m1 b Y := h.mv f1n (by omega)
  generalize hA : mz m = A at kA vA hz0 hz1 ⊢
  -- the outer turns
  have lo : ∀ (k r : Nat) (m2 : zM) (Z : zY) (seen : Int) (u3 u4 : zV), r + k = yS Y → yS Z = yS Y → RSt m2 b Z → gOk Z → (0 ≤ seen ∧ seen ≤ 63) → (mC m2 A = 21 ∧ mN m2 A = 6 ∧ A < mz m2) → (∀ i, i < 6 → (mA m2 A i = 0 ↔ bAnd seen (bShl 1 (i : Int)) = 0)) → Fr (rg b (b + 31)) 1 6 m m2 → (∀ m', RSt m' b (grantR k Z seen) → Fr (rg b (b + 31)) 1 6 m m' → Q (.inl none) m') → zW xs xl (d + 1) cX11_giveOut 11 (none) false [] 7 [zR b, zR A, zI (r : Int), u3, u4] [] m2 Q := by
    intro k
    induction k with
    | zero =>
      intro r m2 Z seen u3 u4 e eS g gg hs hA2 hv f hq
      refine bX11_giveOut_7 ⟨g.1.1, ?_⟩
      rw [g.2.1.2.2.1, eS]
      exact ⟨fun _ => hq m2 g f, fun z => absurd (by omega) z⟩
    | succ k ih =>
      intro r m2 Z seen u3 u4 e eS g gg hs hA2 hv f hq
      obtain ⟨r9, k9, n9⟩ := g.1.at (by decide : (726, 20, 20, 6) ∈ rTab)
      obtain ⟨r10, k10, n10⟩ := g.1.at (by decide : (727, 21, 20, 6) ∈ rTab)
      have hS := g.2.1.2.2.1
      have hs6 := gg.1
      have li : ∀ (w i : Nat), i + w = yS Z → zW xs xl (d + 1) cX11_giveOut 11 (none) false [] 20 [zR b, zR A, zI (r : Int), zI (longF (yX Z) seen i), zI (i : Int)] [] m2 Q := by
        intro w
        induction w with
        | zero =>
          intro i ei
          have eii : i = yS Z := by omega
          subst eii
          have hb := longF_in (yX Z) seen (yS Z)
          unfold grantR at hq
          refine bX11_giveOut_20 ⟨g.1.1, ?_⟩
          rw [hS]
          refine ⟨fun _ => ⟨fun c => ?_, fun c => ?_⟩, fun z => absurd (Int.le_refl _) z⟩
          · rw [if_neg (by omega)] at hq
            obtain ⟨B, hB⟩ := Int.eq_ofNat_of_zero_le (show 0 ≤ longF (yX Z) seen (yS Z) by omega)
            rw [hB, Int.toNat_natCast] at hq
            rw [hB] at hb
            rw [hB, Int.toNat_natCast]
            have hBs : B < yS Z := by omega
            have hne : b + 20 ≠ A := fun z => by omega
            have e9 : mA m2 (b + 20) B = yX Z B 9 := (g.2.2.2.2.1 B (by omega)).1 9 (by omega)
            have f2 : Fr (rg A (A + 1)) 0 0 m2 (sA m2 A B 1) := Fr.rfl.sA (by unfold rg; omega)
            have g2 : RSt (sA m2 A B 1) b Z := g.mv f2 (by omega)
            -- the slip that is asked waits
            have hw9 : 0 ≤ yX Z B 9 := by
              have hl := longF_w (x := yX Z) (seen := seen) (i := yS Z) (by rw [hB]; omega)
              rw [hB, Int.toNat_natCast] at hl
              omega
            have g9 := (gg.2.2 B (by omega)).2.1
            obtain ⟨sB, hsB⟩ := Int.eq_ofNat_of_zero_le hw9
            have hs1 := fun (q : Nat) (hq6 : q < 6) => (set_1 (h := seen) (f := B) (g := q) hs (by omega) hq6)
            have hseen : ∀ (m5 : zM), (∀ q, mA m5 A q = mA (sA m2 A B 1) A q) → ∀ q, q < 6 → (mA m5 A q = 0 ↔ bAnd (bOr seen (bShl 1 (B : Int))) (bShl 1 (q : Int)) = 0) := by
              intro m5 e5 q hq6
              rw [e5, (hs1 q hq6).1]
              by_cases cq : q = B
              · subst cq
                rw [zm_As]
                exact ⟨fun z => absurd z (by decide), fun z => absurd rfl z.1⟩
              · rw [zm_An cq, hv q hq6]
                exact ⟨fun z => ⟨cq, z⟩, fun z => z.2⟩
            have ok1 := grant1_ok gg hBs
            rw [r9, k9, n9, hA2.1, hA2.2.1, (Eqv.nA hne).2.2.1, e9, hsB]
            have e5 : sB < 5 := by omega
            have hfe := free_eq gg.2.1 gg.1 (fun q hq6 => (gg.2.2 q hq6).1) e5
            refine ⟨by omega, rfl, rfl, by omega, R_free g2 e5 ⟨_, rfl, fun c1 => ?_, fun c1 => ⟨g2.1.1, ?_⟩⟩⟩
            · rw [hfe] at c1
              have eg : grant1 Z B = Z := if_neg (fun z => by rw [hsB, Int.toNat_natCast] at z; omega)
              rw [eg] at hq
              rw [wr_s (by omega)]
              exact ih (r + 1) _ Z _ _ _ (by omega) eS g2 gg (hs1 0 (by omega)).2 ⟨hA2.1, hA2.2.1, hA2.2.2⟩ (hseen _ (fun _ => rfl)) (fr_new (M := 0) f f2 (by omega)) hq
            · rw [hfe] at c1
              have eg : grant1 Z B = yx (ye Z sB (wr (yE Z sB - 1))) B (receiveF (yX Z B) (sB : Int)) := (if_pos (by rw [hsB, Int.toNat_natCast]; omega)).trans (by rw [hsB, Int.toNat_natCast])
              rw [eg] at hq ok1
              refine R_get (g2.rw (by omega)) (fun m5 w5 f5 => ⟨rfl, ?_⟩)
              rw [hsB] at w5
              have r5 := g2.sf f5 (by omega) w5.2.2 (fun c => c)
              have r5' : RSt m5 b (yx (ye Z sB (wr (yE Z sB - 1))) B (receiveF (yX Z B) (sB : Int))) := by
                obtain ⟨q1, q2, q3, q4, q5, q6, q7⟩ := r5
                refine ⟨q1, ⟨q2.1, q2.2.1, q2.2.2.1, q2.2.2.2.1, ?_, q2.2.2.2.2.2.1, q2.2.2.2.2.2.2⟩, q3, q4, q5, q6, q7⟩
                have := q2.2.2.2.2.1
                rw [f5.1.1]
                exact g2.2.1.2.2.2.2.1
              have eA5 : ∀ q, mA m5 A q = mA (sA m2 A B 1) A q := fun q => f5.2.2 A q (fun z => by unfold slC at z; omega)
              rw [wr_s (by omega)]
              exact ih (r + 1) m5 (yx (ye Z sB (wr (yE Z sB - 1))) B (receiveF (yX Z B) (sB : Int))) _ _ _ (by omega) eS r5' ok1 (hs1 0 (by omega)).2 ⟨by rw [f5.2.1.2.2.1]; exact hA2.1, by rw [f5.2.1.2.2.2.1]; exact hA2.2.1, by rw [f5.2.1.2.2.2.2.1]; exact hA2.2.2⟩ (hseen m5 eA5) ((fr_new (M := 0) f f2 (by omega)).tr f5.fr (Nat.le_refl _) (Nat.le_refl _)) hq
          · rw [if_pos (by omega)] at hq
            exact hq m2 g f
        | succ w ihi =>
          intro i ei
          have e9 : mA m2 (b + 20) i = yX Z i 9 := (g.2.2.2.2.1 i (by omega)).1 9 (by omega)
          have e10 : mA m2 (b + 21) i = yX Z i 10 := (g.2.2.2.2.1 i (by omega)).1 10 (by omega)
          have g9 := (gg.2.2 i (by omega)).2.1
          have hb := longF_in (yX Z) seen i
          have nx : ∀ v : Int, longF (yX Z) seen (i + 1) = v → zW xs xl (d + 1) cX11_giveOut 11 (none) false [] 20 [zR b, zR A, zI (r : Int), zI v, zI ((i + 1 : Nat) : Int)] [] m2 Q := by
            intro v hv2
            rw [← hv2]
            exact ihi (i + 1) (by omega)
          refine bX11_giveOut_20 ⟨g.1.1, ?_⟩
          rw [hS, r9, k9, n9, r10, k10, n10, hA2.1, hA2.2.1, Int.toNat_natCast, e9, e10, wr_s (i := i) (by omega)]
          refine ⟨fun z => absurd z (by omega), fun _ => ⟨rfl, by omega, fun c => nx _ ?_, fun c => ⟨Or.inl rfl, by omega, fun c2 => nx _ ?_, fun c2 => ⟨fun c3 => nx _ ?_, fun c3 => ⟨rfl, by omega, by omega, ?_⟩⟩⟩⟩⟩
          · rw [longF_s, if_neg (fun z => z.1 (by omega))]
          · rw [longF_s, if_neg (fun z => c2 ((hv i (by omega)).mpr z.2.1))]
          · rw [longF_s, if_pos ⟨by omega, (hv i (by omega)).mp (Decidable.not_not.mp c2), Or.inl (by omega)⟩]
          · have e10b : mA m2 (b + 21) (longF (yX Z) seen i).toNat = yX Z (longF (yX Z) seen i).toNat 10 := (g.2.2.2.2.1 (longF (yX Z) seen i).toNat (by omega)).1 10 (by omega)
            rw [e10b]
            refine ⟨fun c4 => nx _ ?_, fun c4 => nx _ ?_⟩
            · rw [longF_s, if_neg (fun z => by rcases z.2.2 with z | z <;> omega)]
            · rw [longF_s, if_pos ⟨by omega, (hv i (by omega)).mp (Decidable.not_not.mp c2), Or.inr (by omega)⟩]
      refine bX11_giveOut_7 ⟨g.1.1, ?_⟩
      rw [hS, eS]
      exact ⟨fun z => absurd z (by omega), fun _ => li (yS Z) 0 (by omega)⟩
  exact lo (yS Y) 0 m1 Y 0 _ _ (by omega) rfl h1 hg (by omega) ⟨kA.1, kA.2, by omega⟩ (fun i hi => ⟨fun _ => and0 i hi, fun _ => vA i⟩) f1 hQ
end ZRG
