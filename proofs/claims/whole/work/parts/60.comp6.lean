/-! going through a plan -/
abbrev zRs : Type := (Int × Nat) ⊕ (Nat × zPs)
def repF (body : Nat → zPs → zRs) : Nat → Nat → zPs → zRs
  | 0, i, st => .inr (i, st)
  | r + 1, i, st => match body i st with
    | .inl e => .inl e
    | .inr (j, st') => if r = 0 then .inr (j, st') else repF body r i st'
def itF (t : Nat → Int) (n k : Nat) (body : Nat → zPs → zRs) : Nat → Nat → zPs → zRs
  | 0, i, st => .inr (i, st)
  | f + 1, i, st => if (tkF t n i).1 = 46 ∨ (tkF t n i).1 = 125 then .inr (i, st)
    else if (tkF t n i).2.1 = 8 then
      (if k = 0 then .inl (4, (tkF t n i).2.2.1) else if ¬ allowB 8 (tkF t n (i + 1)).2.1 then .inl (2, (tkF t n (i + 1)).2.2.1)
       else match repF body (tkF t n (i + 1)).2.1.toNat (i + 3) st with
        | .inl e => .inl e
        | .inr (j, st') => itF t n k body f (j + 1) st')
    else match stpF t n i (tkF t n i).2.1 st with
      | .inl e => .inl e
      | .inr st' => itF t n k body f (i + 1 + (formL (tkF t n i).2.1).length) st'
def evF (t : Nat → Int) (n N : Nat) : Nat → Nat → zPs → zRs
  | 0 => itF t n 0 (fun i st => .inr (i, st)) N
  | k + 1 => itF t n (k + 1) (evF t n N k) N
def blkF (t : Nat → Int) (n : Nat) : Nat → Nat → Option Nat
  | 0, _ => none
  | f + 1, i => if (tkF t n i).1 = 46 ∨ (tkF t n i).1 = 125 then some i
    else if (tkF t n i).1 ≠ 115 ∨ (restF t n (formL (tkF t n i).2.1) (i + 1)).1 = false then none
    else if (tkF t n i).2.1 = 8 then (match blkF t n f (i + 3) with
      | some j => if (tkF t n j).1 = 125 then blkF t n f (j + 1) else none
      | none => none)
    else blkF t n f (i + 1 + (formL (tkF t n i).2.1).length)
theorem repF_l {body : Nat → zPs → zRs} {r b : Nat} {st : zPs} {e : Int × Nat} (h : body b st = .inl e) : repF body (r + 1) b st = .inl e := by
  unfold repF
  rw [h]
theorem repF_r0 {body : Nat → zPs → zRs} {b j : Nat} {st st' : zPs} (h : body b st = .inr (j, st')) : repF body (0 + 1) b st = .inr (j, st') := by
  unfold repF
  rw [h]
  rfl
theorem repF_rs {body : Nat → zPs → zRs} {r b j : Nat} {st st' : zPs} (h : body b st = .inr (j, st')) : repF body (r + 1 + 1) b st = repF body (r + 1) b st' := by
  show (match body b st with
    | .inl e => (.inl e : zRs)
    | .inr (j, st') => if r + 1 = 0 then .inr (j, st') else repF body (r + 1) b st') = _
  rw [h]
  exact if_neg (by omega)
theorem blkF_le {t : Nat → Int} {n : Nat} : ∀ {f i j : Nat}, blkF t n f i = some j → i ≤ j
  | 0, _, _, h => absurd h (by unfold blkF; exact fun z => by cases z)
  | f + 1, i, j, h => by
    unfold blkF at h
    split at h
    · rw [Option.some.inj h]; exact Nat.le_refl _
    · split at h
      · cases h
      · split at h
        · split at h
          · rename_i j1 h1
            split at h
            · have := blkF_le h1
              have := blkF_le h
              omega
            · cases h
          · cases h
        · have := blkF_le h
          omega
theorem blkF_mono {t : Nat → Int} {n : Nat} : ∀ {f g i j : Nat}, f ≤ g → blkF t n f i = some j → blkF t n g i = some j
  | 0, _, _, _, _, h => absurd h (by unfold blkF; exact fun z => by cases z)
  | f + 1, 0, _, _, hg, _ => absurd hg (by omega)
  | f + 1, g + 1, i, j, hg, h => by
    unfold blkF at h ⊢
    split at h
    · rename_i c; rw [if_pos c]; exact h
    · rename_i c
      rw [if_neg c]
      split at h
      · cases h
      · rename_i c2
        rw [if_neg c2]
        split at h
        · rename_i c3
          rw [if_pos c3]
          split at h
          · rename_i j1 h1
            rw [blkF_mono (by omega) h1]
            split at h
            · rename_i c4
              show (if (tkF t n j1).1 = 125 then blkF t n g (j1 + 1) else none) = some j
              rw [if_pos c4]
              exact blkF_mono (by omega) h
            · cases h
          · cases h
        · rename_i c3
          rw [if_neg c3]
          exact blkF_mono (by omega) h
theorem stpF_inr {t : Nat → Int} {n i : Nat} {w : Int} {st st' : zPs} (h : stpF t n i w st = .inr st') : st'.1.length = st.1.length + 1 ∧ st.1.length < 60 := by
  unfold stpF at h
  split at h
  · cases h
  · split at h
    · cases h
    · split at h
      · cases h
      · have e := Sum.inr.inj h
        rw [← e]
        refine ⟨?_, by omega⟩
        show (st.1 ++ [_]).length = _
        rw [List.length_append]; rfl
def RepG (P c tp : Nat) (t : Nat → Int) (n : Nat) (m0 m : zM) (i : Nat) (st : zPs) (q pd : Nat) (lp lr : Nat → Nat) : Prop := Cp m c tp ∧ (∃ k v s, Sc m (c + 5) tp (plF t n i) k v s) ∧ CSt m c st.2 q ∧ PlT P m pd st.1 ∧ mI m 74 c = -1 ∧ (∀ j, j < q → mA m (c + 1) j = ((plF t n (lp j) : Nat) : Int) ∧ mA m (c + 2) j = ((lr j : Nat) : Int)) ∧ Fr (cRg c pd) st.1.length (4 * st.1.length) m0 m ∧ st.1.length ≤ 60
def SimP (xs : Nat → Int) (xl d P c tp : Nat) (t : Nat → Int) (n pd : Nat) (m0 : zM) (Q : zRes → zM → Prop) (C q : Nat) (blk : Nat → Option Nat) (body : Nat → zPs → zRs) : Prop := ∀ (i j : Nat) (st : zPs) (m : zM) (a : Nat) (u : zV) (lp lr : Nat → Nat), blk i = some j → RepG P c tp t n m0 m i st q pd lp lr → a + j * C < 1000000 + i * C → (∀ (e : Int) (p : Nat) (m' : zM), body i st = .inl (e, p) → e ≠ 0 → CS m' c tp → mI m' 74 c = p → Fr (cRg c pd) 60 240 m0 m' → Q (.inl (some (zI e))) m') → (∀ (st' : zPs) (m' : zM) (a' : Nat) (u' : zV), body i st = .inr (j, st') → RepG P c tp t n m0 m' j st' q pd lp lr → a' + i * C ≤ a + j * C → zW xs xl (d + 9) cX1_goThrough 1 (some .int) false [] 30 [zR c, zR pd, zI (a' : Int), u'] [] m' Q) → zW xs xl (d + 9) cX1_goThrough 1 (some .int) false [] 30 [zR c, zR pd, zI (a : Int), u] [] m Q
theorem RepG.tp {P c tp n i q pd : Nat} {t : Nat → Int} {m0 m : zM} {st : zPs} {lp lr : Nat → Nat} (h : RepG P c tp t n m0 m i st q pd lp lr) (hT : Tp m0 tp n t) (ha : tp + 2 ≤ c ∨ c + 6 ≤ tp) (hP : tp + 2 ≤ P) : Tp m tp n t := by
  obtain ⟨h1, h2, h3, h4, h5, h6, f, h8⟩ := h
  have hpd := h4.1.1.1
  have hz := hT.1.2.2.2.2
  exact hT.mv f.2.1 (f.1 tp (by omega) (fun z => by unfold cRg rg at z; omega)) (f.1 (tp + 1) (by omega) (fun z => by unfold cRg rg at z; omega))
theorem RepG.nx {P c tp n i i' q pd : Nat} {t : Nat → Int} {m0 m m2 : zM} {st : zPs} {lp lr : Nat → Nat} {k v : Int} {s : Nat} (h : RepG P c tp t n m0 m i st q pd lp lr) (hcP : c + 6 ≤ P) (g : Sc m2 (c + 5) tp (plF t n i') k v s) (f2 : Fr (rg (c + 5) (c + 5 + 1)) 0 0 m m2) : RepG P c tp t n m0 m2 i' st q pd lp lr := by
  obtain ⟨h1, h2, h3, h4, h5, h6, f, h8⟩ := h
  have hz := h1.1.2.2.2.2.2.2.2
  have e : ∀ b, c ≤ b → b < c + 5 → Eqv m m2 b := fun b b1 b2 => f2.1 b (by omega) (fun z => by unfold rg at z; omega)
  exact ⟨h1.fr f2 (by omega), ⟨k, v, s, g⟩, h3.mv (fun f _ => (e c (by omega) (by omega)).1 f), h4.mv f2 (by omega), ((e c (by omega) (by omega)).1 74).trans h5, fun j hj => by rw [(e (c + 1) (by omega) (by omega)).2.2.1, (e (c + 2) (by omega) (by omega)).2.2.1]; exact h6 j hj, f.tr (fr_c f2 (by omega) (by omega)) (by omega) (by omega), h8⟩
theorem RepG.cg {P c tp n i q pd : Nat} {t : Nat → Int} {m0 m : zM} {st : zPs} {lp lr lp' lr' : Nat → Nat} (h : RepG P c tp t n m0 m i st q pd lp lr) (e : ∀ j, j < q → lp' j = lp j ∧ lr' j = lr j) : RepG P c tp t n m0 m i st q pd lp' lr' := by
  obtain ⟨h1, h2, h3, h4, h5, h6, f, h8⟩ := h
  exact ⟨h1, h2, h3, h4, h5, fun j hj => by rw [(e j hj).1, (e j hj).2]; exact h6 j hj, f, h8⟩
section ZCU
variable {xs : Nat → Int} {xl d : Nat} {Q : zRes → zM → Prop}
theorem simRounds {P c tp n pd q C b j1 : Nat} {t : Nat → Int} {m0 : zM} {blk : Nat → Option Nat} {body : Nat → zPs → zRs} (hT : Tp m0 tp n t) (ht : ∀ i, i < n → 0 ≤ t i) (ha : tp + 2 ≤ c ∨ c + 6 ≤ tp) (hcP : c + 6 ≤ P) (htP : tp + 2 ≤ P) (hq : q < 3) (hb : SimP xs xl d P c tp t n pd m0 Q C (q + 1) blk body) (hblk : blk b = some j1) (h125 : (tkF t n j1).1 = 125) (B : Nat) (hB : j1 * C = b * C + B) : ∀ (r : Nat), r < 9 → ∀ (st : zPs) (m : zM) (a : Nat) (u : zV) (lp lr : Nat → Nat), RepG P c tp t n m0 m b st (q + 1) pd lp lr → lp q = b → lr q = r + 1 → a + (r + 1) * (B + 1) < 1000000 → (∀ (e : Int) (p : Nat) (m' : zM), repF body (r + 1) b st = .inl (e, p) → e ≠ 0 → CS m' c tp → mI m' 74 c = p → Fr (cRg c pd) 60 240 m0 m' → Q (.inl (some (zI e))) m') → (∀ (st' : zPs) (m' : zM) (a' : Nat) (u' : zV), repF body (r + 1) b st = .inr (j1, st') → RepG P c tp t n m0 m' (j1 + 1) st' q pd lp lr → a' ≤ a + (r + 1) * (B + 1) → zW xs xl (d + 9) cX1_goThrough 1 (some .int) false [] 30 [zR c, zR pd, zI (a' : Int), u'] [] m' Q) → zW xs xl (d + 9) cX1_goThrough 1 (some .int) false [] 30 [zR c, zR pd, zI (a : Int), u] [] m Q := by
  intro r
  induction r with
  | zero =>
    intro hr9 st m a u lp lr R hlp hlr hA hE hO
    refine hb b j1 st m a u lp lr hblk R (by omega) (fun e p m' he => hE e p m' (repF_l he)) (fun st' m' a' u' he R' ha' => ?_)
    rw [repF_r0 he] at hO
    have hT' := R'.tp hT ha htP
    obtain ⟨h1, ⟨k, v, s, h2⟩, h3⟩ := id R'
    refine bX1_goThrough_30 ⟨fun z => absurd z (by omega), fun _ => ⟨h1.1.1, ?_⟩⟩
    rw [h1.1.2.2.1]
    refine ⟨h2.1, C_nextT h2 hT' ht (by omega) (fun m2 g2 f2 => ?_)⟩
    have R2 := R'.nx hcP g2 f2
    obtain ⟨c1, c2, c3, c4, c5, c6, c7, c8⟩ := id R2
    refine ⟨rfl, c1.1.1, ?_⟩
    rw [c1.1.2.2.1, g2.2.2.2.1, h125]
    refine ⟨g2.1, fun _ => ⟨fun z => absurd rfl z, fun _ => ?_⟩, fun z => absurd (by decide) z⟩
    have cq := c6 q (by omega)
    rw [hlp, hlr] at cq
    have hz := c1.1.2.2.2.2.2.2.2
    refine C_endR (r := 0) (b := plF t n b) c1 g2 c3 hq cq.2 (by omega) cq.1 (fun _ m3 d1 d2 d3 d4 d5 f3 => ⟨rfl, ?_⟩) (fun z => absurd rfl z)
    rw [wr_s (by omega)]
    exact hO st' m3 (a' + 1) _ rfl ⟨d1, ⟨_, _, _, d2⟩, d3, c4.mv f3 (by omega), d4.trans c5, fun j hj => by rw [(d5 j (by omega)).1, (d5 j (by omega)).2]; exact c6 j (by omega), c7.tr (fr_c f3 (by omega) (by omega)) (by omega) (by omega), c8⟩ (by omega)
  | succ r ih =>
    intro hr9 st m a u lp lr R hlp hlr hA hE hO
    have e2 : (r + 1 + 1) * (B + 1) = (r + 1) * (B + 1) + (B + 1) := Nat.succ_mul _ _
    refine hb b j1 st m a u lp lr hblk R (by omega) (fun e p m' he => hE e p m' (repF_l he)) (fun st' m' a' u' he R' ha' => ?_)
    rw [repF_rs he] at hE hO
    have hT' := R'.tp hT ha htP
    obtain ⟨h1, ⟨k, v, s, h2⟩, h3⟩ := id R'
    refine bX1_goThrough_30 ⟨fun z => absurd z (by omega), fun _ => ⟨h1.1.1, ?_⟩⟩
    rw [h1.1.2.2.1]
    refine ⟨h2.1, C_nextT h2 hT' ht (by omega) (fun m2 g2 f2 => ?_)⟩
    have R2 := R'.nx hcP g2 f2
    obtain ⟨c1, c2, c3, c4, c5, c6, c7, c8⟩ := id R2
    refine ⟨rfl, c1.1.1, ?_⟩
    rw [c1.1.2.2.1, g2.2.2.2.1, h125]
    refine ⟨g2.1, fun _ => ⟨fun z => absurd rfl z, fun _ => ?_⟩, fun z => absurd (by decide) z⟩
    have cq := c6 q (by omega)
    rw [hlp, hlr] at cq
    have hz := c1.1.2.2.2.2.2.2.2
    refine C_endR (r := r + 1) (b := plF t n b) c1 g2 c3 hq cq.2 (by omega) cq.1 (fun z => absurd z (by omega)) (fun _ m3 d1 d2 d3 d4 d5 d6 d7 f3 => ⟨rfl, ?_⟩)
    rw [wr_s (by omega)]
    refine ih (by omega) st' m3 (a' + 1) _ lp (up1 lr q (r + 1)) ⟨d1, ⟨_, _, _, d2⟩, d3, c4.mv f3 (by omega), d4.trans c5, fun j hj => ?_, c7.tr (fr_c f3 (by omega) (by omega)) (by omega) (by omega), c8⟩ hlp (if_pos rfl) (by omega) hE (fun st2 m4 a4 u4 q1 q2 q3 => hO st2 m4 a4 u4 q1 (q2.cg (fun j hj => ⟨rfl, (if_neg (by omega) : up1 lr q (r + 1) j = lr j).symm⟩)) (by omega))
    by_cases cj : j = q
    · subst cj
      rw [d6, d7, hlp, show up1 lr j (r + 1) j = r + 1 from if_pos rfl]
      exact ⟨rfl, rfl⟩
    · rw [(d5 j cj).1, (d5 j cj).2, show up1 lr q (r + 1) j = lr j from if_neg cj]
      exact c6 j hj
theorem simItems {P c tp n pd q k N C C' : Nat} {t : Nat → Int} {m0 : zM} {body : Nat → zPs → zRs} (hT : Tp m0 tp n t) (ht : ∀ i, i < n → 0 ≤ t i) (ha : tp + 2 ≤ c ∨ c + 6 ≤ tp) (hcP : c + 6 ≤ P) (htP : tp + 2 ≤ P) (hkq : k + q = 3) (hC : 1 ≤ C) (hC' : 0 < k → C = 9 * C' ∧ 1 ≤ C') (hb : 0 < k → SimP xs xl d P c tp t n pd m0 Q C' (q + 1) (blkF t n N) body) : ∀ (f : Nat), f ≤ N → SimP xs xl d P c tp t n pd m0 Q C q (blkF t n f) (itF t n k body f) := by
  intro f
  induction f with
  | zero =>
    intro _ i j st m a u lp lr hblk
    unfold blkF at hblk
    cases hblk
  | succ f ih =>
    intro hfN i j st m a u lp lr hblk R hA hE hO
    have hij := blkF_le hblk
    have hijC : i * C ≤ j * C := Nat.mul_le_mul_right C hij
    unfold blkF at hblk
    unfold itF at hE hO
    by_cases c0 : (tkF t n i).1 = 46 ∨ (tkF t n i).1 = 125
    · rw [if_pos c0] at hblk hO
      have ej := Option.some.inj hblk
      subst ej
      exact hO st m a u rfl R (Nat.le_refl _)
    rw [if_neg c0] at hblk hE hO
    by_cases c1 : (tkF t n i).1 ≠ 115 ∨ (restF t n (formL (tkF t n i).2.1) (i + 1)).1 = false
    · rw [if_pos c1] at hblk; cases hblk
    rw [if_neg c1] at hblk
    have hT' := R.tp hT ha htP
    obtain ⟨h1, ⟨k1, v1, s1, h2⟩, h3⟩ := id R
    refine bX1_goThrough_30 ⟨fun z => absurd z (by omega), fun _ => ⟨h1.1.1, ?_⟩⟩
    rw [h1.1.2.2.1]
    refine ⟨h2.1, C_nextT h2 hT' ht (by omega) (fun m2 g2 f2 => ?_)⟩
    have R2 := R.nx hcP g2 f2
    have hT2 := R2.tp hT ha htP
    obtain ⟨d1, d2, d3, d4, d5, d6, d7, d8⟩ := id R2
    have hz := d1.1.2.2.2.2.2.2.2
    refine ⟨rfl, d1.1.1, ?_⟩
    rw [d1.1.2.2.1, g2.2.2.2.1, wr_s (by omega)]
    refine ⟨g2.1, fun _ => ⟨fun _ => ?_, fun z => absurd (Or.inr (Decidable.not_not.mp z)) c0⟩, fun z => absurd (Or.inl (Decidable.not_not.mp z)) c0⟩
    by_cases c8 : (tkF t n i).2.1 = 8
    · rw [if_pos c8] at hblk hE hO
      refine C_doTimes d1 g2 hT2 ht ha d3 c8 (fun hq m3 cs3 e3 f3 => ?_) (fun hq hal m3 cs3 e3 f3 => ?_) (fun hq hal m3 k3 v3 s3 g1 g2' g3 g4 g5 f3 => ?_)
      · rw [if_pos (show k = 0 by omega)] at hE
        exact ⟨_, rfl, fun z => absurd z (by decide), fun _ => hE 4 _ m3 rfl (by decide) cs3 e3 ((d7.tr (fr_c f3 (by omega) (by omega)) (Nat.le_refl _) (Nat.le_refl _)).mono (fun _ _ z => z) (by omega) (by omega))⟩
      · rw [if_neg (show k ≠ 0 by omega), if_pos hal] at hE
        exact ⟨_, rfl, fun z => absurd z (by decide), fun _ => hE 2 _ m3 rfl (by decide) cs3 e3 ((d7.tr (fr_c f3 (by omega) (by omega)) (Nat.le_refl _) (Nat.le_refl _)).mono (fun _ _ z => z) (by omega) (by omega))⟩
      · rw [if_neg (show k ≠ 0 by omega), if_neg (fun z => z hal)] at hE hO
        obtain ⟨hC1, hC2⟩ := hC' (by omega)
        split at hblk
        · rename_i j1 hj1
          by_cases c125 : (tkF t n j1).1 = 125
          · rw [if_pos c125] at hblk
            have hj1' := blkF_mono (show f ≤ N by omega) hj1
            have hle1 := blkF_le hj1
            have hle2 := blkF_le hblk
            have hal2 : 1 ≤ (tkF t n (i + 1)).2.1 ∧ (tkF t n (i + 1)).2.1 ≤ 9 := by
              unfold allowB at hal
              rw [if_neg (by decide), if_neg (by decide), if_pos rfl] at hal
              exact hal
            obtain ⟨r, hr⟩ : ∃ r : Nat, (tkF t n (i + 1)).2.1.toNat = r + 1 := ⟨(tkF t n (i + 1)).2.1.toNat - 1, by omega⟩
            rw [hr] at hE hO
            obtain ⟨w, hw⟩ : ∃ w, j1 = i + 3 + w := ⟨j1 - (i + 3), by omega⟩
            have hB : j1 * C' = (i + 3) * C' + w * C' := by rw [hw, Nat.add_mul]
            have x1 : (j1 + 1) * C = i * C + (w + 4) * C := by rw [hw, show i + 3 + w + 1 = i + (w + 4) by omega, Nat.add_mul]
            have x2 : (w + 4) * C = 9 * (w * C') + 36 * C' := by rw [hC1, Nat.add_mul, Nat.mul_left_comm w 9 C']; omega
            have x3 : (r + 1) * (w * C' + 1) ≤ 9 * (w * C' + 1) := Nat.mul_le_mul_right _ (by omega)
            have x4 : (j1 + 1) * C ≤ j * C := Nat.mul_le_mul_right C hle2
            refine ⟨_, rfl, fun _ => ?_, fun z => absurd rfl z⟩
            refine simRounds hT ht ha hcP htP hq (hb (by omega)) hj1' c125 (w * C') hB r (by omega) st m3 (a + 1) _ (up1 lp q (i + 3)) (up1 lr q (r + 1)) ⟨g1, ⟨_, _, _, g2'⟩, g3, d4.mv f3 (by omega), g4.trans d5, fun jj hjj => ?_, d7.tr (fr_c f3 (by omega) (by omega)) (by omega) (by omega), d8⟩ (if_pos rfl) (if_pos rfl) (by omega) (fun e p m' he => hE e p m' (by rw [he])) (fun st' m' a' u' he R' ha' => ?_)
            · rw [(g5 jj).1, (g5 jj).2]
              by_cases cj : jj = q
              · rw [if_pos cj, if_pos cj, cj, show up1 lp q (i + 3) q = i + 3 from if_pos rfl, show up1 lr q (r + 1) q = r + 1 from if_pos rfl]
                exact ⟨rfl, by omega⟩
              · rw [if_neg cj, if_neg cj, show up1 lp q (i + 3) jj = lp jj from if_neg cj, show up1 lr q (r + 1) jj = lr jj from if_neg cj]
                exact d6 jj (by omega)
            · rw [he] at hE hO
              exact ih (by omega) (j1 + 1) j st' m' a' u' lp lr hblk (R'.cg (fun jj hjj => ⟨(if_neg (by omega) : up1 lp q (i + 3) jj = lp jj).symm, (if_neg (by omega) : up1 lr q (r + 1) jj = lr jj).symm⟩)) (by omega) hE (fun st2 m4 a4 u4 q1 q2 q3 => hO st2 m4 a4 u4 q1 q2 (by omega))
          · rw [if_neg c125] at hblk; cases hblk
        · cases hblk
    · rw [if_neg c8] at hblk hE hO
      have hle := blkF_le hblk
      have x1 : (i + 1 + (formL (tkF t n i).2.1).length) * C = i * C + (1 + (formL (tkF t n i).2.1).length) * C := by rw [Nat.add_assoc, Nat.add_mul]
      have x2 : 1 ≤ (1 + (formL (tkF t n i).2.1).length) * C := Nat.mul_pos (by omega) hC
      have x3 : (i + 1 + (formL (tkF t n i).2.1).length) * C ≤ j * C := Nat.mul_le_mul_right C hle
      refine C_doStep d1 g2 hT2 ht ha hcP d3 d4 c8 (fun e p m3 he hne cs3 e3 f3 => ?_) (fun st' m3 k3 v3 s3 he g1 g2' g3 g4 g5 g6 f3 => ?_)
      · rw [he] at hE
        exact ⟨_, rfl, fun z => absurd z hne, fun _ => hE e p m3 rfl hne cs3 e3 ((d7.tr f3 (Nat.le_refl _) (Nat.le_refl _)).mono (fun _ _ z => z) (by omega) (by omega))⟩
      · have hl := stpF_inr he
        rw [he] at hE hO
        refine ⟨_, rfl, fun _ => ?_, fun z => absurd rfl z⟩
        exact ih (by omega) _ j st' m3 (a + 1) _ lp lr hblk ⟨g1, ⟨_, _, _, g2'⟩, g3, g4, g5.trans d5, fun jj hjj => by rw [(g6 jj).1, (g6 jj).2]; exact d6 jj hjj, d7.tr f3 (by omega) (by omega), by omega⟩ (by omega) hE (fun st2 m4 a4 u4 q1 q2 q3 => hO st2 m4 a4 u4 q1 q2 (by omega))
end ZCU
