/-! the flaw, the checksum -/
def colF (H : Nat → Nat → Int) (c : Nat) : Nat → Int
  | 0 => 0
  | i + 1 => wr (colF H c i + H i c)
def dgF (f : Nat → Int) : Nat → Int → Int
  | 0, d => d
  | k + 1, d => wl (wl (dgF f k d * 31) + f k)
def dg2 (g : Nat → Nat → Int) (w : Nat) : Nat → Int → Int
  | 0, d => d
  | i + 1, d => dgF (g i) w (dg2 g w i d)
def dgS (x : Nat → Int) (d : Int) : Int := dgF (fun k => x (23 + k)) 3 (dgF (fun k => x (20 + k)) 3 (dgF x 15 d))
def dg3 (x : Nat → Nat → Int) : Nat → Int → Int
  | 0, d => d
  | i + 1, d => dgS (x i) (dg3 x i d)
def aDigest (B : zB) : Int := dg2 (yH (bY B)) 6 (keptF (bY B)).toNat (dg3 (yX (bY B)) (yS (bY B)) (dg2 (frT (bY B)) 3 5 (dg2 (fun k => pkT (yY (bY B) k)) 5 (yN (bY B)) (dg2 (fun i => plT (bP B i)) 4 6 (dgF (ctT (bY B)) 9 467)))))
def aFlaw (B : zB) : UInt64 := if colF (yH (bY B)) 2 (keptF (bY B)).toNat = 0 then FP.dconst0 else FP.ddiv (FP.i2d (Int32.ofInt (colF (yH (bY B)) 3 (keptF (bY B)).toNat))) (FP.i2d (Int32.ofInt (colF (yH (bY B)) 2 (keptF (bY B)).toNat)))
section ZBH
variable {xs : Nat → Int} {xl d : Nat} {m : zM} {Q : zRes → zM → Prop}
theorem C_bFlaw {P x : Nat} {B : zB} (h : Bd P m x B) (hg : 0 ≤ yG (bY B) 1) (hN : colF (yH (bY B)) 2 (keptF (bY B)).toNat ≠ 0 → vf_n64 (FP.ddiv (FP.i2d (Int32.ofInt (colF (yH (bY B)) 3 (keptF (bY B)).toNat))) (FP.i2d (Int32.ofInt (colF (yH (bY B)) 2 (keptF (bY B)).toNat))))) (hQ : Q (.inl (some (zD (aFlaw B)))) m) : zC xs xl (d + 2) 124 [zR x] m Q := by
  obtain ⟨h1, h2, h3, h4, ⟨p, h5⟩, h6⟩ := id h
  have hk : 0 ≤ keptF (bY B) ∧ keptF (bY B) ≤ 40 := by unfold keptF; split <;> omega
  have hH := h5.2.2.2.2.2
  unfold aFlaw at hQ
  have lp : ∀ (r i : Nat), i + r = (keptF (bY B)).toNat → zW xs xl (d + 1) cX10_flaw 10 (some .double) false [] 6 [zR x, zI (colF (yH (bY B)) 3 i), zI (colF (yH (bY B)) 2 i), zI (i : Int)] [] m Q := by
    intro r
    induction r with
    | zero =>
      intro i e
      have ei : i = (keptF (bY B)).toNat := by omega
      subst ei
      refine bX10_flaw_6 ⟨h1.1.1, ?_⟩
      rw [h1.1.2.2.2.2.1]
      refine ⟨h5.1.1, C_kept h5 ⟨_, rfl, fun _ => ⟨fun c => ⟨hN c, ?_⟩, fun c => ?_⟩, fun z => absurd (by omega) z⟩⟩
      · rwa [if_neg c] at hQ
      · rwa [if_pos (Decidable.not_not.mp c)] at hQ
    | succ r ih =>
      intro i e
      obtain ⟨r1, r2, r3, r4⟩ := hH.2 i (by omega)
      refine bX10_flaw_6 ⟨h1.1.1, ?_⟩
      rw [h1.1.2.2.2.2.1]
      refine ⟨h5.1.1, C_kept h5 ⟨_, rfl, fun z => absurd z (by omega), fun _ => ⟨h1.1.1, ?_⟩⟩⟩
      rw [h1.1.2.2.2.2.1, h5.1.2.2.2.2.2.1, Int.toNat_natCast, r1, hH.1.1, hH.1.2, r2, r3, r4 (by omega) 2 (by omega), r4 (by omega) 3 (by omega), wr_s (by omega)]
      exact ⟨h5.1.1, by decide, by omega, rfl, by decide, by decide, ih (i + 1) (by omega)⟩
  exact bX10_flaw_0 (lp (keptF (bY B)).toNat 0 (by omega))
theorem C_dgSlip {a p : Nat} {x : Nat → Int} {d0 : Int} (h : Sl m a p x) (hf : flagOk x) (hQ : Q (.inl (some (zL (dgS x d0)))) m) : zC xs xl (d + 2) 126 [zL d0, zR a] m Q := by
  have hp := h.2.2
  unfold Pc at hp
  obtain ⟨⟨g1, g2, g3, g4, g5, g6, g7⟩, i0, ⟨b0, b1, b2⟩, t0, t1, t2⟩ := hp
  have hb : ∀ j, j < 3 → mA m (a + 1 + 1) j = x (20 + j) := fun j hj => by
    have ej : j = 0 ∨ j = 1 ∨ j = 2 := by omega
    rcases ej with e | e | e <;> rw [e]
    · exact b0
    · exact b1
    · exact b2
  have ht : ∀ j, j < 3 → mA m (a + 1 + 2) j = x (23 + j) := fun j hj => by
    have ej : j = 0 ∨ j = 1 ∨ j = 2 := by omega
    rcases ej with e | e | e <;> rw [e]
    · exact t0
    · exact t1
    · exact t2
  have l3 : ∀ (r k : Nat) (u1 u2 : zV), k + r = 3 → zW xs xl (d + 1) cX10_digestOfSlip 10 (some .long) false [] 68 [zL d0, u1, zR a, zL (dgF (fun k => x (23 + k)) k (dgF (fun k => x (20 + k)) 3 (dgF x 15 d0))), u2, zI (k : Int)] [] m Q := by
    intro r
    induction r with
    | zero =>
      intro k u1 u2 e
      rw [show k = 3 by omega]
      exact bX10_digestOfSlip_68 ⟨fun _ => hQ, fun z => absurd (by omega) z⟩
    | succ r ih =>
      intro k u1 u2 e
      refine bX10_digestOfSlip_68 ⟨fun z => absurd z (by omega), fun _ => ⟨h.1.1, ?_⟩⟩
      rw [h.1.2.1, g3, g1, g5, g7, Int.toNat_natCast, ht k (by omega), wr_s (by omega)]
      exact ⟨rfl, rfl, by omega, ih (k + 1) _ _ (by omega)⟩
  have l2 : ∀ (r k : Nat) (u1 u2 : zV), k + r = 3 → zW xs xl (d + 1) cX10_digestOfSlip 10 (some .long) false [] 35 [zL d0, u1, zR a, zL (dgF (fun k => x (20 + k)) k (dgF x 15 d0)), u2, zI (k : Int)] [] m Q := by
    intro r
    induction r with
    | zero =>
      intro k u1 u2 e
      rw [show k = 3 by omega]
      exact bX10_digestOfSlip_35 ⟨fun _ => l3 3 0 _ _ (by omega), fun z => absurd (by omega) z⟩
    | succ r ih =>
      intro k u1 u2 e
      refine bX10_digestOfSlip_35 ⟨fun z => absurd z (by omega), fun _ => ⟨h.1.1, ?_⟩⟩
      rw [h.1.2.1, g2, g1, g4, g6, Int.toNat_natCast, hb k (by omega), wr_s (by omega)]
      exact ⟨rfl, rfl, by omega, ih (k + 1) _ _ (by omega)⟩
  have l1 : ∀ (r k : Nat) (u1 u2 : zV), k + r = 15 → zW xs xl (d + 1) cX10_digestOfSlip 10 (some .long) false [] 5 [zL d0, u1, zR a, zL (dgF x k d0), u2, zI (k : Int)] [] m Q := by
    intro r
    induction r with
    | zero =>
      intro k u1 u2 e
      rw [show k = 15 by omega]
      exact bX10_digestOfSlip_5 ⟨fun _ => l2 3 0 _ _ (by omega), fun z => absurd (by omega) z⟩
    | succ r ih =>
      intro k u1 u2 e
      refine bX10_digestOfSlip_5 ⟨fun z => absurd z (by omega), fun _ => ⟨h.1.1, C_slTell h hf (by omega) ⟨_, rfl, ?_⟩⟩⟩
      rw [wr_s (by omega)]
      exact ih (k + 1) _ _ (by omega)
  exact bX10_digestOfSlip_0 (l1 15 0 _ _ (by omega))
theorem C_bDigest {P x : Nat} {B : zB} (h : Bd P m x B) (hg : 0 ≤ yG (bY B) 1) (ho : stOk (yN (bY B)) (yY (bY B))) (hf : ∀ i, i < yS (bY B) → flagOk (yX (bY B) i)) (hQ : Q (.inl (some (zL (aDigest B)))) m) : zC xs xl (d + 4) 125 [zR x] m Q := by
  obtain ⟨h1, h2, h3, h4, ⟨p, h5⟩, h6⟩ := id h
  have hk : 0 ≤ keptF (bY B) ∧ keptF (bY B) ≤ 40 := by unfold keptF; split <;> omega
  have hH := h5.2.2.2.2.2
  have hst := h5.2.2.1
  have hn := hst.2.1.2.2
  have hs6 : yS (bY B) ≤ 6 := h5.2.1.2.2.2.2.1
  unfold aDigest at hQ
  generalize e1 : dgF (ctT (bY B)) 9 467 = d1 at hQ
  generalize e2 : dg2 (fun i => plT (bP B i)) 4 6 d1 = d2 at hQ
  generalize e3 : dg2 (fun k => pkT (yY (bY B) k)) 5 (yN (bY B)) d2 = d3 at hQ
  generalize e4 : dg2 (frT (bY B)) 3 5 d3 = d4 at hQ
  generalize e5 : dg3 (yX (bY B)) (yS (bY B)) d4 = d5 at hQ
  -- hulls
  have l6 : ∀ (r i : Nat) (u1 u2 : zV), i + r = (keptF (bY B)).toNat → zW xs xl (d + 3) cX10_digest 10 (some .long) false [] 225 [zR x, zL (dg2 (yH (bY B)) 6 i d5), u1, zI (i : Int), u2] [] m Q := by
    intro r
    induction r with
    | zero =>
      intro i u1 u2 e
      have ei : i = (keptF (bY B)).toNat := by omega
      subst ei
      refine bX10_digest_225 ⟨h1.1.1, ?_⟩
      rw [h1.1.2.2.2.2.1]
      exact ⟨h5.1.1, C_kept h5 ⟨_, rfl, fun _ => hQ, fun z => absurd (by omega) z⟩⟩
    | succ r ih =>
      intro i u1 u2 e
      obtain ⟨r1, r2, r3, r4⟩ := hH.2 i (by omega)
      have li : ∀ (r j : Nat) (u1 : zV), j + r = 6 → zW xs xl (d + 3) cX10_digest 10 (some .long) false [] 239 [zR x, zL (dgF (yH (bY B) i) j (dg2 (yH (bY B)) 6 i d5)), u1, zI (i : Int), zI (j : Int)] [] m Q := by
        intro r
        induction r with
        | zero =>
          intro j u1 e
          rw [show j = 6 by omega]
          refine bX10_digest_239 ⟨fun _ => ?_, fun z => absurd (by omega) z⟩
          rw [wr_s (by omega)]
          exact ih (i + 1) _ _ (by omega)
        | succ r ihi =>
          intro j u1 e
          refine bX10_digest_239 ⟨fun z => absurd z (by omega), fun _ => ⟨h1.1.1, ?_⟩⟩
          rw [h1.1.2.2.2.2.1, h5.1.2.2.2.2.2.1, Int.toNat_natCast, Int.toNat_natCast, r1, hH.1.1, hH.1.2, r2, r3, r4 (by omega) j (by omega), wr_s (by omega)]
          exact ⟨h5.1.1, by decide, by omega, rfl, by omega, ihi (j + 1) _ (by omega)⟩
      refine bX10_digest_225 ⟨h1.1.1, ?_⟩
      rw [h1.1.2.2.2.2.1]
      exact ⟨h5.1.1, C_kept h5 ⟨_, rfl, fun z => absurd z (by omega), fun _ => li 6 0 _ (by omega)⟩⟩
  -- slips
  have l5 : ∀ (r i : Nat) (u1 u2 : zV), i + r = yS (bY B) → zW xs xl (d + 3) cX10_digest 10 (some .long) false [] 192 [zR x, zL (dg3 (yX (bY B)) i d4), u1, zI (i : Int), u2] [] m Q := by
    intro r
    induction r with
    | zero =>
      intro i u1 u2 e
      have ei : i = yS (bY B) := by omega
      subst ei
      refine bX10_digest_192 ⟨h1.1.1, ?_⟩
      rw [h1.1.2.2.2.2.1, h5.2.1.2.1]
      refine ⟨h5.1.1, fun _ => ?_, fun z => absurd (by omega) z⟩
      rw [e5]
      exact l6 (keptF (bY B)).toNat 0 _ _ (by omega)
    | succ r ih =>
      intro i u1 u2 e
      obtain ⟨q1, q2, q3⟩ := h5.sl (i := i) (by omega)
      have hS := h5.2.2.2.2.1.1
      refine bX10_digest_192 ⟨h1.1.1, ?_⟩
      rw [h1.1.2.2.2.2.1, h5.2.1.2.1, h5.1.2.2.2.2.1, Int.toNat_natCast, q1, hS.1, hS.2, wr_s (by omega)]
      exact ⟨h5.1.1, fun z => absurd z (by omega), fun _ => ⟨by decide, by omega, C_dgSlip q2 (hf i (by omega)) ⟨_, rfl, ih (i + 1) _ _ (by omega)⟩⟩⟩
  -- frames
  have l4 : ∀ (r i : Nat) (u1 u2 : zV), i + r = 5 → zW xs xl (d + 3) cX10_digest 10 (some .long) false [] 146 [zR x, zL (dg2 (frT (bY B)) 3 i d3), u1, zI (i : Int), u2] [] m Q := by
    intro r
    induction r with
    | zero =>
      intro i u1 u2 e
      rw [show i = 5 by omega, e4]
      exact bX10_digest_146 ⟨fun _ => l5 (yS (bY B)) 0 _ _ (by omega), fun z => absurd (by omega) z⟩
    | succ r ih =>
      intro i u1 u2 e
      have li : ∀ (r j : Nat) (u1 : zV), j + r = 3 → zW xs xl (d + 3) cX10_digest 10 (some .long) false [] 154 [zR x, zL (dgF (frT (bY B) i) j (dg2 (frT (bY B)) 3 i d3)), u1, zI (i : Int), zI (j : Int)] [] m Q := by
        intro r
        induction r with
        | zero =>
          intro j u1 e
          rw [show j = 3 by omega]
          refine bX10_digest_154 ⟨fun _ => ?_, fun z => absurd (by omega) z⟩
          rw [wr_s (by omega)]
          exact ih (i + 1) _ _ (by omega)
        | succ r ihi =>
          intro j u1 e
          refine bX10_digest_154 ⟨fun z => absurd z (by omega), fun _ => ⟨h1.1.1, ?_⟩⟩
          rw [h1.1.2.2.2.2.1, wr_s (by omega)]
          exact ⟨h5.1.1, C_frames h5 (by omega) ⟨_, rfl, ihi (j + 1) _ (by omega)⟩⟩
      exact bX10_digest_146 ⟨fun z => absurd z (by omega), fun _ => li 3 0 _ (by omega)⟩
  -- planks
  have l3 : ∀ (r i : Nat) (u1 u2 : zV), i + r = yN (bY B) → zW xs xl (d + 3) cX10_digest 10 (some .long) false [] 84 [zR x, zL (dg2 (fun k => pkT (yY (bY B) k)) 5 i d2), u1, zI (i : Int), u2] [] m Q := by
    intro r
    induction r with
    | zero =>
      intro i u1 u2 e
      have ei : i = yN (bY B) := by omega
      subst ei
      refine bX10_digest_84 ⟨h1.1.1, ?_⟩
      rw [h1.1.2.2.2.2.1, h5.1.2.1, hst.2.1.1]
      refine ⟨h5.1.1, hst.1.1, fun _ => ?_, fun z => absurd (by omega) z⟩
      rw [e3]
      exact l4 5 0 _ _ (by omega)
    | succ r ih =>
      intro i u1 u2 e
      have pk := hst.at (i := i) (by omega) (by omega)
      have li : ∀ (r j : Nat) (u1 : zV), j + r = 5 → zW xs xl (d + 3) cX10_digest 10 (some .long) false [] 101 [zR x, zL (dgF (pkT (yY (bY B) i)) j (dg2 (fun k => pkT (yY (bY B) k)) 5 i d2)), u1, zI (i : Int), zI (j : Int)] [] m Q := by
        intro r
        induction r with
        | zero =>
          intro j u1 e
          rw [show j = 5 by omega]
          refine bX10_digest_101 ⟨fun _ => ?_, fun z => absurd (by omega) z⟩
          rw [wr_s (by omega)]
          exact ih (i + 1) _ _ (by omega)
        | succ r ihi =>
          intro j u1 e
          refine bX10_digest_101 ⟨fun z => absurd z (by omega), fun _ => ⟨h1.1.1, ?_⟩⟩
          rw [h1.1.2.2.2.2.1, h5.1.2.1, hst.1.2.1, Int.toNat_natCast, pk.1, hst.1.2.2.1, hst.1.2.2.2.1, wr_s (by omega)]
          exact ⟨h5.1.1, hst.1.1, by decide, by omega, pk.2.1.1, C_pkTell pk.2 (ho i (by omega)) ⟨_, rfl, ihi (j + 1) _ (by omega)⟩⟩
      refine bX10_digest_84 ⟨h1.1.1, ?_⟩
      rw [h1.1.2.2.2.2.1, h5.1.2.1, hst.2.1.1]
      exact ⟨h5.1.1, hst.1.1, fun z => absurd z (by omega), fun _ => li 5 0 _ (by omega)⟩
  -- plans
  have l2 : ∀ (r i : Nat) (u1 u2 : zV), i + r = 6 → zW xs xl (d + 3) cX10_digest 10 (some .long) false [] 36 [zR x, zL (dg2 (fun i => plT (bP B i)) 4 i d1), u1, zI (i : Int), u2] [] m Q := by
    intro r
    induction r with
    | zero =>
      intro i u1 u2 e
      rw [show i = 6 by omega, e2]
      exact bX10_digest_36 ⟨fun _ => l3 (yN (bY B)) 0 _ _ (by omega), fun z => absurd (by omega) z⟩
    | succ r ih =>
      intro i u1 u2 e
      have hp := h4.2 i (by omega)
      have li : ∀ (r j : Nat) (u1 : zV), j + r = 4 → zW xs xl (d + 3) cX10_digest 10 (some .long) false [] 45 [zR x, zL (dgF (plT (bP B i)) j (dg2 (fun i => plT (bP B i)) 4 i d1)), u1, zI (i : Int), zI (j : Int)] [] m Q := by
        intro r
        induction r with
        | zero =>
          intro j u1 e
          rw [show j = 4 by omega]
          refine bX10_digest_45 ⟨fun _ => ?_, fun z => absurd (by omega) z⟩
          rw [wr_s (by omega)]
          exact ih (i + 1) _ _ (by omega)
        | succ r ihi =>
          intro j u1 e
          refine bX10_digest_45 ⟨fun z => absurd z (by omega), fun _ => ⟨h1.1.1, ?_⟩⟩
          rw [h1.1.2.2.2.1, h4.1.1, h4.1.2, Int.toNat_natCast, wr_s (by omega)]
          exact ⟨by decide, by omega, hp.1.1, C_plTell hp.1.1 hp.1.2.1 hp.1.2.2 ⟨_, rfl, ihi (j + 1) _ (by omega)⟩⟩
      exact bX10_digest_36 ⟨fun z => absurd z (by omega), fun _ => li 4 0 _ (by omega)⟩
  have l1 : ∀ (r i : Nat) (u1 u2 : zV), i + r = 9 → zW xs xl (d + 3) cX10_digest 10 (some .long) false [] 6 [zR x, zL (dgF (ctT (bY B)) i 467), u1, zI (i : Int), u2] [] m Q := by
    intro r
    induction r with
    | zero =>
      intro i u1 u2 e
      rw [show i = 9 by omega, e1]
      exact bX10_digest_6 ⟨fun _ => l2 6 0 _ _ (by omega), fun z => absurd (by omega) z⟩
    | succ r ih =>
      intro i u1 u2 e
      refine bX10_digest_6 ⟨fun z => absurd z (by omega), fun _ => ⟨h1.1.1, ?_⟩⟩
      rw [h1.1.2.2.2.2.1, wr_s (by omega)]
      exact ⟨h5.1.1, C_count h5 ⟨_, rfl, ih (i + 1) _ _ (by omega)⟩⟩
  exact bX10_digest_0 (l1 9 0 _ _ (by omega))
end ZBH
