/-! the reference's checksum and flaw -/
section ZML
variable {xs : Nat → Int} {xl d : Nat} {m : zM} {Q : zRes → zM → Prop}
theorem M_frameTold {x a k : Nat} {B : zB} (h : Md m x B) (hy : yOk (bY B)) (ha : a < 5) (hk : k < 3) (hQ : Q (.inl (some (zI (frT (bY B) a k)))) m) : zC xs xl (d + 2) 193 [zR x, zI (a : Int), zI (k : Int)] m Q := by
  have hR := h.2.2.2.2.1
  obtain ⟨r1, k1, n1⟩ := hR.1.at (by decide : (711, 6, 20, 5) ∈ rTab)
  have fin : ∀ v, v = frT (bY B) a k → Q (.inl (some (zI v))) m := fun v hv => by rw [hv]; exact hQ
  refine bX12_frameTold_0 ?_
  rw [h.s8, r1, k1, n1, Int.toNat_natCast]
  refine ⟨fun z => ⟨fun z2 => ⟨h.1.1, hR.1.1, R_waiting hR ⟨_, rfl, fin _ ?_⟩⟩, fun z2 => ⟨h.1.1, hR.1.1, R_free hR ha ⟨_, rfl, fin _ ?_⟩⟩⟩, fun z => ⟨h.1.1, hR.1.1, rfl, by omega, fin _ ?_⟩⟩
  · rw [waitR_f (by omega)]
    exact ((if_neg (by omega)).trans (if_neg (by omega))).symm
  · rw [free_eq hy.2.2.1 hy.2.1.1 (fun i hi => (hy.2.1.2.1 i hi).2.2.2.2.2.2.1) ha]
    exact ((if_neg (by omega)).trans (if_pos (by omega))).symm
  · rw [hR.2.2.2.1 a ha]
    exact (if_pos (by omega)).symm
theorem M_plankTold {x a k : Nat} {B : zB} (h : Md m x B) (hy : yOk (bY B)) (haN : a < yN (bY B)) (hk : k < 5) (hQ : Q (.inl (some (zI (pkT (yY (bY B) a) k)))) m) : zC xs xl (d + 3) 189 [zR x, zI (a : Int), zI (k : Int)] m Q := by
  have h60 := hy.1.2
  have hR := h.2.2.2.2.1
  obtain ⟨r1, k1, n1⟩ := hR.1.at (by decide : (706, 1, 20, 60) ∈ rTab)
  obtain ⟨r2, k2, n2⟩ := hR.1.at (by decide : (707, 2, 20, 60) ∈ rTab)
  obtain ⟨r3, k3, n3⟩ := hR.1.at (by decide : (708, 3, 20, 60) ∈ rTab)
  obtain ⟨r4, k4, n4⟩ := hR.1.at (by decide : (709, 4, 20, 60) ∈ rTab)
  have hp := hR.2.2.1 a haN
  obtain ⟨⟨p1, p2, p3, p4, p5⟩, -⟩ := id hp
  have fin : ∀ v, v = pkT (yY (bY B) a) k → Q (.inl (some (zI v))) m := fun v hv => by rw [hv]; exact hQ
  refine bX12_plankTold_0 ?_
  rw [h.s8, r1, k1, n1, r2, k2, n2, r3, k3, n3, r4, k4, n4, Int.toNat_natCast, p1, p2, p3, p4]
  refine ⟨fun z => ⟨fun z2 => ⟨fun z3 => ⟨fun z4 => ⟨h.1.1, hR.1.1, R_clearM hR.1 hp (by omega) (hy.1.1 a haN) ⟨_, rfl, fin _ ?_⟩⟩, fun z4 => ⟨h.1.1, hR.1.1, rfl, by omega, fin _ ?_⟩⟩, fun z3 => ⟨h.1.1, hR.1.1, rfl, by omega, fin _ ?_⟩⟩, fun z2 => ⟨h.1.1, hR.1.1, rfl, by omega, fin _ ?_⟩⟩, fun z => ⟨h.1.1, hR.1.1, rfl, by omega, fin _ ?_⟩⟩
  · exact ((if_neg (by omega)).trans ((if_neg (by omega)).trans ((if_neg (by omega)).trans (if_neg (by omega))))).symm
  · exact ((if_neg (by omega)).trans ((if_neg (by omega)).trans ((if_neg (by omega)).trans (if_pos (by omega))))).symm
  · exact ((if_neg (by omega)).trans ((if_neg (by omega)).trans (if_pos (by omega)))).symm
  · exact ((if_neg (by omega)).trans (if_pos (by omega))).symm
  · exact (if_pos (by omega)).symm
theorem M_kept {x : Nat} {B : zB} (h : Md m x B) (hg : 0 ≤ yG (bY B) 1) (hQ : Q (.inl (some (zI (keptF (bY B))))) m) : zC xs xl (d + 1) 204 [zR x] m Q := by
  have eG : mI m 736 (x + 8) = yG (bY B) 1 := h.2.2.2.2.1.2.1.2.2.2.1
  refine bX12_kept_0 ⟨h.1.1, ?_⟩
  rw [h.s8, eG]
  have ek : (if yG (bY B) 1 < 40 then yG (bY B) 1 else 40) = keptF (bY B) := by
    unfold keptF
    split <;> split <;> omega
  rw [ek]
  exact ⟨h.2.2.2.2.1.1.1, hQ⟩
theorem M_dg6 {x : Nat} {B : zB} {d0 : Int} (h : Md m x B) (hg : 0 ≤ yG (bY B) 1) (hQ : Q (.inl (some (zL (dg2 (yH (bY B)) 6 (keptF (bY B)).toNat d0)))) m) : ∀ (u v : zV), zW xs xl (d + 1) cX12_digest 12 (some .long) false [] 304 [zR x, zL d0, u, zI 0, v] [] m Q := by
  have hk : 0 ≤ keptF (bY B) ∧ keptF (bY B) ≤ 40 := by unfold keptF; split <;> omega
  have hR := h.2.2.2.2.1
  obtain ⟨r1, k1, n1⟩ := hR.1.at (by decide : (739, 30, 20, 240) ∈ rTab)
  have lp : ∀ (n q r : Nat) (u v : zV), n + (6 * q + r) = 6 * (keptF (bY B)).toNat → r < 6 → zW xs xl (d + 1) cX12_digest 12 (some .long) false [] 304 [zR x, zL (dgF (yH (bY B) q) r (dg2 (yH (bY B)) 6 q d0)), u, zI ((6 * q + r : Nat) : Int), v] [] m Q := by
    intro n
    induction n with
    | zero =>
      intro q r u v e hr
      have er : r = 0 := by omega
      have eq : q = (keptF (bY B)).toNat := by omega
      subst er eq
      refine bX12_digest_304 ⟨h.1.1, M_kept h hg ⟨_, rfl, ?_⟩⟩
      rw [wr_id (x := 6 * keptF (bY B)) (by omega) (by omega)]
      exact ⟨fun _ => hQ, fun z => absurd (by omega) z⟩
    | succ n ih =>
      intro q r u v e hr
      have hrow := hR.2.2.2.2.2.2 q r (by omega) hr
      refine bX12_digest_304 ⟨h.1.1, M_kept h hg ⟨_, rfl, ?_⟩⟩
      rw [wr_id (x := 6 * keptF (bY B)) (by omega) (by omega)]
      refine ⟨fun z => absurd z (by omega), fun _ => ⟨h.1.1, ?_⟩⟩
      rw [h.s8, r1, k1, n1, Int.toNat_natCast, hrow, wr_s (i := 6 * q + r) (by omega)]
      refine ⟨hR.1.1, rfl, by omega, ?_⟩
      by_cases c : r = 5
      · subst c
        have nx := ih (q + 1) 0 zU v (by omega) (by decide)
        rw [show 6 * (q + 1) + 0 = 6 * q + 5 + 1 by omega] at nx
        exact nx
      · exact ih q (r + 1) zU v (by omega) (by omega)
  exact fun u v => lp (6 * (keptF (bY B)).toNat) 0 0 u v (by omega) (by decide)
theorem M_digest {x : Nat} {B : zB} (h : Md m x B) (hy : yOk (bY B)) (hQ : ∀ m', Md m' x B → Fr (rg x (x + 70)) 99 1431 m m' → Q (.inl (some (zL (aDigest B)))) m') : zC xs xl (d + 4) 208 [zR x] m Q := by
  have h0 : Md (sI m 768 x 0) x B := h.th
  have h6 := hy.2.1.1
  have h60 := hy.1.2
  have hMd : ∀ m' k u, Fr (rg 0 0) k u (sI m 768 x 0) m' → Md m' x B := fun m' k u f => h0.fr f (Or.inr (Nat.zero_le _))
  unfold aDigest at hQ
  generalize e1 : dgF (ctT (bY B)) 9 467 = d1 at hQ
  generalize e2 : dg2 (fun i => plT (bP B i)) 4 6 d1 = d2 at hQ
  generalize e3 : dg2 (fun k => pkT (yY (bY B) k)) 5 (yN (bY B)) d2 = d3 at hQ
  generalize e4 : dg2 (frT (bY B)) 3 5 d3 = d4 at hQ
  have slips : ∀ (n s : Nat) (m' : zM) (u v : zV), n + s = yS (bY B) → Fr (rg 0 0) (9 + 15 * s) (81 + 225 * s) (sI m 768 x 0) m' → zW xs xl (d + 3) cX12_digest 12 (some .long) false [] 177 [zR x, zL (dg3 (yX (bY B)) s d4), u, zI (s : Int), v] [] m' Q := by
    intro n
    induction n with
    | zero =>
      intro s m' u v e f
      have es : s = yS (bY B) := by omega
      subst es
      have g := hMd m' _ _ f
      refine bX12_digest_177 ⟨g.1.1, ?_⟩
      rw [g.s8, g.2.2.2.2.1.2.1.2.2.1]
      refine ⟨g.2.2.2.2.1.1.1, fun _ => ?_, fun z => absurd (Int.le_refl _) z⟩
      exact M_dg6 (d := d + 2) g hy.2.2.2 (hQ m' g ((fr_to thF f (Or.inl rfl)).mono (fun _ _ z => z) (by omega) (by omega))) _ _
    | succ n ih =>
      intro s m' u v e f
      have g := hMd m' _ _ f
      have s6 : s < 6 := by omega
      have hf := (hy.2.1.2.1 s s6).1
      generalize hD : dg3 (yX (bY B)) s d4 = D
      have nx : ∀ m2 u v, Fr (rg 0 0) (9 + 15 * (s + 1)) (81 + 225 * (s + 1)) (sI m 768 x 0) m2 → zW xs xl (d + 3) cX12_digest 12 (some .long) false [] 177 [zR x, zL (dgF (fun k => yX (bY B) s (23 + k)) 3 (dgF (fun k => yX (bY B) s (20 + k)) 3 (dgF (yX (bY B) s) 15 D))), u, zI ((s + 1 : Nat) : Int), v] [] m2 Q := fun m2 u v f2 => by
        have := ih (s + 1) m2 u v (by omega) f2
        rw [show dg3 (yX (bY B)) (s + 1) d4 = dgS (yX (bY B) s) (dg3 (yX (bY B)) s d4) from rfl, hD] at this
        exact this
      have l3 : ∀ (r w : Nat) (m2 : zM) (u : zV), r + w = 3 → Fr (rg 0 0) (9 + 15 * (s + 1)) (81 + 225 * (s + 1)) (sI m 768 x 0) m2 → zW xs xl (d + 3) cX12_digest 12 (some .long) false [] 262 [zR x, zL (dgF (fun k => yX (bY B) s (23 + k)) w (dgF (fun k => yX (bY B) s (20 + k)) 3 (dgF (yX (bY B) s) 15 D))), u, zI (s : Int), zI (w : Int)] [] m2 Q := by
        intro r
        induction r with
        | zero =>
          intro w m2 u ew f2
          have ew3 : w = 3 := by omega
          subst ew3
          refine bX12_digest_262 ⟨fun _ => ?_, fun z => absurd (by decide) z⟩
          rw [wr_s (i := s) (by omega)]
          exact nx m2 _ _ f2
        | succ r ihr =>
          intro w m2 u ew f2
          have g2 := hMd m2 _ _ f2
          have hR2 := g2.2.2.2.2.1
          obtain ⟨r1, k1, n1⟩ := hR2.1.at (by decide : (735, 29, 20, 18) ∈ rTab)
          refine bX12_digest_262 ⟨fun z => absurd z (by omega), fun _ => ⟨g2.1.1, ?_⟩⟩
          rw [g2.s8, r1, k1, n1, wr_3s s6 (by omega), Int.toNat_natCast, ((hR2.2.2.2.2.1 s s6).2.2 w (by omega)).2, wr_s (i := w) (by omega)]
          exact ⟨hR2.1.1, rfl, by omega, ihr (w + 1) m2 _ (by omega) f2⟩
      have l2 : ∀ (r w : Nat) (m2 : zM) (u : zV), r + w = 3 → Fr (rg 0 0) (9 + 15 * (s + 1)) (81 + 225 * (s + 1)) (sI m 768 x 0) m2 → zW xs xl (d + 3) cX12_digest 12 (some .long) false [] 225 [zR x, zL (dgF (fun k => yX (bY B) s (20 + k)) w (dgF (yX (bY B) s) 15 D)), u, zI (s : Int), zI (w : Int)] [] m2 Q := by
        intro r
        induction r with
        | zero =>
          intro w m2 u ew f2
          have ew3 : w = 3 := by omega
          subst ew3
          exact bX12_digest_225 ⟨fun _ => l3 3 0 m2 _ (by omega) f2, fun z => absurd (by decide) z⟩
        | succ r ihr =>
          intro w m2 u ew f2
          have g2 := hMd m2 _ _ f2
          have hR2 := g2.2.2.2.2.1
          obtain ⟨r1, k1, n1⟩ := hR2.1.at (by decide : (734, 28, 20, 18) ∈ rTab)
          refine bX12_digest_225 ⟨fun z => absurd z (by omega), fun _ => ⟨g2.1.1, ?_⟩⟩
          rw [g2.s8, r1, k1, n1, wr_3s s6 (by omega), Int.toNat_natCast, ((hR2.2.2.2.2.1 s s6).2.2 w (by omega)).1, wr_s (i := w) (by omega)]
          exact ⟨hR2.1.1, rfl, by omega, ihr (w + 1) m2 _ (by omega) f2⟩
      have l1 : ∀ (r w : Nat) (m2 : zM) (u : zV), r + w = 15 → Fr (rg 0 0) (9 + 15 * s + w) (81 + 225 * s + 15 * w) (sI m 768 x 0) m2 → zW xs xl (d + 3) cX12_digest 12 (some .long) false [] 191 [zR x, zL (dgF (yX (bY B) s) w D), u, zI (s : Int), zI (w : Int)] [] m2 Q := by
        intro r
        induction r with
        | zero =>
          intro w m2 u ew f2
          have ew3 : w = 15 := by omega
          subst ew3
          exact bX12_digest_191 ⟨fun _ => l2 3 0 m2 _ (by omega) (f2.mono (fun _ _ z => z) (by omega) (by omega)), fun z => absurd (by decide) z⟩
        | succ r ihr =>
          intro w m2 u ew f2
          have g2 := hMd m2 _ _ f2
          have hR2 := g2.2.2.2.2.1
          refine bX12_digest_191 ⟨fun z => absurd z (by omega), fun _ => ⟨g2.1.1, ?_⟩⟩
          rw [g2.s8]
          refine ⟨hR2.1.1, R_slip hR2 s6 hf (by omega) (fun m3 f3 => ⟨_, rfl, ?_⟩)⟩
          rw [wr_s (i := w) (by omega)]
          exact ihr (w + 1) m3 _ (by omega) (f2.tr f3 (by omega) (by omega))
      refine bX12_digest_177 ⟨g.1.1, ?_⟩
      rw [g.s8, g.2.2.2.2.1.2.1.2.2.1]
      exact ⟨g.2.2.2.2.1.1.1, fun z => absurd z (by omega), fun _ => l1 15 0 m' _ (by omega) f⟩
  have fixed : ∀ m', Fr (rg 0 0) 9 81 (sI m 768 x 0) m' → ∀ u v : zV, zW xs xl (d + 3) cX12_digest 12 (some .long) false [] 41 [zR x, zL d1, u, zI 0, v] [] m' Q := by
    intro m' f
    have g := hMd m' _ _ f
    have hR := g.2.2.2.2.1
    have fr : ∀ (n j : Nat) (u v : zV), n + j = 5 → zW xs xl (d + 3) cX12_digest 12 (some .long) false [] 134 [zR x, zL (dg2 (frT (bY B)) 3 j d3), u, zI (j : Int), v] [] m' Q := by
      intro n
      induction n with
      | zero =>
        intro j u v e
        have ej : j = 5 := by omega
        subst ej
        rw [e4]
        exact bX12_digest_134 ⟨fun _ => slips (yS (bY B)) 0 m' _ _ (by omega) f, fun z => absurd (by decide) z⟩
      | succ n ih =>
        intro j u v e
        have l1 : ∀ (r w : Nat) (u : zV), r + w = 3 → zW xs xl (d + 3) cX12_digest 12 (some .long) false [] 142 [zR x, zL (dgF (frT (bY B) j) w (dg2 (frT (bY B)) 3 j d3)), u, zI (j : Int), zI (w : Int)] [] m' Q := by
          intro r
          induction r with
          | zero =>
            intro w u ew
            have ew3 : w = 3 := by omega
            subst ew3
            refine bX12_digest_142 ⟨fun _ => ?_, fun z => absurd (by decide) z⟩
            rw [wr_s (i := j) (by omega)]
            exact ih (j + 1) _ _ (by omega)
          | succ r ihr =>
            intro w u ew
            refine bX12_digest_142 ⟨fun z => absurd z (by omega), fun _ => ⟨g.1.1, M_frameTold g hy (by omega) (by omega) ⟨_, rfl, ?_⟩⟩⟩
            rw [wr_s (i := w) (by omega)]
            exact ihr (w + 1) _ (by omega)
        exact bX12_digest_134 ⟨fun z => absurd z (by omega), fun _ => l1 3 0 _ (by omega)⟩
    have pk : ∀ (n j : Nat) (u v : zV), n + j = yN (bY B) → zW xs xl (d + 3) cX12_digest 12 (some .long) false [] 85 [zR x, zL (dg2 (fun k => pkT (yY (bY B) k)) 5 j d2), u, zI (j : Int), v] [] m' Q := by
      intro n
      induction n with
      | zero =>
        intro j u v e
        have ej : j = yN (bY B) := by omega
        subst ej
        rw [e3]
        refine bX12_digest_85 ⟨g.1.1, ?_⟩
        rw [g.s8, hR.2.1.2.1]
        exact ⟨hR.1.1, fun _ => fr 5 0 _ _ (by omega), fun z => absurd (Int.le_refl _) z⟩
      | succ n ih =>
        intro j u v e
        have l1 : ∀ (r w : Nat) (u : zV), r + w = 5 → zW xs xl (d + 3) cX12_digest 12 (some .long) false [] 99 [zR x, zL (dgF (pkT (yY (bY B) j)) w (dg2 (fun k => pkT (yY (bY B) k)) 5 j d2)), u, zI (j : Int), zI (w : Int)] [] m' Q := by
          intro r
          induction r with
          | zero =>
            intro w u ew
            have ew3 : w = 5 := by omega
            subst ew3
            refine bX12_digest_99 ⟨fun _ => ?_, fun z => absurd (by decide) z⟩
            rw [wr_s (i := j) (by omega)]
            exact ih (j + 1) _ _ (by omega)
          | succ r ihr =>
            intro w u ew
            refine bX12_digest_99 ⟨fun z => absurd z (by omega), fun _ => ⟨g.1.1, M_plankTold g hy (by omega) (by omega) ⟨_, rfl, ?_⟩⟩⟩
            rw [wr_s (i := w) (by omega)]
            exact ihr (w + 1) _ (by omega)
        refine bX12_digest_85 ⟨g.1.1, ?_⟩
        rw [g.s8, hR.2.1.2.1]
        exact ⟨hR.1.1, fun z => absurd z (by omega), fun _ => l1 5 0 _ (by omega)⟩
    have pl : ∀ (n j : Nat) (u v : zV), n + j = 6 → zW xs xl (d + 3) cX12_digest 12 (some .long) false [] 41 [zR x, zL (dg2 (fun i => plT (bP B i)) 4 j d1), u, zI (j : Int), v] [] m' Q := by
      intro n
      induction n with
      | zero =>
        intro j u v e
        have ej : j = 6 := by omega
        subst ej
        rw [e2]
        exact bX12_digest_41 ⟨fun _ => pk (yN (bY B)) 0 _ _ (by omega), fun z => absurd (by decide) z⟩
      | succ n ih =>
        intro j u v e
        have l1 : ∀ (r w : Nat) (u : zV), r + w = 4 → zW xs xl (d + 3) cX12_digest 12 (some .long) false [] 50 [zR x, zL (dgF (plT (bP B j)) w (dg2 (fun i => plT (bP B i)) 4 j d1)), u, zI (j : Int), zI (w : Int)] [] m' Q := by
          intro r
          induction r with
          | zero =>
            intro w u ew
            have ew3 : w = 4 := by omega
            subst ew3
            refine bX12_digest_50 ⟨fun _ => ?_, fun z => absurd (by decide) z⟩
            rw [wr_s (i := j) (by omega)]
            exact ih (j + 1) _ _ (by omega)
          | succ r ihr =>
            intro w u ew
            refine bX12_digest_50 ⟨fun z => absurd z (by omega), fun _ => ⟨g.1.1, M_planTold g (by omega) (by omega) ⟨_, rfl, ?_⟩⟩⟩
            rw [wr_s (i := w) (by omega)]
            exact ihr (w + 1) _ (by omega)
        exact bX12_digest_41 ⟨fun z => absurd z (by omega), fun _ => l1 4 0 _ (by omega)⟩
    exact fun u v => pl 6 0 u v (by omega)
  have ct : ∀ (n w : Nat) (m' : zM) (u v : zV), n + w = 9 → Fr (rg 0 0) w (9 * w) (sI m 768 x 0) m' → zW xs xl (d + 3) cX12_digest 12 (some .long) false [] 11 [zR x, zL (dgF (ctT (bY B)) w 467), u, zI (w : Int), v] [] m' Q := by
    intro n
    induction n with
    | zero =>
      intro w m' u v e f
      have ew : w = 9 := by omega
      subst ew
      rw [e1]
      exact bX12_digest_11 ⟨fun _ => fixed m' f _ _, fun z => absurd (by decide) z⟩
    | succ n ih =>
      intro w m' u v e f
      have g := hMd m' _ _ f
      refine bX12_digest_11 ⟨fun z => absurd z (by omega), fun _ => ⟨g.1.1, ?_⟩⟩
      rw [g.s8]
      refine ⟨g.2.2.2.2.1.1.1, R_counted g.2.2.2.2.1 hy (by omega) (fun m3 f3 => ⟨_, rfl, ?_⟩)⟩
      rw [wr_s (i := w) (by omega)]
      exact ih (w + 1) m3 _ _ (by omega) (f.tr f3 (by omega) (by omega))
  exact bX12_digest_0 ⟨h.1.1, ct 9 0 _ _ _ (by omega) Fr.rfl⟩
theorem M_flaw {x : Nat} {B : zB} (h : Md m x B) (hg : 0 ≤ yG (bY B) 1) (hN : colF (yH (bY B)) 2 (keptF (bY B)).toNat ≠ 0 → vf_n64 (FP.ddiv (FP.i2d (Int32.ofInt (colF (yH (bY B)) 3 (keptF (bY B)).toNat))) (FP.i2d (Int32.ofInt (colF (yH (bY B)) 2 (keptF (bY B)).toNat))))) (hQ : ∀ m', Md m' x B → Fr (rg x (x + 70)) 0 0 m m' → Q (.inl (some (zD (aFlaw B)))) m') : zC xs xl (d + 2) 207 [zR x] m Q := by
  have h0 : Md (sI m 768 x 0) x B := h.th
  have hR := h0.2.2.2.2.1
  have hk : 0 ≤ keptF (bY B) ∧ keptF (bY B) ≤ 40 := by unfold keptF; split <;> omega
  have hQ' := hQ _ h0 thF
  unfold aFlaw at hQ'
  obtain ⟨r1, k1, n1⟩ := hR.1.at (by decide : (739, 30, 20, 240) ∈ rTab)
  have lp : ∀ (r i : Nat), r + i = (keptF (bY B)).toNat → zW xs xl (d + 1) cX12_flaw 12 (some .double) false [] 11 [zR x, zI (colF (yH (bY B)) 3 i), zI (colF (yH (bY B)) 2 i), zI (i : Int)] [] (sI m 768 x 0) Q := by
    intro r
    induction r with
    | zero =>
      intro i e
      have ei : i = (keptF (bY B)).toNat := by omega
      subst ei
      refine bX12_flaw_11 ⟨h0.1.1, M_kept h0 hg ⟨_, rfl, fun _ => ⟨fun z => ⟨hN z, ?_⟩, fun z => ?_⟩, fun z => absurd (by omega) z⟩⟩
      · rwa [if_neg z] at hQ'
      · rwa [if_pos (Decidable.not_not.mp z)] at hQ'
    | succ r ih =>
      intro i e
      refine bX12_flaw_11 ⟨h0.1.1, M_kept h0 hg ⟨_, rfl, fun z => absurd z (by omega), fun _ => ⟨h0.1.1, ?_⟩⟩⟩
      have w3 : wr (wr (6 * (i : Int)) + 3) = ((6 * i + 3 : Nat) : Int) := wr_6s (r := i) (j := 3) (by omega) (by decide)
      have w2 : wr (wr (6 * (i : Int)) + 2) = ((6 * i + 2 : Nat) : Int) := wr_6s (r := i) (j := 2) (by omega) (by decide)
      rw [h0.s8, r1, k1, n1, w3, w2, Int.toNat_natCast, Int.toNat_natCast, hR.2.2.2.2.2.2 i 3 (by omega) (by decide), hR.2.2.2.2.2.2 i 2 (by omega) (by decide), wr_s (i := i) (by omega)]
      clear w3 w2
      exact ⟨hR.1.1, rfl, by omega, by omega, ih (i + 1) (by omega)⟩
  exact bX12_flaw_0 ⟨h.1.1, lp (keptF (bY B)).toNat 0 (by omega)⟩
end ZML
