theorem formL_8 : formL 8 = [110, 123] := by decide +kernel
theorem wnF_8 {v : Nat → Int} : wnF 8 v [110, 123] 0 = if allowB 8 (v 0) then -1 else 0 := by
  have e1 : wnF 8 v [110, 123] 0 = if 3 ≤ 0 then -1 else if (110 : Int) = 110 ∧ ¬ allowB 8 (v 0) then ((0 : Nat) : Int) else wnF 8 v [123] 1 := rfl
  have e2 : wnF 8 v [123] 1 = if 3 ≤ 1 then -1 else if (123 : Int) = 110 ∧ ¬ allowB 8 (v 1) then ((1 : Nat) : Int) else wnF 8 v [] 2 := rfl
  have e3 : wnF 8 v [] 2 = -1 := rfl
  rw [e1, e2, e3, if_neg (show ¬ (3 ≤ 0) by decide), if_neg (show ¬ (3 ≤ 1) by decide), if_neg (fun z : (123 : Int) = 110 ∧ ¬ allowB 8 (v 1) => absurd z.1 (by decide))]
  by_cases c : allowB 8 (v 0)
  · rw [if_neg (fun z => z.2 c), if_pos c]
  · rw [if_pos ⟨rfl, c⟩, if_neg c]; rfl
theorem valF_8 {t : Nat → Int} {n i : Nat} : valF t n i 8 0 = (tkF t n i).2.1 := by
  unfold valF
  rw [formL_8]
  exact if_pos (by decide)
section ZCT
variable {xs : Nat → Int} {xl d : Nat} {m : zM} {Q : zRes → zM → Prop}
theorem C_doTimes {c tp n i q pd : Nat} {t : Nat → Int} {st : Int × Int × Int} (h : Cp m c tp) (hS : ScT m (c + 5) tp t n i) (hT : Tp m tp n t) (ht : ∀ i, i < n → 0 ≤ t i) (ha : tp + 2 ≤ c ∨ c + 6 ≤ tp) (hs : CSt m c st q) (hw : (tkF t n i).2.1 = 8)
    (h4 : 3 ≤ q → ∀ m', CS m' c tp → mI m' 74 c = ((tkF t n i).2.2.1 : Nat) → Fr (rg c (c + 6)) 0 0 m m' → Q (.inl (some (zI 4))) m')
    (h2 : q < 3 → ¬ allowB 8 (tkF t n (i + 1)).2.1 → ∀ m', CS m' c tp → mI m' 74 c = ((tkF t n (i + 1)).2.2.1 : Nat) → Fr (rg c (c + 6)) 0 0 m m' → Q (.inl (some (zI 2))) m')
    (hO : q < 3 → allowB 8 (tkF t n (i + 1)).2.1 → ∀ (m' : zM) (k' v' : Int) (s' : Nat), Cp m' c tp → Sc m' (c + 5) tp (plF t n (i + 3)) k' v' s' → CSt m' c st (q + 1) → mI m' 74 c = mI m 74 c → (∀ j, mA m' (c + 1) j = (if j = q then ((plF t n (i + 3) : Nat) : Int) else mA m (c + 1) j) ∧ mA m' (c + 2) j = (if j = q then (tkF t n (i + 1)).2.1 else mA m (c + 2) j)) → Fr (rg c (c + 6)) 0 0 m m' → Q (.inl (some (zI 0))) m') : zC xs xl (d + 9) 8 [zR c, zR pd] m Q := by
  have hz := h.1.2.2.2.2.2.2.2
  refine bX1_doStep_0 ⟨h.1.1, ?_⟩
  rw [h.1.2.2.1, hS.2.2.2.2.2, hS.2.2.2.2.1, hw]
  refine ⟨hS.1, C_readValues h hS hT ht ha (fun m3 k3' v3 s3 hC3 g3 hv hpl f3 => ?_)⟩
  rw [formL_8] at g3 hpl
  have hv0 := hv 0 (by omega)
  rw [valF_8] at hv0
  have e0 := f3.1 c (by omega) (fun z => by unfold rg at z; omega)
  have hs3 : CSt m3 c st q := hs.mv (fun f _ => e0.1 f)
  have fc3 : Fr (rg c (c + 6)) 0 0 m m3 := f3.rg (by omega) (by omega)
  refine ⟨rfl, hC3.1.1, C_errTimes hC3 hs3 ⟨_, rfl, ?_⟩⟩
  by_cases c1 : q < 3
  · rw [if_pos c1]
    refine ⟨fun _ => ⟨hC3.1.1, C_wrongNum hC3 (v := valF t n (i + 1) 8) hv ⟨_, rfl, ?_⟩⟩, fun z => absurd rfl z⟩
    rw [formL_8, wnF_8, valF_8]
    by_cases c2 : allowB 8 (tkF t n (i + 1)).2.1
    · rw [if_pos c2]
      refine ⟨fun _ => ⟨fun z => absurd rfl z, fun _ => ⟨hC3.1.1, bX1_beginLoop_0 ⟨hC3.1.1, ?_⟩⟩⟩, fun z => absurd (by decide) z⟩
      rw [hs3.2.2.2.1]
      have k1 := hC3.2 1 (by omega) (by omega)
      have k2 := hC3.2 2 (by omega) (by omega)
      have k3 := hC3.2 3 (by omega) (by omega)
      refine ⟨fun z => absurd z (by omega), fun _ => ?_⟩
      rw [hC3.1.2.2.1, hC3.1.2.2.2.1]
      refine ⟨g3.1, bX5_placeBehind_0 ⟨g3.1, _, rfl, ?_⟩⟩
      rw [g3.2.2.1, hs3.2.2.2.1, hC3.1.2.2.2.2.2.1, hC3.1.2.2.2.2.1, k1.1, k1.2, k2.1, k2.2, k3.1, k3.2, Int.toNat_natCast, (Eqv.nA (show c + 3 ≠ c + 1 by omega)).2.2.1, hv0, wr_s (by omega)]
      refine ⟨by omega, rfl, hC3.1.1, rfl, by decide, by omega, rfl, rfl, ?_⟩
      refine hO c1 c2 _ k3' v3 s3 ⟨hC3.1, hC3.2⟩ ?_ ?_ ?_ (fun j => ⟨?_, ?_⟩) (((fc3.sA (by unfold rg; omega)).sA (by unfold rg; omega)).sI (by unfold rg; omega))
      · unfold Sc
        have e5 : ∀ f, mI (sI (sA (sA m3 (c + 1) q ((plF t n (i + 1 + [110, 123].length) : Nat) : Int)) (c + 2) q (tkF t n (i + 1)).2.1) 70 c ((q + 1 : Nat) : Int)) f (c + 5) = mI m3 f (c + 5) := fun f => (Eqv.nI (by omega)).1 f
        exact ⟨g3.1, g3.2.1, (e5 _).trans g3.2.2.1, (e5 _).trans g3.2.2.2.1, (e5 _).trans g3.2.2.2.2.1, (e5 _).trans g3.2.2.2.2.2⟩
      · exact ⟨(zm_In (by decide)).trans hs3.1, (zm_In (by decide)).trans hs3.2.1, (zm_In (by decide)).trans hs3.2.2.1, zm_Is, hs3.2.2.2.2⟩
      · exact (zm_In (by decide)).trans (e0.1 74)
      · show mA (sA (sA m3 (c + 1) q _) (c + 2) q _) (c + 1) j = _
        rw [(Eqv.nA (show c + 1 ≠ c + 2 by omega)).2.2.1]
        by_cases cj : j = q
        · rw [if_pos cj, cj, zm_As]; rfl
        · rw [if_neg cj, zm_An cj]
          exact (f3.1 (c + 1) (by omega) (fun z => by unfold rg at z; omega)).2.2.1 j
      · show mA (sA (sA m3 (c + 1) q _) (c + 2) q _) (c + 2) j = _
        by_cases cj : j = q
        · rw [if_pos cj, cj, zm_As]
        · rw [if_neg cj, zm_An cj, (Eqv.nA (show c + 2 ≠ c + 1 by omega)).2.2.1]
          exact (f3.1 (c + 2) (by omega) (fun z => by unfold rg at z; omega)).2.2.1 j
    · rw [if_neg c2]
      refine ⟨fun z => absurd z (by decide), fun _ => ⟨hC3.1.1, ?_⟩⟩
      have k4 := hC3.2 4 (by omega) (by omega)
      rw [hC3.1.2.2.2.2.2.2.1, k4.1, k4.2, show Int.toNat 0 = 0 from rfl, hpl 0 (by omega) (by decide)]
      exact ⟨rfl, by decide, C_fail hC3 ⟨_, rfl, h2 c1 c2 _ (cs_err hC3 g3) zm_Is (fc3.sI (by unfold rg; omega))⟩⟩
  · rw [if_neg c1]
    refine ⟨fun z => absurd z (by decide), fun _ => ⟨hC3.1.1, C_fail hC3 ⟨_, rfl, h4 (by omega) _ (cs_err hC3 g3) zm_Is (fc3.sI (by unfold rg; omega))⟩⟩⟩
theorem C_endR {c tp p q b s r : Nat} {k v : Int} {st : Int × Int × Int} (h : Cp m c tp) (hS : Sc m (c + 5) tp p k v s) (hs : CSt m c st (q + 1)) (hq : q < 3) (hr : mA m (c + 2) q = (r + 1 : Nat)) (hr9 : r < 9) (hb : mA m (c + 1) q = (b : Nat))
    (h0 : r = 0 → ∀ m', Cp m' c tp → Sc m' (c + 5) tp p k v s → CSt m' c st q → mI m' 74 c = mI m 74 c → (∀ j, j ≠ q → mA m' (c + 1) j = mA m (c + 1) j ∧ mA m' (c + 2) j = mA m (c + 2) j) → Fr (rg c (c + 6)) 0 0 m m' → Q (.inl none) m')
    (h1 : r ≠ 0 → ∀ m', Cp m' c tp → Sc m' (c + 5) tp b k v s → CSt m' c st (q + 1) → mI m' 74 c = mI m 74 c → (∀ j, j ≠ q → mA m' (c + 1) j = mA m (c + 1) j ∧ mA m' (c + 2) j = mA m (c + 2) j) → mA m' (c + 1) q = (b : Nat) → mA m' (c + 2) q = (r : Nat) → Fr (rg c (c + 6)) 0 0 m m' → Q (.inl none) m') : zC xs xl (d + 2) 16 [zR c] m Q := by
  have k1 := h.2 1 (by omega) (by omega)
  have k2 := h.2 2 (by omega) (by omega)
  have hz := h.1.2.2.2.2.2.2.2
  refine bX1_endRound_0 ⟨h.1.1, ?_⟩
  rw [hs.2.2.2.1]
  have e1 : wr (((q + 1 : Nat) : Int) - 1) = (q : Int) := by rw [wr_id (by omega) (by omega)]; omega
  have e2 : wr (((r + 1 : Nat) : Int) - 1) = (r : Int) := by rw [wr_id (by omega) (by omega)]; omega
  rw [e1, h.1.2.2.1, h.1.2.2.2.2.1, h.1.2.2.2.1, k1.1, k1.2, k2.1, k2.2, Int.toNat_natCast, hr, e2, (Eqv.nA (show c + 1 ≠ c + 2 by omega)).2.2.1, hb]
  refine ⟨fun _ => ⟨rfl, by omega, fun cr => ?_, fun cr => ⟨rfl, by omega, hS.1, bX5_goTo_0 ⟨hS.1, rfl, ?_⟩⟩⟩, fun z => absurd (by omega) z⟩
  · have er : r = 0 := by omega
    refine h0 er _ ⟨h.1, h.2⟩ ?_ ⟨(zm_In (by decide)).trans hs.1, (zm_In (by decide)).trans hs.2.1, (zm_In (by decide)).trans hs.2.2.1, zm_Is, hs.2.2.2.2⟩ (zm_In (by decide)) (fun j hj => ⟨?_, ?_⟩) ((Fr.rfl.sA (by unfold rg; omega)).sI (by unfold rg; omega))
    · have e5 : ∀ f, mI (sI (sA m (c + 2) q (r : Int)) 70 c (q : Int)) f (c + 5) = mI m f (c + 5) := fun f => (Eqv.nI (by omega)).1 f
      exact ⟨hS.1, hS.2.1, (e5 _).trans hS.2.2.1, (e5 _).trans hS.2.2.2.1, (e5 _).trans hS.2.2.2.2.1, (e5 _).trans hS.2.2.2.2.2⟩
    · exact (Eqv.nA (show c + 1 ≠ c + 2 by omega)).2.2.1 j
    · exact zm_An hj
  · have er : r ≠ 0 := by omega
    have e0 : ∀ f, mI (sI (sA m (c + 2) q (r : Int)) 321 (c + 5) (b : Int)) f c = mI m f c := fun f => (Eqv.nI (by omega)).1 f
    refine h1 er _ ⟨h.1, h.2⟩ (Sc.go (m := sA m (c + 2) q (r : Int)) ⟨hS.1, hS.2.1, hS.2.2.1, hS.2.2.2.1, hS.2.2.2.2.1, hS.2.2.2.2.2⟩ rfl) ⟨(e0 _).trans hs.1, (e0 _).trans hs.2.1, (e0 _).trans hs.2.2.1, (e0 _).trans hs.2.2.2.1, hs.2.2.2.2⟩ (e0 _) (fun j hj => ⟨?_, ?_⟩) ?_ zm_As ((Fr.rfl.sA (by unfold rg; omega)).sI (by unfold rg; omega))
    · exact (Eqv.nA (show c + 1 ≠ c + 2 by omega)).2.2.1 j
    · exact zm_An hj
    · exact ((Eqv.nA (show c + 1 ≠ c + 2 by omega)).2.2.1 q).trans hb
end ZCT
