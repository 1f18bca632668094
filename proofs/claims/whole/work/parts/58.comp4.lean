abbrev cRg (c pd : Nat) : Nat → Prop := fun a => rg c (c + 6) a ∨ rg pd (pd + 2) a
theorem fr_c {c pd lo hi k u : Nat} {m m' : zM} (f : Fr (rg lo hi) k u m m') (h1 : c ≤ lo) (h2 : hi ≤ c + 6) : Fr (cRg c pd) k u m m' := f.sub (fun a q => Or.inl ⟨Nat.le_trans h1 q.1, Nat.lt_of_lt_of_le q.2 h2⟩)
theorem fr_p {c pd k u : Nat} {m m' : zM} (f : Fr (rg pd (pd + 2)) k u m m') : Fr (cRg c pd) k u m m' := f.sub (fun a q => Or.inr q)
abbrev CS (m : zM) (c tp : Nat) : Prop := Cp m c tp ∧ ∃ p k v s, Sc m (c + 5) tp p k v s
theorem cs_err {m : zM} {c tp p s f : Nat} {k v q : Int} (h : Cp m c tp) (g : Sc m (c + 5) tp p k v s) : CS (sI m f c q) c tp := by
  have e5 : ∀ f', mI (sI m f c q) f' (c + 5) = mI m f' (c + 5) := fun f' => (Eqv.nI (by omega)).1 f'
  exact ⟨⟨h.1, h.2⟩, p, k, v, s, g.1, g.2.1, (e5 _).trans g.2.2.1, (e5 _).trans g.2.2.2.1, (e5 _).trans g.2.2.2.2.1, (e5 _).trans g.2.2.2.2.2⟩
section ZCS
variable {xs : Nat → Int} {xl d : Nat} {m : zM} {Q : zRes → zM → Prop}
theorem C_doStep {P c tp n i q pd : Nat} {t : Nat → Int} {st : zPs} (h : Cp m c tp) (hS : ScT m (c + 5) tp t n i) (hT : Tp m tp n t) (ht : ∀ i, i < n → 0 ≤ t i) (ha : tp + 2 ≤ c ∨ c + 6 ≤ tp) (hcP : c + 6 ≤ P) (hs : CSt m c st.2 q) (hp : PlT P m pd st.1) (hw : (tkF t n i).2.1 ≠ 8)
    (hE : ∀ (e : Int) (p : Nat) (m' : zM), stpF t n i (tkF t n i).2.1 st = .inl (e, p) → e ≠ 0 → CS m' c tp → mI m' 74 c = p → Fr (cRg c pd) 0 0 m m' → Q (.inl (some (zI e))) m')
    (hO : ∀ (st' : zPs) (m' : zM) (k' v' : Int) (s' : Nat), stpF t n i (tkF t n i).2.1 st = .inr st' → Cp m' c tp → Sc m' (c + 5) tp (plF t n (i + 1 + (formL (tkF t n i).2.1).length)) k' v' s' → CSt m' c st'.2 q → PlT P m' pd st'.1 → mI m' 74 c = mI m 74 c → (∀ j, mA m' (c + 1) j = mA m (c + 1) j ∧ mA m' (c + 2) j = mA m (c + 2) j) → Fr (cRg c pd) 1 4 m m' → Q (.inl (some (zI 0))) m') : zC xs xl (d + 9) 8 [zR c, zR pd] m Q := by
  have hz := h.1.2.2.2.2.2.2.2
  refine bX1_doStep_0 ⟨h.1.1, ?_⟩
  rw [h.1.2.2.1, hS.2.2.2.2.2, hS.2.2.2.2.1]
  generalize hwe : (tkF t n i).2.1 = w at hw hE hO ⊢
  refine ⟨hS.1, C_readValues h hS hT ht ha (fun m3 k3' v3 s3 hC3 g3 hv hpl f3 => ?_)⟩
  have e0 := f3.1 c (by omega) (fun z => by unfold rg at z; omega)
  have hs3 : CSt m3 c st.2 q := hs.mv (fun f _ => e0.1 f)
  have hp3 : PlT P m3 pd st.1 := hp.mv f3 (by omega)
  have fc3 : Fr (cRg c pd) 0 0 m m3 := fr_c f3 (by omega) (by omega)
  unfold stpF at hE hO
  refine ⟨rfl, hC3.1.1, C_errWord hC3 hs3 hw hp3.1.2.2.1.1 hp3.1.2.2.2.1 ⟨_, rfl, ?_⟩⟩
  rw [hv 0 (by omega)]
  by_cases c1 : outF w (valF t n (i + 1) w 0) st.2.1 st.2.2.1 st.2.2.2 ≠ 0
  · rw [if_pos c1]
    refine ⟨fun z => absurd z (by decide), fun _ => ⟨hC3.1.1, C_fail hC3 ⟨_, rfl, hE 3 _ _ (if_pos c1) (by decide) (cs_err hC3 g3) zm_Is (fc3.sI (Or.inl (by unfold rg; omega)))⟩⟩⟩
  rw [if_neg c1]
  rw [if_neg c1] at hE hO
  by_cases c2 : 60 ≤ st.1.length
  · rw [if_pos c2]
    refine ⟨fun z => absurd z (by decide), fun _ => ⟨hC3.1.1, C_fail hC3 ⟨_, rfl, hE 4 _ _ (if_pos c2) (by decide) (cs_err hC3 g3) zm_Is (fc3.sI (Or.inl (by unfold rg; omega)))⟩⟩⟩
  rw [if_neg c2]
  rw [if_neg c2] at hE hO
  refine ⟨fun _ => ⟨hC3.1.1, C_wrongNum hC3 (v := valF t n (i + 1) w) hv ⟨_, rfl, fun c3 => ⟨fun _ => ⟨hC3.1.1, C_follow hC3 hs3 (fun m11 s11 f11 r11 e74 => ?_)⟩, fun z => absurd hw z⟩, fun c3 => ⟨hC3.1.1, ?_⟩⟩⟩, fun z => absurd rfl z⟩
  · rw [if_neg (by omega)] at hO
    rw [hv 0 (by omega)] at s11
    have hwin := wnF_in (w := w) (v := valF t n (i + 1) w) (l := formL w) (j := 0)
    have z3 := f3.2.1
    have z11 := f11.2.1
    have hC11 : Cp m11 c tp := by
      have e : ∀ b, c + 1 ≤ b → b < c + 6 → Eqv m3 m11 b := fun b b1 b2 => f11.1 b (by omega) (fun z => by unfold rg at z; omega)
      exact hC3.mv z11 ⟨by rw [r11.2], fun f => by rw [r11.1]⟩ (fun j j1 j2 => by have q := e (c + j) (by omega) (by omega); exact ⟨q.2.2.2.2.1, q.2.2.2.2.2⟩)
    have hp11 : PlT P m11 pd st.1 := hp3.mv f11 (by omega)
    have k3 := hC11.2 3 (by omega) (by omega)
    have e3 : ∀ j, mA m11 (c + 3) j = mA m3 (c + 3) j := (f11.1 (c + 3) (by omega) (fun z => by unfold rg at z; omega)).2.2.1
    refine ⟨rfl, fun m14 e14 => ?_⟩
    have f14 : Fr (cRg c pd) 1 4 m11 m14 := by rw [e14]; exact (Fr.rfl (k := 0) (u := 0)).nwO
    have f14n : Fr (rg 0 0) 1 4 m11 m14 := by rw [e14]; exact (Fr.rfl (k := 0) (u := 0)).nwO
    have hC14 : Cp m14 c tp := hC11.fr f14n (by omega)
    have hp14 : PlT P m14 pd st.1 := hp11.mv f14n (by omega)
    have zz : mz m14 = mz m11 + 1 := by rw [e14]; rfl
    have eA : mA m14 = mA m11 := by rw [e14]; rfl
    have eN : mC m14 (mz m11) = 1 := by rw [e14]; exact if_pos rfl
    have hpz := hp11.1.1
    refine ⟨hC14.1.1, ?_⟩
    rw [hC14.1.2.2.2.2.2.1, (hC14.2 3 (by omega) (by omega)).1, (hC14.2 3 (by omega) (by omega)).2, eA, e3, e3, e3, hv 0 (by omega), hv 1 (by omega), hv 2 (by omega)]
    refine ⟨rfl, by decide, by decide, by decide, by omega, bX0_init_0 ⟨by omega, eN, ?_⟩⟩
    have f20 : Fr (rg (mz m11) (mz m11 + 1)) 0 0 m14 (sI (sI (sI (sI m14 0 (mz m11) w) 1 (mz m11) (valF t n (i + 1) w 0)) 2 (mz m11) (valF t n (i + 1) w 1)) 3 (mz m11) (valF t n (i + 1) w 2)) := by
      have hr : rg (mz m11) (mz m11 + 1) (mz m11) := by unfold rg; omega
      exact (((Fr.rfl.sI hr).sI hr).sI hr).sI hr
    have a20 : Ac (sI (sI (sI (sI m14 0 (mz m11) w) 1 (mz m11) (valF t n (i + 1) w 0)) 2 (mz m11) (valF t n (i + 1) w 1)) 3 (mz m11) (valF t n (i + 1) w 2)) (mz m11) w (valF t n (i + 1) w 0) (valF t n (i + 1) w 1) (valF t n (i + 1) w 2) := ⟨eN, by simp [zget], by simp [zget], by simp [zget], by simp [zget]⟩
    have z20 : mz (sI (sI (sI (sI m14 0 (mz m11) w) 1 (mz m11) (valF t n (i + 1) w 0)) 2 (mz m11) (valF t n (i + 1) w 1)) 3 (mz m11) (valF t n (i + 1) w 2)) = mz m14 := rfl
    have eq20 : ∀ b, b < mz m11 → Eqv m11 (sI (sI (sI (sI m14 0 (mz m11) w) 1 (mz m11) (valF t n (i + 1) w 0)) 2 (mz m11) (valF t n (i + 1) w 1)) 3 (mz m11) (valF t n (i + 1) w 2)) b := fun b hb => (f14n.1 b hb (fun z => by unfold rg at z; omega)).tr (f20.1 b (by omega) (fun z => by unfold rg at z; omega))
    generalize sI (sI (sI (sI m14 0 (mz m11) w) 1 (mz m11) (valF t n (i + 1) w 0)) 2 (mz m11) (valF t n (i + 1) w 1)) 3 (mz m11) (valF t n (i + 1) w 2) = m20 at f20 a20 z20 eq20 ⊢
    have f1120 : Fr (cRg c pd) 1 4 m11 m20 := ⟨fun b hb _ => eq20 b hb, by omega, Nat.le_trans f20.2.2.1 (by have := f14n.2.2.1; omega), Nat.le_trans f20.2.2.2 (by have := f14n.2.2.2; omega)⟩
    have f1120n : Fr (rg 0 0) 1 4 m11 m20 := ⟨fun b hb _ => eq20 b hb, f1120.2⟩
    have hp20 : PlT P m20 pd st.1 := hp11.mv f1120n (by omega)
    have hC20 : Cp m20 c tp := hC11.fr f1120n (by omega)
    refine ⟨rfl, hp20.1.2.2.1.1, C_append (q := (w, valF t n (i + 1) w 0, valF t n (i + 1) w 1, valF t n (i + 1) w 2)) hp20 (by omega) a20 ⟨by omega, by omega, by omega⟩ (fun m23 p23 f23 => ⟨rfl, ?_⟩)⟩
    have hpd : c + 6 ≤ pd := by have := hp20.1.1.1; omega
    have f23' : ∀ b, c ≤ b → b < c + 6 → Eqv m20 m23 b := fun b b1 b2 => f23.1 b (by omega) (fun z => by unfold rg at z; omega)
    have hC23 : Cp m23 c tp := hC20.fr f23 (by omega)
    have es : ∀ b, c ≤ b → b < c + 6 → Eqv m11 m23 b := fun b b1 b2 => (eq20 b (by omega)).tr (f23' b b1 b2)
    have e5 := (f11.1 (c + 5) (by omega) (fun z => by unfold rg at z; omega)).tr (es (c + 5) (by omega) (by omega))
    refine hO _ m23 k3' v3 s3 rfl hC23 ?_ (s11.mv (fun f _ => (es c (by omega) (by omega)).1 f)) p23 ?_ ?_ (((fc3.tr0 (fr_c f11 (by omega) (by omega))).tr f1120 (Nat.le_refl _) (Nat.le_refl _)).tr (fr_p (c := c) f23) (Nat.le_refl _) (Nat.le_refl _))
    · unfold Sc
      rw [e5.2.2.2.2.1, e5.2.1, e5.1, e5.1, e5.1, e5.1]
      exact g3
    · rw [(es c (by omega) (by omega)).1, e74, e0.1]
    · intro j
      have ea : ∀ b, b = c + 1 ∨ b = c + 2 → mA m23 b j = mA m b j := fun b hb => by
        have q1 := f3.1 b (by omega) (fun z => by unfold rg at z; omega)
        have q2 := f11.1 b (by omega) (fun z => by unfold rg at z; omega)
        rw [(es b (by omega) (by omega)).2.2.1, q2.2.2.1, q1.2.2.1]
      exact ⟨ea _ (Or.inl rfl), ea _ (Or.inr rfl)⟩
  · rw [if_pos (by omega)] at hE
    have hwin := wnF_in (w := w) (v := valF t n (i + 1) w) (l := formL w) (j := 0)
    have hlen := wnF_len (w := w) (v := valF t n (i + 1) w) (l := formL w) (j := 0) (by omega)
    have k4 := hC3.2 4 (by omega) (by omega)
    rw [hC3.1.2.2.2.2.2.2.1, k4.1, k4.2, hpl _ (by omega) (by omega)]
    exact ⟨rfl, by omega, C_fail hC3 ⟨_, rfl, hE 2 _ _ rfl (by decide) (cs_err hC3 g3) zm_Is (fc3.sI (Or.inl (by unfold rg; omega)))⟩⟩
end ZCS
