section ZSM
variable {xs : Nat → Int} {xl d : Nat} {m : zM} {Q : zRes → zM → Prop}
theorem C_planAt {P p : Nat} {l : List zAc} {i : Int} (h : Pl P m p l) (h1 : ¬ (0 ≤ i ∧ i < l.length) → Q (.inl (some (zR 0))) m) (h2 : ∀ (ac : Nat) (q : zAc), l[i.toNat]? = some q → 0 ≤ i → ac ≠ 0 → (P ≤ ac ∧ ac < mz m) → Ac m ac q.1 q.2.1 q.2.2.1 q.2.2.2 → Q (.inl (some (zR ac))) m) : zC xs xl (d + 2) 33 [zR p, zI i] m Q := by
  obtain ⟨g1, g2, g3, g4, g5, g6⟩ := h
  refine bX3_at_0 ⟨g3.1, ?_⟩
  rw [g4]
  refine C_isBelow ⟨_, rfl, ?_⟩
  by_cases c : 0 ≤ i ∧ i < l.length
  · rw [if_pos c]
    refine ⟨fun k => absurd k (by decide), fun _ => ⟨g3.1, by rw [g3.2.1]; omega, by rw [g3.2.2]; omega, ?_⟩⟩
    have hi : i.toNat < l.length := by omega
    obtain ⟨k1, k2⟩ := g6 i.toNat _ (List.getElem?_eq_getElem hi)
    exact h2 _ _ (List.getElem?_eq_getElem hi) c.1 k1.2.2 ⟨k1.1, k1.2.1⟩ k2
  · rw [if_neg c]
    exact ⟨fun _ => h1 c, fun k => absurd rfl k⟩
theorem C_action {P a p : Nat} {x : Nat → Int} {l : List zAc} (h : Sl m a p x) (hp : x 0 ≠ 0 → Pl P m p l) (h2i : 0 ≤ x 2) (h1 : ¬ (x 0 ≠ 0 ∧ x 2 < l.length) → Q (.inl (some (zR 0))) m) (h2 : ∀ (ac : Nat) (q : zAc), x 0 ≠ 0 → l[(x 2).toNat]? = some q → ac ≠ 0 → (P ≤ ac ∧ ac < mz m) → Ac m ac q.1 q.2.1 q.2.2.1 q.2.2.2 → Q (.inl (some (zR ac))) m) : zC xs xl (d + 3) 59 [zR a] m Q := by
  have e0 : mI m 384 a = x 0 := by unfold Sl at h; simp [h]
  have e2 : mI m 389 a = x 2 := by unfold Sl at h; simp [h]
  have e3 : mR m 385 a = p := h.1.2.2.1
  refine bX6_action_0 ⟨h.1.1, fun c => h1 (fun q => q.1 (by rw [← e0]; exact c)), fun c => ?_⟩
  rw [e0] at c
  have hP := hp c
  rw [e2, e3]
  refine ⟨fun c2 => absurd c2 hP.1.2.2, fun _ => ⟨hP.2.2.1.1, C_planAt hP (fun k => ⟨_, rfl, h1 (fun q => k ⟨h2i, q.2⟩)⟩) (fun ac q k1 _ k2 k3 k4 => ⟨_, rfl, h2 ac q c k1 k2 k3 k4⟩)⟩⟩
theorem C_losePiece {a p : Nat} {x : Nat → Int} (h : Sl m a p x) (hQ : ∀ m', Sl m' a p (loseF x) → Fr (rg a (a + 4)) 0 0 m m' → Q (.inl none) m') : zC xs xl (d + 3) 61 [zR a] m Q := by
  have hr : rg a (a + 4) a := by unfold rg; omega
  have e1 := h.1.2.1
  refine bX6_losePiece_0 ⟨h.1.1, by rw [e1]; exact h.2.2.1.1, ?_⟩
  rw [e1]
  refine C_vanish h.2.2 (fun m2 h2 f2 => ?_)
  have hz := h.1.2.2.2
  have e := f2.1 a (by omega) (fun q => by unfold rg at q; omega)
  have h3 : Sl m2 a p (vanishF x) := h.pc f2.2.1 e h2 (fun k hk => if_neg (by omega))
  refine ⟨rfl, h3.1.1, hQ _ ?_ ((((f2.rg (by omega) (by omega)).sI hr).sI hr).sI hr)⟩
  have l : a < a + 1 := by omega
  have v2 : vanishF x 2 = x 2 := rfl
  have v13 : vanishF x 13 = x 13 := rfl
  have v17 : vanishF x 17 = x 17 := rfl
  have hp : Pc m2 (a + 1) (loseF x) := h3.2.2.cg (fun j hj => by simp [loseF, up1]; omega)
  refine ⟨?_, ?_, ((hp.sI l).sI l).sI l⟩
  · unfold Sl at h3; simp [zget, h3]
  · unfold Sl at h3; simp [zget, loseF, up1, h3, v13, v17]
theorem C_getPiece {a p : Nat} {x : Nat → Int} {w t : Int} (h : Sl m a p x) (hQ : ∀ m', Sl m' a p (getPF x w t) → Fr (rg a (a + 4)) 0 0 m m' → Q (.inl none) m') : zC xs xl (d + 2) 62 [zR a, zI w, zI t] m Q := by
  have hr : rg a (a + 4) a := by unfold rg; omega
  have e1 := h.1.2.1
  refine bX6_getPiece_0 ⟨h.1.1, by rw [e1]; exact h.2.2.1.1, ?_⟩
  rw [e1]
  refine C_appear h.2.2 (fun m2 h2 f2 => ?_)
  have hz := h.1.2.2.2
  have e := f2.1 a (by omega) (fun q => by unfold rg at q; omega)
  have h3 : Sl m2 a p (appearF x w t) := h.pc f2.2.1 e h2 (fun k hk => by unfold appearF up1; rw [if_neg (by omega), if_neg (by omega), if_neg (by omega), if_neg (by omega)])
  refine ⟨rfl, h3.1.1, hQ _ ?_ ((f2.rg (by omega) (by omega)).sI hr)⟩
  have l : a < a + 1 := by omega
  have hp : Pc m2 (a + 1) (getPF x w t) := h3.2.2.cg (fun j hj => by simp [getPF, up1]; omega)
  have v2 : appearF x w t 2 = x 2 := rfl
  refine ⟨?_, ?_, hp.sI l⟩
  · unfold Sl at h3; simp [zget, h3]
  · unfold Sl at h3; simp [zget, getPF, up1, h3, v2]
end ZSM
