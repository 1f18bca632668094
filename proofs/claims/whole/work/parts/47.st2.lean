/-! cutting a piece away -/
abbrev cutB (n : Nat) (y : zPk) (p l : Int) : Prop := y.2.1 - (p + l) < 10 ∨ 60 ≤ n
def cutN (n : Nat) (y : zPk) (p l : Int) : Nat := if cutB n y p l then n else n + 1
def cutW (w : Int) (n : Nat) (y : zPk) (p l : Int) : Int := if p < 10 then wr ((if cutB n y p l then wr (w + (y.2.1 - (p + l))) else w) + p) else (if cutB n y p l then wr (w + (y.2.1 - (p + l))) else w)
def cutY (n : Nat) (y : Nat → zPk) (j : Nat) (p l : Int) : Nat → zPk := up1 (if cutB n (y j) p l then y else up1 y n (endF (y j) (p + l))) j (shortF (y j) (if p < 10 then 0 else p))
section ZSC
variable {xs : Nat → Int} {xl d : Nat} {m : zM} {Q : zRes → zM → Prop}
theorem C_cutAway {s n j : Nat} {w q l : Int} {y : Nat → zPk} (h : St m s w n y) (hj : j < n) (ho : pkOk (y j)) (hp : 0 ≤ q ∧ 0 ≤ l ∧ q + l ≤ (y j).2.1) (hQ : ∀ m', St m' s (cutW w n (y j) q l) (cutN n (y j) q l) (cutY n y j q l) → Fr (rg s (s + 122)) 0 0 m m' → Q (.inl none) m') : zC xs xl (d + 3) 77 [zR s, zR (s + 2 + 2 * j), zI q, zI l] m Q := by
  have h0 := h
  obtain ⟨⟨h1, h2, h3, h4, h5⟩, ⟨j0, j1, j2⟩, hpk⟩ := h
  have hj60 : j < 60 := by omega
  have pj := (h0.at hj hj60).2
  have hl3 := ho.2.1
  have hr : rg s (s + 122) s := by unfold rg; omega
  have e1 : wr (q + l) = q + l := wr_id (by omega) (by omega)
  have e2 : wr ((y j).2.1 - (q + l)) = (y j).2.1 - (q + l) := wr_id (by omega) (by omega)
  have h69 : ∀ (m1 : zM) (w1 : Int) (n1 : Nat) (y1 : Nat → zPk) (u v : Int), St m1 s w1 n1 y1 → j < n1 → y1 j = y j → Fr (rg s (s + 122)) 0 0 m m1 → (∀ m', St m' s (if q < 10 then wr (w1 + q) else w1) n1 (up1 y1 j (shortF (y j) (if q < 10 then 0 else q))) → Fr (rg s (s + 122)) 0 0 m m' → Q (.inl none) m') → zW xs xl (d + 2) cX7_cutAway 7 (none) false [] 69 [zR s, zR (s + 2 + 2 * j), zI q, zI l, zI u, zI v] [] m1 Q := by
    intro m1 w1 n1 y1 u v g hjn ey f hq
    have gj := (g.at hjn hj60).2
    rw [ey] at gj
    refine bX7_cutAway_69 ⟨fun c => ⟨gj.1.1, C_shorten gj ho (fun m2 p2 f2 => ⟨rfl, ?_⟩)⟩, fun c => ⟨g.1.1, gj.1.1, ?_⟩⟩
    · rw [if_neg (by omega), if_neg (by omega)] at hq
      exact hq m2 (g.up hj60 f2 p2) (f.tr0 (f2.rg (by omega) (by omega)))
    · rw [if_pos (by omega), if_pos (by omega)] at hq
      rw [g.2.1.2.1]
      refine C_shorten (gj.sI (by omega)) ho (fun m2 p2 f2 => ⟨rfl, ?_⟩)
      exact hq m2 (g.w.up hj60 f2 p2) ((f.sI hr).tr0 (f2.rg (by omega) (by omega)))
  refine bX7_cutAway_0 ⟨pj.1.1, ?_⟩
  rw [pj.2.1.2.1, e1, e2, j1]
  unfold cutW cutN cutY at hQ
  refine ⟨fun c => ⟨h1, ?_⟩, fun c => ⟨h1, fun c2 => ⟨by rw [h2, h3]; decide, by rw [h2, h4, j0]; omega, ?_⟩, fun c2 => ?_⟩⟩
  · rw [if_pos (Or.inl c), if_pos (Or.inl c), if_pos (Or.inl c)] at hQ
    exact h69 _ _ _ _ _ _ h0.w hj rfl (Fr.rfl.sI hr) hQ
  · have cn : ¬ cutB n (y j) q l := by rw [j0] at c2; unfold cutB; omega
    rw [if_neg cn, if_neg cn, if_neg cn] at hQ
    have hn : n < 60 := by rw [j0] at c2; omega
    obtain ⟨pn1, v0, pn2, -⟩ := hpk n hn
    rw [h2, j0, Int.toNat_natCast, pn1]
    refine ⟨pn2.1.1, C_becomeEndOf pn2 pj (by omega) ho (by omega) (fun m6 p6 f6 => ?_)⟩
    have s6 := h0.app hn f6 p6
    refine ⟨rfl, s6.1.1, ?_⟩
    rw [s6.2.1.1, wr_s (by omega)]
    exact h69 _ _ _ _ _ _ (s6.n (n' := n + 1) (by omega) rfl) (by omega) (if_neg (by omega)) ((f6.rg (by omega) (by omega)).sI hr) hQ
  · have cn : cutB n (y j) q l := Or.inr (by rw [j0] at c2; omega)
    rw [if_pos cn, if_pos cn, if_pos cn] at hQ
    exact h69 _ _ _ _ _ _ h0.w hj rfl (Fr.rfl.sI hr) hQ
end ZSC
