def endF (y : zPk) (n : Int) : zPk := (y.1, y.2.1 - n, y.2.2.1, (y.2.2.2.filter (fun k => decide (n ≤ k))).map (fun k => k - n))
section ZPM
variable {xs : Nat → Int} {xl d : Nat} {m : zM} {Q : zRes → zM → Prop}
theorem C_becomeEndOf {a b : Nat} {x y : zPk} {n : Int} (h : Pk m a x) (g : Pk m b y) (hab : a + 2 ≤ b ∨ b + 2 ≤ a) (ho : pkOk y) (hn : 0 ≤ n ∧ n ≤ 300) (hQ : ∀ m', Pk m' a (endF y n) → Fr (rg a (a + 2)) 0 0 m m' → Q (.inl none) m') : zC xs xl (d + 2) 41 [zR a, zR b, zI n] m Q := by
  have hr : rg a (a + 2) a := by unfold rg; omega
  have hr1 : rg a (a + 2) (a + 1) := by unfold rg; omega
  have g0 := g
  obtain ⟨⟨g1, g2, g3, g4, g5⟩, ⟨i0, i1, i2, i3⟩, gl, gk⟩ := g0
  have lp : ∀ (t s : List Int) (m1 : zM), y.2.2.2 = s ++ t → Fr (rg a (a + 2)) 0 0 m m1 → Pk m1 a (y.1, y.2.1 - n, y.2.2.1, (s.filter (fun k => decide (n ≤ k))).map (fun k => k - n)) → zW xs xl (d + 1) cX4_becomeEndOf 4 (none) false [] 20 [zR a, zR b, zI n, zI (s.length : Int)] [] m1 Q := by
    intro t
    induction t with
    | nil =>
      intro s m1 e f1 p1
      rw [List.append_nil] at e
      have s2 : Pk m1 b y := g.mv f1.2.1 (f1.1 b (by omega) (fun k => by unfold rg at k; omega)) (f1.1 (b + 1) (by omega) (fun k => by unfold rg at k; omega))
      refine bX4_becomeEndOf_20 ⟨s2.1.1, fun _ => hQ m1 (by unfold endF; rw [e]; exact p1) f1, fun c => absurd ?_ c⟩
      rw [s2.2.1.2.2.2, e]; omega
    | cons k t ih =>
      intro s m1 e f1 p1
      have hlen : y.2.2.2.length = s.length + (t.length + 1) := by rw [e]; simp
      have s2 : Pk m1 b y := g.mv f1.2.1 (f1.1 b (by omega) (fun k => by unfold rg at k; omega)) (f1.1 (b + 1) (by omega) (fun k => by unfold rg at k; omega))
      obtain ⟨⟨k1, k2, k3, k4, k5⟩, ⟨j0, j1, j2, j3⟩, kl, kk⟩ := s2
      have hat : mA m1 (b + 1) s.length = k := kk _ _ (by rw [e]; simp)
      have hkk := ho.2.2.2.1 k (by rw [e]; simp)
      have ho2 := ho.2.1
      have hsl : (s.filter (fun k => decide (n ≤ k))).length ≤ s.length := List.length_filter_le _ _
      have e3 : wr ((s.length : Int) + 1) = ((s ++ [k]).length : Int) := by rw [wr_id (by omega) (by omega)]; simp
      refine bX4_becomeEndOf_20 ⟨k1, fun c => absurd c (by rw [j3]; omega), fun _ => ⟨by rw [k2]; exact k3, by rw [k2, k4]; omega, ?_⟩⟩
      rw [k2, Int.toNat_natCast, hat, e3]
      obtain ⟨⟨h1, h2, h3, h4, h5⟩, ⟨l0, l1, l2, l3⟩, hl, hk⟩ := p1
      have l3' : mI m1 259 a = ((s.filter (fun k => decide (n ≤ k))).length : Int) := by rw [l3]; simp
      refine ⟨fun c => ?_, fun c => ⟨h1, by rw [h2, h4, l3']; omega, by rw [h2]; exact h3, ?_⟩⟩
      · refine ih (s ++ [k]) m1 (by rw [e]; simp) f1 ?_
        rw [List.filter_append, List.filter_cons_of_neg (by simp; omega), List.filter_nil, List.append_nil]
        exact ⟨⟨h1, h2, h3, h4, h5⟩, ⟨l0, l1, l2, l3⟩, hl, hk⟩
      · have e4 : wr (k - n) = k - n := wr_id (by omega) (by omega)
        have e5 : wr (((s.filter (fun k => decide (n ≤ k))).length : Int) + 1) = (((s.filter (fun k => decide (n ≤ k))).length + 1 : Nat) : Int) := by rw [wr_id (by omega) (by omega)]; omega
        rw [h2, l3', e4, e5, Int.toNat_natCast]
        refine ih (s ++ [k]) _ (by rw [e]; simp) ((f1.sA hr1).sI hr) ?_
        rw [List.filter_append, List.filter_cons_of_pos (by simp; omega), List.filter_nil, List.map_append]
        refine ⟨⟨h1, h2, h3, h4, h5⟩, ?_, by simp; omega, fun i q hi => ?_⟩
        · simp [zget, l0, l1, l2]
        · have e6 : mA (sI (sA m1 (a + 1) (s.filter (fun k => decide (n ≤ k))).length (k - n)) 259 a (((s.filter (fun k => decide (n ≤ k))).length + 1 : Nat) : Int)) (a + 1) i = if a + 1 = a + 1 ∧ i = (s.filter (fun k => decide (n ≤ k))).length then k - n else mA m1 (a + 1) i := rfl
          rw [e6]
          have hi' : ((s.filter (fun k => decide (n ≤ k))).map (fun k => k - n) ++ [k - n])[i]? = some q := hi
          by_cases ci : i = (s.filter (fun k => decide (n ≤ k))).length
          · rw [if_pos ⟨rfl, ci⟩]
            rw [List.getElem?_append_right (by simp; omega)] at hi'
            have ez : i - ((s.filter (fun k => decide (n ≤ k))).map (fun k => k - n)).length = 0 := by simp; omega
            rw [ez] at hi'
            exact Option.some.inj hi'
          · rw [if_neg (fun q => ci q.2)]
            have hlt := (List.getElem?_eq_some_iff.mp hi').1
            simp only [List.length_append, List.length_map, List.length_cons, List.length_nil] at hlt
            rw [List.getElem?_append_left (by simp; omega)] at hi'
            exact hk i q hi'
  have e1 : wr (y.2.1 - n) = y.2.1 - n := by have := ho.2.1; exact wr_id (by omega) (by omega)
  refine bX4_becomeEndOf_0 ⟨g1, h.1.1, ?_⟩
  rw [i0, i1, i2, e1]
  exact C_become h (fun m2 h2 _ f2 => ⟨rfl, lp y.2.2.2 [] m2 rfl f2 h2⟩)
end ZPM
