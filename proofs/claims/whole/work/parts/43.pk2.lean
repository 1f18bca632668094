theorem filter_pre {n : Int} : ∀ {l : List Int}, l.Pairwise (· < ·) → (l.filter (fun k => decide (k < n))) <+: l
  | [], _ => List.nil_prefix
  | k :: t, h => by
    rw [List.pairwise_cons] at h
    by_cases c : k < n
    · rw [List.filter_cons_of_pos (by simpa using c)]
      exact (List.cons_prefix_cons).mpr ⟨rfl, filter_pre h.2⟩
    · rw [List.filter_cons_of_neg (by simpa using c)]
      have e : t.filter (fun k => decide (k < n)) = [] := by
        rw [List.filter_eq_nil_iff]
        intro q hq
        have := h.1 q hq
        simp
        omega
      rw [e]
      exact List.nil_prefix
def shortF (y : zPk) (n : Int) : zPk := (y.1, n, y.2.2.1, y.2.2.2.filter (fun k => decide (k < n)))
section ZPL
variable {xs : Nat → Int} {xl d : Nat} {m : zM} {Q : zRes → zM → Prop}
theorem C_shorten {a : Nat} {y : zPk} {n : Int} (h : Pk m a y) (ho : pkOk y) (hQ : ∀ m', Pk m' a (shortF y n) → Fr (rg a (a + 2)) 0 0 m m' → Q (.inl none) m') : zC xs xl (d + 1) 42 [zR a, zI n] m Q := by
  obtain ⟨⟨h1, h2, h3, h4, h5⟩, ⟨i0, i1, i2, i3⟩, hl, hk⟩ := h
  have hr : rg a (a + 2) a := by unfold rg; omega
  have hpre := filter_pre (n := n) ho.2.2.2.2
  have hfl : (y.2.2.2.filter (fun k => decide (k < n))).length ≤ y.2.2.2.length := List.length_filter_le _ _
  have lp : ∀ (t s : List Int), y.2.2.2 = s ++ t → zW xs xl d cX4_shorten 4 (none) false [] 9 [zR a, zI n, zI ((s.filter (fun k => decide (k < n))).length : Int), zI (s.length : Int)] [] (sI m 257 a n) Q := by
    intro t
    induction t with
    | nil =>
      intro s e
      rw [List.append_nil] at e
      refine bX4_shorten_9 ⟨h1, fun _ => ?_, fun c => absurd ?_ c⟩
      · refine hQ _ ?_ ((Fr.rfl.sI hr).sI hr)
        rw [← e]
        refine ⟨⟨h1, h2, h3, h4, h5⟩, ?_, by show (y.2.2.2.filter _).length ≤ 8; omega, fun i k hi => ?_⟩
        · simp [zget, i0, i2, shortF]
        · refine hk i k ?_
          obtain ⟨u, hu⟩ := hpre
          have hi2 : (y.2.2.2.filter (fun k => decide (k < n)))[i]? = some k := hi
          rw [← hu, List.getElem?_append_left (List.getElem?_eq_some_iff.mp hi2).1]
          exact hi2
      · have e9 : mI (sI m 257 a n) 259 a = mI m 259 a := zm_In (by decide)
        rw [e9, i3, e]; omega
    | cons k t ih =>
      intro s e
      have hlen : y.2.2.2.length = s.length + (t.length + 1) := by rw [e]; simp
      have hat : mA m (a + 1) s.length = k := hk _ _ (by rw [e]; simp)
      have e9 : mI (sI m 257 a n) 259 a = mI m 259 a := zm_In (by decide)
      have hsl : (s.filter (fun k => decide (k < n))).length ≤ s.length := List.length_filter_le _ _
      have q := ih (s ++ [k]) (by rw [e]; simp)
      have e3 : wr ((s.length : Int) + 1) = ((s ++ [k]).length : Int) := by rw [wr_id (by omega) (by omega)]; simp
      refine bX4_shorten_9 ⟨h1, fun c => absurd c (by rw [e9, i3]; omega), fun _ => ⟨?_, ?_, ?_⟩⟩
      · show mC m (mR m 260 a) = 20
        rw [h2]; exact h3
      · show 0 ≤ (s.length : Int) ∧ (s.length : Int) < mN m (mR m 260 a)
        rw [h2, h4]; omega
      · show (n ≤ mA m (mR m 260 a) (Int.toNat s.length) → _) ∧ (¬ n ≤ mA m (mR m 260 a) (Int.toNat s.length) → _)
        rw [h2, Int.toNat_natCast, hat, e3]
        rw [List.filter_append] at q
        refine ⟨fun c => ?_, fun c => ?_⟩
        · rw [List.filter_cons_of_neg (by simpa using c), List.filter_nil, List.append_nil] at q
          exact q
        · rw [List.filter_cons_of_pos (by simp; omega), List.filter_nil] at q
          have e4 : wr (((s.filter (fun k => decide (k < n))).length : Int) + 1) = ((s.filter (fun k => decide (k < n)) ++ [k]).length : Int) := by rw [wr_id (by omega) (by omega)]; simp
          rw [e4]; exact q
  exact bX4_shorten_0 ⟨h1, lp y.2.2.2 [] rfl⟩
theorem C_pkCopy {a b : Nat} {x y : zPk} (h : Pk m a x) (g : Pk m b y) (hab : a + 2 ≤ b ∨ b + 2 ≤ a) (hQ : ∀ m', Pk m' a y → Fr (rg a (a + 2)) 0 0 m m' → Q (.inl none) m') : zC xs xl (d + 2) 44 [zR a, zR b] m Q := by
  have hr : rg a (a + 2) a := by unfold rg; omega
  have g0 := g
  obtain ⟨⟨g1, g2, g3, g4, g5⟩, ⟨i0, i1, i2, i3⟩, gl, gk⟩ := g0
  refine bX4_copyFrom_0 ⟨g1, h.1.1, ?_⟩
  rw [i0, i1, i2]
  refine C_become h (fun m2 h2 _ f2 => ?_)
  have s2 : Pk m2 b y := g.mv f2.2.1 (f2.1 b (by omega) (fun k => by unfold rg at k; omega)) (f2.1 (b + 1) (by omega) (fun k => by unfold rg at k; omega))
  obtain ⟨⟨k1, k2, k3, k4, k5⟩, ⟨j0, j1, j2, j3⟩, kl, kk⟩ := s2
  obtain ⟨⟨h1, h2', h3, h4, h5⟩, ⟨l0, l1, l2, l3⟩, hl, hk⟩ := h2
  refine ⟨rfl, k1, h1, ?_⟩
  rw [k2, h2', j3]
  refine ⟨⟨by omega, by omega, by omega, by rw [k4]; decide, by rw [h4]; decide, by rw [k3, h3], Or.inl k3, by omega⟩, hQ _ ?_ ((f2.sI hr).cpA (by unfold rg; omega))⟩
  refine ⟨⟨h1, h2', h3, h4, h5⟩, ?_, kl, fun i k hi => ?_⟩
  · simp [zget, l0, l1, l2]
  · have hlt := (List.getElem?_eq_some_iff.mp hi).1
    have e : mA (cpA (sI m2 259 a (y.2.2.2.length : Int)) (b + 1) 0 (a + 1) 0 8) (a + 1) i = mA m2 (b + 1) (0 + (i - 0)) := if_pos ⟨rfl, by omega, by omega⟩
    rw [e]
    simpa using kk i k hi
end ZPL
