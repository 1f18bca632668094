def insF (y : zPk) (p : Int) : zPk := (y.1, y.2.1, y.2.2.1, y.2.2.2.filter (fun k => decide (k < p)) ++ p :: y.2.2.2.filter (fun k => decide (p < k)))
theorem ins_at {s t : List Int} {p k : Int} {j : Nat} (h : (s ++ p :: t)[j]? = some k) : (j < s.length ∧ s[j]? = some k) ∨ (j = s.length ∧ k = p) ∨ (s.length < j ∧ t[j - s.length - 1]? = some k) := by
  by_cases c : j < s.length
  · rw [List.getElem?_append_left c] at h
    exact Or.inl ⟨c, h⟩
  · rw [List.getElem?_append_right (by omega)] at h
    by_cases c2 : j = s.length
    · subst c2
      rw [Nat.sub_self] at h
      exact Or.inr (Or.inl ⟨rfl, (Option.some.inj h).symm⟩)
    · obtain ⟨q, hq⟩ : ∃ q, j - s.length = q + 1 := ⟨j - s.length - 1, by omega⟩
      rw [hq] at h
      refine Or.inr (Or.inr ⟨by omega, ?_⟩)
      rw [hq]
      exact h
theorem ins_eq {s t : List Int} {p : Int} (hs : ∀ k ∈ s, k < p) (ht : ∀ k ∈ t, p < k) : (s ++ t).filter (fun k => decide (k < p)) ++ p :: (s ++ t).filter (fun k => decide (p < k)) = s ++ p :: t := by
  have a1 : s.filter (fun k => decide (k < p)) = s := List.filter_eq_self.mpr (fun k hk => decide_eq_true (hs k hk))
  have a2 : t.filter (fun k => decide (k < p)) = [] := List.filter_eq_nil_iff.mpr (fun k hk => by have := ht k hk; exact fun q => absurd (of_decide_eq_true q) (by omega))
  have a3 : s.filter (fun k => decide (p < k)) = [] := List.filter_eq_nil_iff.mpr (fun k hk => by have := hs k hk; exact fun q => absurd (of_decide_eq_true q) (by omega))
  have a4 : t.filter (fun k => decide (p < k)) = t := List.filter_eq_self.mpr (fun k hk => decide_eq_true (ht k hk))
  rw [List.filter_append, List.filter_append, a1, a2, a3, a4, List.append_nil, List.nil_append]
section ZPI
variable {xs : Nat → Int} {xl d : Nat} {m : zM} {Q : zRes → zM → Prop}
theorem C_insertKnot {a : Nat} {y : zPk} {p : Int} (h : Pk m a y) (hl8 : y.2.2.2.length < 8) (hw : y.2.2.2.Pairwise (· < ·)) (hp : p ∉ y.2.2.2) (hQ : ∀ m', Pk m' a (insF y p) → Fr (rg a (a + 2)) 0 0 m m' → Q (.inl none) m') : zC xs xl (d + 1) 38 [zR a, zI p] m Q := by
  have hr : rg a (a + 2) a := by unfold rg; omega
  have hr1 : rg a (a + 2) (a + 1) := by unfold rg; omega
  obtain ⟨⟨h1, h2, h3, h4, h5⟩, ⟨i0, i1, i2, i3⟩, hl, hk⟩ := h
  have hend : ∀ (s t : List Int) (m1 : zM), y.2.2.2 = s ++ t → (∀ k ∈ t, p < k) → (∀ k ∈ s, k < p) → (∀ (j : Nat) (k : Int), s[j]? = some k → mA m1 (a + 1) j = k) → (∀ (j : Nat) (k : Int), t[j]? = some k → mA m1 (a + 1) (s.length + 1 + j) = k) → (mI m1 = mI m ∧ mR m1 = mR m ∧ mC m1 = mC m ∧ mN m1 = mN m ∧ mz m1 = mz m) → Fr (rg a (a + 2)) 0 0 m m1 → zW xs xl d cX4_insertKnot 4 (none) false [] 51 [zR a, zI p, zI (s.length : Int)] [] m1 Q := by
    intro s t m1 e ht hs cs ct hh f1
    have hlen : y.2.2.2.length = s.length + t.length := by rw [e, List.length_append]
    obtain ⟨g1, g2, g3, g4, g5⟩ := hh
    refine bX4_insertKnot_51 ?_
    rw [g1, g2, g3, g4, h2, i3]
    refine ⟨h1, by rw [h4]; omega, h3, hQ _ ?_ ((f1.sA hr1).sI hr)⟩
    have ei : insF y p = (y.1, y.2.1, y.2.2.1, s ++ p :: t) := by unfold insF; rw [e, ins_eq hs ht]
    have el : (s ++ p :: t).length = y.2.2.2.length + 1 := by rw [List.length_append, List.length_cons]; omega
    rw [ei]
    refine ⟨⟨?_, ?_, ?_, ?_, ?_⟩, ⟨(zm_In (by decide)).trans ?_, (zm_In (by decide)).trans ?_, (zm_In (by decide)).trans ?_, ?_⟩, by show (s ++ p :: t).length ≤ 8; omega, fun j k hj => ?_⟩
    · show mC m1 a = 5
      rw [g3]; exact h1
    · show mR m1 260 a = a + 1
      rw [g2]; exact h2
    · show mC m1 (a + 1) = 20
      rw [g3]; exact h3
    · show mN m1 (a + 1) = 8
      rw [g4]; exact h4
    · show a + 2 ≤ mz m1
      rw [g5]; exact h5
    · show mI m1 256 a = y.1
      rw [g1]; exact i0
    · show mI m1 257 a = y.2.1
      rw [g1]; exact i1
    · show mI m1 258 a = y.2.2.1
      rw [g1]; exact i2
    · show mI (sI _ 259 a (wr ((y.2.2.2.length : Int) + 1))) 259 a = (((s ++ p :: t).length : Nat) : Int)
      rw [zm_Is, wr_id (by omega) (by omega), el]
      omega
    · have hj' : (s ++ p :: t)[j]? = some k := hj
      show mA (sA m1 (a + 1) (Int.toNat (s.length : Int)) p) (a + 1) j = k
      rw [Int.toNat_natCast]
      rcases ins_at hj' with ⟨c, q⟩ | ⟨c, q⟩ | ⟨c, q⟩
      · rw [zm_An (by omega)]; exact cs j k q
      · rw [c, zm_As, q]
      · rw [zm_An (by omega)]
        have := ct _ k q
        rwa [show s.length + 1 + (j - s.length - 1) = j by omega] at this
  have lp : ∀ (i : Nat) (s t : List Int) (m1 : zM), s.length = i → y.2.2.2 = s ++ t → (∀ k ∈ t, p < k) → (∀ (j : Nat) (k : Int), s[j]? = some k → mA m1 (a + 1) j = k) → (∀ (j : Nat) (k : Int), t[j]? = some k → mA m1 (a + 1) (s.length + 1 + j) = k) → (mI m1 = mI m ∧ mR m1 = mR m ∧ mC m1 = mC m ∧ mN m1 = mN m ∧ mz m1 = mz m) → Fr (rg a (a + 2)) 0 0 m m1 → zW xs xl d cX4_insertKnot 4 (none) false [] 15 [zR a, zI p, zI (i : Int)] [] m1 Q := by
    intro i
    induction i with
    | zero =>
      intro s t m1 hsl e ht cs ct hh f1
      have es : s = [] := List.length_eq_zero_iff.mp hsl
      subst es
      exact bX4_insertKnot_15 ⟨fun _ => hend [] t m1 e ht (fun k q => absurd q List.not_mem_nil) cs ct hh f1, fun c => absurd (by omega) c⟩
    | succ n ih =>
      intro s t m1 hsl e ht cs ct hh f1
      have hne : s ≠ [] := fun q => by rw [q] at hsl; exact absurd hsl (by simp)
      obtain ⟨s', q, rfl⟩ : ∃ s' q, s = s' ++ [q] := ⟨s.dropLast, s.getLast hne, (List.dropLast_concat_getLast hne).symm⟩
      have hl1 : (s' ++ [q]).length = s'.length + 1 := by rw [List.length_append]; rfl
      have hlen : y.2.2.2.length = (s' ++ [q]).length + t.length := by rw [e, List.length_append]
      have hn : s'.length = n := by omega
      have hat : mA m1 (a + 1) n = q := cs n q (by rw [List.getElem?_append_right (by omega), hn, Nat.sub_self]; rfl)
      have hw2 := hw
      rw [e, List.pairwise_append, List.pairwise_append] at hw2
      have hqp : q ≠ p := fun c => hp (by rw [e, c]; simp)
      obtain ⟨g1, g2, g3, g4, g5⟩ := hh
      have ew : wr (((n + 1 : Nat) : Int) - 1) = (n : Int) := by rw [wr_id (by omega) (by omega)]; omega
      have ew2 : wr (((n + 1 : Nat) : Int) + (-1)) = (n : Int) := by rw [wr_id (by omega) (by omega)]; omega
      refine bX4_insertKnot_15 ⟨fun c => absurd c (by omega), fun _ => ?_⟩
      rw [ew, ew2, g2, h2, Int.toNat_natCast, hat, g3, g4]
      refine ⟨h1, h3, by rw [h4]; omega, fun c => ?_, fun c => ⟨by rw [h4]; omega, ?_⟩⟩
      · have qq := hend (s' ++ [q]) t m1 e ht (fun k hk => ?_) cs ct ⟨g1, g2, g3, g4, g5⟩ f1
        · rwa [hsl] at qq
        · rcases List.mem_append.mp hk with c1 | c1
          · have := hw2.1.2.2 k c1 q (List.mem_singleton.mpr rfl)
            omega
          · rw [List.mem_singleton] at c1
            omega
      · rw [Int.toNat_natCast]
        refine ih s' (q :: t) _ hn (by rw [e, List.append_assoc]; rfl) (fun k hk => ?_) (fun j k hj => ?_) (fun j k hj => ?_) ⟨g1, g2, g3, g4, g5⟩ (f1.sA hr1)
        · rcases List.mem_cons.mp hk with c1 | c1
          · omega
          · exact ht k c1
        · have hlt := (List.getElem?_eq_some_iff.mp hj).1
          rw [zm_An (by omega)]
          exact cs j k (by rw [List.getElem?_append_left hlt]; exact hj)
        · cases j with
          | zero =>
            have : q = k := Option.some.inj hj
            rw [show s'.length + 1 + 0 = n + 1 by omega, zm_As, this]
          | succ j =>
            rw [zm_An (by omega)]
            have := ct j k hj
            rwa [show (s' ++ [q]).length + 1 + j = s'.length + 1 + (j + 1) by omega] at this
  refine bX4_insertKnot_0 ⟨h1, fun _ => ?_, fun c => absurd (by rw [i3]; omega) c⟩
  rw [i3]
  refine lp _ y.2.2.2 [] m rfl (List.append_nil _).symm (fun k q => absurd q List.not_mem_nil) hk (fun j k q => absurd q (by simp)) ⟨rfl, rfl, rfl, rfl, rfl⟩ Fr.rfl
end ZPI
