theorem wr_s {i : Nat} (h : i < 1000000) : wr ((i : Int) + 1) = ((i + 1 : Nat) : Int) := by rw [wr_id (by omega) (by omega)]; omega
def endF (y : zPk) (n : Int) : zPk := (y.1, y.2.1 - n, y.2.2.1, (y.2.2.2.filter (fun k => decide (n ≤ k))).map (fun k => k - n))
theorem endL (s : List Int) (n k : Int) : ((s ++ [k]).filter (fun k => decide (n ≤ k))).map (fun k => k - n) = if n ≤ k then (s.filter (fun k => decide (n ≤ k))).map (fun k => k - n) ++ [k - n] else (s.filter (fun k => decide (n ≤ k))).map (fun k => k - n) := by
  rw [List.filter_append]
  by_cases c : n ≤ k
  · rw [if_pos c, List.filter_cons_of_pos (by simpa using c), List.filter_nil, List.map_append]
    rfl
  · rw [if_neg c, List.filter_cons_of_neg (by simpa using c), List.filter_nil, List.append_nil]
theorem Pk.push {m : zM} {a : Nat} {w l t v : Int} {acc : List Int} (h : Pk m a (w, l, t, acc)) (hl : acc.length < 8) : Pk (sI (sA m (a + 1) acc.length v) 259 a ((acc.length + 1 : Nat) : Int)) a (w, l, t, acc ++ [v]) := by
  obtain ⟨⟨h1, h2, h3, h4, h5⟩, ⟨l0, l1, l2, l3⟩, hl, hk⟩ := h
  have e1 : (acc ++ [v]).length = acc.length + 1 := by rw [List.length_append]; rfl
  refine ⟨⟨h1, h2, h3, h4, h5⟩, ⟨(zm_In (by decide)).trans l0, (zm_In (by decide)).trans l1, (zm_In (by decide)).trans l2, ?_⟩, ?_, fun i q hi => ?_⟩
  · show mI (sI (sA m (a + 1) acc.length v) 259 a _) 259 a = (((acc ++ [v]).length : Nat) : Int)
    rw [zm_Is, e1]
  · show (acc ++ [v]).length ≤ 8
    rw [e1]; omega
  · have hi' : (acc ++ [v])[i]? = some q := hi
    show mA (sA m (a + 1) acc.length v) (a + 1) i = q
    by_cases c : i = acc.length
    · subst c
      rw [zm_As]
      rw [List.getElem?_append_right (Nat.le_refl _), Nat.sub_self] at hi'
      exact Option.some.inj hi'
    · rw [zm_An c]
      have hlt := (List.getElem?_eq_some_iff.mp hi').1
      rw [e1] at hlt
      rw [List.getElem?_append_left (by omega)] at hi'
      exact hk i q hi'
section ZPM
variable {xs : Nat → Int} {xl d : Nat} {m : zM} {Q : zRes → zM → Prop}
theorem C_becomeEndOf {a b : Nat} {x y : zPk} {n : Int} (h : Pk m a x) (g : Pk m b y) (hab : a + 2 ≤ b ∨ b + 2 ≤ a) (ho : pkOk y) (hn : 0 ≤ n ∧ n ≤ 300) (hQ : ∀ m', Pk m' a (endF y n) → Fr (rg a (a + 2)) 0 0 m m' → Q (.inl none) m') : zC xs xl (d + 2) 41 [zR a, zR b, zI n] m Q := by
  have hr : rg a (a + 2) a := by unfold rg; omega
  have hr1 : rg a (a + 2) (a + 1) := by unfold rg; omega
  have g0 := g
  obtain ⟨⟨g1, g2, g3, g4, g5⟩, ⟨i0, i1, i2, i3⟩, gl, gk⟩ := g0
  have lp : ∀ (t s acc : List Int) (m1 : zM), y.2.2.2 = s ++ t → (s.filter (fun k => decide (n ≤ k))).map (fun k => k - n) = acc → acc.length ≤ s.length → Fr (rg a (a + 2)) 0 0 m m1 → Pk m1 a (y.1, y.2.1 - n, y.2.2.1, acc) → zW xs xl (d + 1) cX4_becomeEndOf 4 (none) false [] 20 [zR a, zR b, zI n, zI (s.length : Int)] [] m1 Q := by
    intro t
    induction t with
    | nil =>
      intro s acc m1 e ha hla f1 p1
      rw [List.append_nil] at e
      have s2 : Pk m1 b y := g.mv f1.2.1 (f1.1 b (by omega) (fun k => by unfold rg at k; omega)) (f1.1 (b + 1) (by omega) (fun k => by unfold rg at k; omega))
      refine bX4_becomeEndOf_20 ⟨s2.1.1, fun _ => hQ m1 (by unfold endF; rw [e, ha]; exact p1) f1, fun c => absurd ?_ c⟩
      rw [s2.2.1.2.2.2, e]; exact Int.le_refl _
    | cons k t ih =>
      intro s acc m1 e ha hla f1 p1
      have hlen : y.2.2.2.length = s.length + (t.length + 1) := by rw [e, List.length_append, List.length_cons]
      have s2 : Pk m1 b y := g.mv f1.2.1 (f1.1 b (by omega) (fun k => by unfold rg at k; omega)) (f1.1 (b + 1) (by omega) (fun k => by unfold rg at k; omega))
      obtain ⟨⟨k1, k2, k3, k4, k5⟩, ⟨j0, j1, j2, j3⟩, kl, kk⟩ := s2
      have hat : mA m1 (b + 1) s.length = k := kk _ _ (by rw [e, List.getElem?_append_right (Nat.le_refl _), Nat.sub_self]; rfl)
      have hkk := ho.2.2.2.1 k (by rw [e]; exact List.mem_append_right _ List.mem_cons_self)
      have ho2 := ho.2.1
      have es : (s ++ [k]).length = s.length + 1 := by rw [List.length_append]; rfl
      have ee : y.2.2.2 = (s ++ [k]) ++ t := by rw [e, List.append_assoc]; rfl
      have hE := endL s n k
      rw [ha] at hE
      refine bX4_becomeEndOf_20 ⟨k1, fun c => absurd c (by rw [j3]; omega), fun _ => ⟨by rw [k2]; exact k3, by rw [k2, k4]; omega, ?_⟩⟩
      rw [k2, Int.toNat_natCast, hat, wr_s (by omega), ← es]
      have l3' : mI m1 259 a = (acc.length : Int) := p1.2.1.2.2.2
      refine ⟨fun c => ?_, fun c => ⟨p1.1.1, by rw [p1.1.2.1, p1.1.2.2.2.1, l3']; omega, by rw [p1.1.2.1]; exact p1.1.2.2.1, ?_⟩⟩
      · rw [if_neg (by omega)] at hE
        exact ih (s ++ [k]) acc m1 ee hE (by omega) f1 p1
      · rw [if_pos (by omega)] at hE
        rw [p1.1.2.1, l3', wr_id (x := k - n) (by omega) (by omega), wr_s (by omega), Int.toNat_natCast]
        exact ih (s ++ [k]) (acc ++ [k - n]) _ ee hE (by rw [List.length_append, es]; exact Nat.add_le_add_right hla 1) ((f1.sA hr1).sI hr) (p1.push (by omega))
  have e1 : wr (y.2.1 - n) = y.2.1 - n := by have := ho.2.1; exact wr_id (by omega) (by omega)
  refine bX4_becomeEndOf_0 ⟨g1, h.1.1, ?_⟩
  rw [i0, i1, i2, e1]
  exact C_become h (fun m2 h2 _ f2 => ⟨rfl, lp y.2.2.2 [] [] m2 rfl rfl (Nat.le_refl _) f2 h2⟩)
end ZPM
