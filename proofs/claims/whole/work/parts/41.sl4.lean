def flagOk (x : Nat → Int) : Prop := (x 0 = 0 ∨ x 0 = 1) ∧ (x 5 = 0 ∨ x 5 = 1) ∧ (x 11 = 0 ∨ x 11 = 1)
section ZSO
variable {xs : Nat → Int} {xl d : Nat} {m : zM} {Q : zRes → zM → Prop}
theorem C_slTell {a p : Nat} {x : Nat → Int} {k : Nat} (h : Sl m a p x) (hf : flagOk x) (hk : k < 15) (hQ : Q (.inl (some (zI (x k)))) m) : zC xs xl (d + 1) 72 [zR a, zI k] m Q := by
  have g := h
  unfold Sl Pc at g
  obtain ⟨⟨g1, g2, g3, -⟩, ⟨i0, i1, i15, i14, i2, i16, i17, i3, i4, i13, i12, i9, i10, i11⟩, ⟨p1, -⟩, ⟨p5, p18, p6, p7, p8⟩, -⟩ := g
  exact bX6_tell_0 ⟨fun c0 => by
        have e : k = 0 := by omega
        subst e
        refine bX6_tell_72 ⟨g1, ?_⟩
        rw [i0]
        rcases hf.1 with q | q
        · rw [q] at hQ ⊢; exact ⟨fun _ => hQ, fun c => absurd rfl c⟩
        · rw [q] at hQ ⊢; exact ⟨fun c => absurd c (by decide), fun _ => hQ⟩,
      fun c0 => ⟨fun c1 => by
        have e : k = 1 := by omega
        subst e
        refine bX6_tell_85 ⟨g1, ?_⟩
        rw [i1]
        exact hQ,
      fun c1 => ⟨fun c2 => by
        have e : k = 2 := by omega
        subst e
        refine bX6_tell_90 ⟨g1, ?_⟩
        rw [i2]
        exact hQ,
      fun c2 => ⟨fun c3 => by
        have e : k = 3 := by omega
        subst e
        refine bX6_tell_95 ⟨g1, ?_⟩
        rw [i3]
        exact hQ,
      fun c3 => ⟨fun c4 => by
        have e : k = 4 := by omega
        subst e
        refine bX6_tell_100 ⟨g1, ?_⟩
        rw [i4]
        exact hQ,
      fun c4 => ⟨fun c5 => by
        have e : k = 5 := by omega
        subst e
        refine bX6_tell_105 ⟨g1, by rw [g2]; exact p1, ?_⟩
        rw [g2, p5]
        rcases hf.2.1 with q | q
        · rw [q] at hQ ⊢; exact ⟨fun _ => hQ, fun c => absurd rfl c⟩
        · rw [q] at hQ ⊢; exact ⟨fun c => absurd c (by decide), fun _ => hQ⟩,
      fun c5 => ⟨fun c6 => by
        have e : k = 6 := by omega
        subst e
        refine bX6_tell_121 ⟨g1, by rw [g2]; exact p1, ?_⟩
        rw [g2, p6]
        exact hQ,
      fun c6 => ⟨fun c7 => by
        have e : k = 7 := by omega
        subst e
        refine bX6_tell_129 ⟨g1, by rw [g2]; exact p1, ?_⟩
        rw [g2, p7]
        exact hQ,
      fun c7 => ⟨fun c8 => by
        have e : k = 8 := by omega
        subst e
        refine bX6_tell_137 ⟨g1, by rw [g2]; exact p1, ?_⟩
        rw [g2, p8]
        exact hQ,
      fun c8 => ⟨fun c9 => by
        have e : k = 9 := by omega
        subst e
        refine bX6_tell_145 ⟨g1, ?_⟩
        rw [i9]
        exact hQ,
      fun c9 => ⟨fun c10 => by
        have e : k = 10 := by omega
        subst e
        refine bX6_tell_150 ⟨g1, ?_⟩
        rw [i10]
        exact hQ,
      fun c10 => ⟨fun c11 => by
        have e : k = 11 := by omega
        subst e
        refine bX6_tell_155 ⟨g1, ?_⟩
        rw [i11]
        rcases hf.2.2 with q | q
        · rw [q] at hQ ⊢; exact ⟨fun _ => hQ, fun c => absurd rfl c⟩
        · rw [q] at hQ ⊢; exact ⟨fun c => absurd c (by decide), fun _ => hQ⟩,
      fun c11 => ⟨fun c12 => by
        have e : k = 12 := by omega
        subst e
        refine bX6_tell_168 ⟨g1, ?_⟩
        rw [i12]
        exact hQ,
      fun c12 => ⟨fun c13 => by
        have e : k = 13 := by omega
        subst e
        refine bX6_tell_173 ⟨g1, ?_⟩
        rw [i13]
        exact hQ,
      fun c13 => by
        have e : k = 14 := by omega
        subst e
        refine bX6_tell_178 ⟨g1, ?_⟩
        rw [i14]
        exact hQ⟩⟩⟩⟩⟩⟩⟩⟩⟩⟩⟩⟩⟩⟩
theorem C_slCopy {a b p q : Nat} {x y : Nat → Int} (h : Sl m a p x) (g : Sl m b q y) (hab : a + 4 ≤ b ∨ b + 4 ≤ a) (hf : flagOk y) (hQ : ∀ m', Sl m' a q y → Fr (rg a (a + 4)) 0 0 m m' → Q (.inl none) m') : zC xs xl (d + 2) 73 [zR a, zR b] m Q := by
  have hr : rg a (a + 4) a := by unfold rg; omega
  have l : a < a + 1 := by omega
  have gv := g
  unfold Sl at gv
  obtain ⟨⟨g1, g2, g3, g4⟩, ⟨i0, i1, i15, i14, i2, i16, i17, i3, i4, i13, i12, i9, i10, i11⟩, gp⟩ := gv
  refine bX6_copyFrom_0 ⟨g1, h.1.1, ?_⟩
  rw [g3, i1, i15, i14]
  refine C_begin h (fun m2 h2 f2 => ?_)
  have s2 : Sl m2 b q y := g.mv f2.2.1 (fun c hc1 hc2 => f2.1 c (by omega) (fun k => by unfold rg at k; omega))
  have gv := s2
  unfold Sl at gv
  obtain ⟨⟨g1, g2, g3, g4⟩, ⟨i0, i1, i15, i14, i2, i16, i17, i3, i4, i13, i12, i9, i10, i11⟩, gp⟩ := gv
  refine ⟨rfl, g1, h2.1.1, by rw [i0]; exact hf.1, by rw [h2.1.2.1]; exact h2.2.2.1.1, ?_⟩
  rw [h2.1.2.1, g2, i0, i2, i16, i17, i3, i4, i13]
  have h3 : Sl (sI (sI (sI (sI (sI (sI (sI m2 384 a (y 0)) 389 a (y 2)) 390 a (y 16)) 391 a (y 17)) 392 a (y 3)) 393 a (y 4)) 394 a (y 13)) a q (up1 (up1 (up1 (up1 (up1 (up1 (up1 (beginF x (y 1) (y 15) (y 14)) 0 (y 0)) 2 (y 2)) 16 (y 16)) 17 (y 17)) 3 (y 3)) 4 (y 4)) 13 (y 13)) := by
    have hp : Pc m2 (a + 1) (up1 (up1 (up1 (up1 (up1 (up1 (up1 (beginF x (y 1) (y 15) (y 14)) 0 (y 0)) 2 (y 2)) 16 (y 16)) 17 (y 17)) 3 (y 3)) 4 (y 4)) 13 (y 13)) := h2.2.2.cg (fun j hj => by simp [up1]; omega)
    refine ⟨?_, ?_, ((((((hp.sI l).sI l).sI l).sI l).sI l).sI l).sI l⟩
    · unfold Sl at h2; simp [zget, h2]
    · unfold Sl at h2; simp [zget, up1, h2]
  have f3 : Fr (rg a (a + 4)) 0 0 m (sI (sI (sI (sI (sI (sI (sI m2 384 a (y 0)) 389 a (y 2)) 390 a (y 16)) 391 a (y 17)) 392 a (y 3)) 393 a (y 4)) 394 a (y 13)) := ((((((f2.sI hr).sI hr).sI hr).sI hr).sI hr).sI hr).sI hr
  have s3 := g.mv f3.2.1 (fun c hc1 hc2 => f3.1 c (by omega) (fun k => by unfold rg at k; omega))
  refine C_pcCopy h3.2.2 s3.2.2 (by omega) hf.2.1 (fun m4 h4 f4 => ?_)
  have hz := h.1.2.2.2
  have hz3 := h3.1.2.2.2
  have h5 : Sl m4 a q (fun k => if (5 ≤ k ∧ k ≤ 8) ∨ (18 ≤ k ∧ k ≤ 25) then y k else (up1 (up1 (up1 (up1 (up1 (up1 (up1 (beginF x (y 1) (y 15) (y 14)) 0 (y 0)) 2 (y 2)) 16 (y 16)) 17 (y 17)) 3 (y 3)) 4 (y 4)) 13 (y 13)) k) := h3.pc f4.2.1 (f4.1 a (by omega) (fun k => by unfold rg at k; omega)) (h4.cg (fun k hk => if_pos hk)) (fun k hk => if_neg hk)
  have f5 := f3.tr0 (f4.rg (lo' := a) (hi' := a + 4) (by omega) (by omega))
  have s5 := g.mv f5.2.1 (fun c hc1 hc2 => f5.1 c (by omega) (fun k => by unfold rg at k; omega))
  have gv := s5
  unfold Sl at gv
  obtain ⟨⟨g1, g2, g3, g4⟩, ⟨i0, i1, i15, i14, i2, i16, i17, i3, i4, i13, i12, i9, i10, i11⟩, gp⟩ := gv
  refine ⟨rfl, g1, h5.1.1, ?_⟩
  rw [i12, i9, i10, i11]
  have h6 : Sl (sI m4 396 a (y 12)) a q (up1 (fun k => if (5 ≤ k ∧ k ≤ 8) ∨ (18 ≤ k ∧ k ≤ 25) then y k else (up1 (up1 (up1 (up1 (up1 (up1 (up1 (beginF x (y 1) (y 15) (y 14)) 0 (y 0)) 2 (y 2)) 16 (y 16)) 17 (y 17)) 3 (y 3)) 4 (y 4)) 13 (y 13)) k) 12 (y 12)) := by
    have hp : Pc m4 (a + 1) (up1 (fun k => if (5 ≤ k ∧ k ≤ 8) ∨ (18 ≤ k ∧ k ≤ 25) then y k else (up1 (up1 (up1 (up1 (up1 (up1 (up1 (beginF x (y 1) (y 15) (y 14)) 0 (y 0)) 2 (y 2)) 16 (y 16)) 17 (y 17)) 3 (y 3)) 4 (y 4)) 13 (y 13)) k) 12 (y 12)) := h5.2.2.cg (fun j hj => by simp [up1]; omega)
    refine ⟨?_, ?_, hp.sI l⟩
    · unfold Sl at h5; simp [zget, h5]
    · unfold Sl at h5; simp [zget, up1, h5]
  refine C_await h6 hf.2.2 (fun m7 h7 f7 => ⟨rfl, hQ m7 ?_ ((f5.sI hr).tr0 f7)⟩)
  have hv : Sl m7 a q y ↔ Sl m7 a q (awaitF (up1 (fun k => if (5 ≤ k ∧ k ≤ 8) ∨ (18 ≤ k ∧ k ≤ 25) then y k else (up1 (up1 (up1 (up1 (up1 (up1 (up1 (beginF x (y 1) (y 15) (y 14)) 0 (y 0)) 2 (y 2)) 16 (y 16)) 17 (y 17)) 3 (y 3)) 4 (y 4)) 13 (y 13)) k) 12 (y 12)) (y 9) (y 10) (y 11)) := by
    unfold Sl Pc
    simp [awaitF, beginF, up1]
  exact hv.mpr h7
end ZSO
