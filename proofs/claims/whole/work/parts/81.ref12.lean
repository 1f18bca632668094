/-! the reference's state becomes another -/
def BC (m : zM) (a b n : Nat) (M : zM) : Prop := RF M a ∧ (∀ c, ¬ rg a (a + 31) c → Eqv m M c) ∧ (mz M = mz m ∧ mc M = mc m ∧ mu M = mu m) ∧ (mI M 704 a = mI m 704 b ∧ mI M 705 a = mI m 705 b ∧ mI M 712 a = mI m 712 b ∧ mI M 736 a = mI m 736 b ∧ mI M 737 a = mI m 737 b ∧ mI M 738 a = mI m 738 b) ∧ ∀ (i : Nat) (e : Nat × Nat × Nat × Nat), i < n → rTab[i]? = some e → ∀ j, j < e.2.2.2 → mA M (a + e.2.1) j = mA m (b + e.2.1) j
theorem rTab_i : ∀ i : Fin 30, rTab[i.1]?.map (fun e => e.2.1) = some (i.1 + 1) := by decide
theorem rTab_o {i : Nat} {e : Nat × Nat × Nat × Nat} (h : rTab[i]? = some e) : e.2.1 = i + 1 ∧ i < 30 := by
  have hi : i < 30 := (List.getElem?_eq_some_iff.mp h).1
  have q := rTab_i ⟨i, hi⟩
  rw [h] at q
  exact ⟨Option.some.inj q, hi⟩
theorem rTab_n : ∀ e ∈ rTab, e.2.2.2 ≤ 1440 := by decide
section ZRB
variable {xs : Nat → Int} {xl d : Nat} {m : zM} {Q : zRes → zM → Prop}
theorem BC.step {a b n f o k len K : Nat} {M : zM} (h : BC m a b n M) (hF : RF m b) (hd : a + 31 ≤ b ∨ b + 31 ≤ a) (hn : rTab[n]? = some (f, o, k, len)) (hK : K = 130 ∧ k = 20 ∨ K = 131 ∧ k = 21) (hb : k = 21 → ∀ j, j < len → mA m (b + o) j = 0 ∨ mA m (b + o) j = 1) (hQ : ∀ M', BC m a b (n + 1) M' → Q (.inl none) M') : zC xs xl (d + 1) K [zR (mR M f b), zR (mR M f a)] M Q := by
  obtain ⟨h1, h2, h3, h4, h5⟩ := id h
  have hm : (f, o, k, len) ∈ rTab := List.mem_of_getElem? hn
  obtain ⟨ho, hn30⟩ := rTab_o hn
  have hlen : len ≤ 1440 := rTab_n _ hm
  have ho' : o = n + 1 := ho
  obtain ⟨q1, q2, q3⟩ := h1.at hm
  obtain ⟨p1, p2, p3⟩ := hF.at hm
  have eb0 := h2 b (fun z => by unfold rg at z; omega)
  have ebo := h2 (b + o) (fun z => by unfold rg at z; omega)
  have e1 : mR M f b = b + o := (eb0.2.1 f).trans p1
  have e2 : mC M (b + o) = k := ebo.2.2.2.2.1.trans p2
  have e3 : mN M (b + o) = len := ebo.2.2.2.2.2.trans p3
  have hk : k = 20 ∨ k = 21 := by rcases hK with z | z <;> omega
  have fin : (20 ≤ mC M (b + o) ∧ mC M (b + o) < 43) ∧ (0 ≤ (wr (mN M (b + o))) ∧ 0 ≤ (0 : Int) ∧ 0 ≤ (0 : Int) ∧ (0 : Int) + (wr (mN M (b + o))) ≤ mN M (b + o) ∧ (0 : Int) + (wr (mN M (b + o))) ≤ mN M (a + o) ∧ mC M (b + o) = mC M (a + o) ∧ (mC M (b + o) = 20 ∨ (mC M (b + o) = 21 ∧ ∀ j : Nat, (0 : Int) ≤ j → j < (0 : Int) + (wr (mN M (b + o))) → mA M (b + o) j = 0 ∨ mA M (b + o) j = 1)) ∧ b + o ≠ a + o) ∧ Q (.inl none) (cpA M (b + o) 0 (a + o) 0 (Int.toNat (wr (mN M (b + o))))) := by
    rw [e2, e3, q2, q3, wr_id (x := ((len : Nat) : Int)) (by omega) (by omega), Int.toNat_natCast]
    refine ⟨by omega, ⟨by omega, by omega, by omega, by omega, by omega, rfl, ?_, by omega⟩, hQ _ ⟨h1.mv rfl rfl rfl rfl, fun c hc => (h2 c hc).tr (Eqv.cp (fun z => hc (by unfold rg; omega))), h3, h4, fun i e hi he j hj => ?_⟩⟩
    · rcases hk with z | z
      · exact Or.inl z
      · refine Or.inr ⟨z, fun j _ hj => ?_⟩
        rw [ebo.2.2.1 j]
        exact hb z j (by omega)
    · have hoi := (rTab_o he).1
      by_cases c : i = n
      · subst c
        rw [hn] at he
        have ee : e = (f, o, k, len) := (Option.some.inj he).symm
        subst ee
        have ev : mA (cpA M (b + o) 0 (a + o) 0 len) (a + o) j = mA M (b + o) (0 + (j - 0)) := if_pos ⟨rfl, by omega, by show j < 0 + len; have : j < len := hj; omega⟩
        show mA (cpA M (b + o) 0 (a + o) 0 len) (a + o) j = mA m (b + o) j
        rw [ev, show 0 + (j - 0) = j by omega]
        exact ebo.2.2.1 j
      · rw [(Eqv.cp (by omega)).2.2.1 j]
        exact h5 i e (by omega) he j hj
  rw [e1, q1]
  rcases hK with ⟨z, -⟩ | ⟨z, -⟩
  · rw [z]; exact bX11_copy_0 fin
  · rw [z]; exact bX11_copy__0 fin
theorem BC.k {a b n : Nat} {M : zM} (h : BC m a b n M) (hF : RF m b) (hd : a + 31 ≤ b ∨ b + 31 ≤ a) : mC M b = 12 ∧ mC M a = 12 := ⟨(h.2.1 b (fun z => by unfold rg at z; omega)).2.2.2.2.1.trans hF.1, h.1.1⟩
theorem BC.at {a b f o k n j : Nat} {M : zM} (h : BC m a b 30 M) (hm : (f, o, k, n) ∈ rTab) (hj : j < n) : mA M (a + o) j = mA m (b + o) j := by
  obtain ⟨i, hi⟩ := List.mem_iff_getElem?.mp hm
  exact h.2.2.2.2 i _ (rTab_o hi).2 hi j hj
theorem rOff_m : ∀ k : Fin 18, ∃ f c, (f, rOff k.1, c, 6) ∈ rTab := by
  intro k
  rcases k with ⟨k, hk⟩
  have h18 : k = 0 ∨ k = 1 ∨ k = 2 ∨ k = 3 ∨ k = 4 ∨ k = 5 ∨ k = 6 ∨ k = 7 ∨ k = 8 ∨ k = 9 ∨ k = 10 ∨ k = 11 ∨ k = 12 ∨ k = 13 ∨ k = 14 ∨ k = 15 ∨ k = 16 ∨ k = 17 := by omega
  rcases h18 with c | c | c | c | c | c | c | c | c | c | c | c | c | c | c | c | c | c <;> subst c
  · exact ⟨714, 21, (by decide : (714, 8, 21, 6) ∈ rTab)⟩
  · exact ⟨713, 20, (by decide : (713, 7, 20, 6) ∈ rTab)⟩
  · exact ⟨718, 20, (by decide : (718, 12, 20, 6) ∈ rTab)⟩
  · exact ⟨721, 20, (by decide : (721, 15, 20, 6) ∈ rTab)⟩
  · exact ⟨722, 20, (by decide : (722, 16, 20, 6) ∈ rTab)⟩
  · exact ⟨729, 21, (by decide : (729, 23, 21, 6) ∈ rTab)⟩
  · exact ⟨731, 20, (by decide : (731, 25, 20, 6) ∈ rTab)⟩
  · exact ⟨732, 20, (by decide : (732, 26, 20, 6) ∈ rTab)⟩
  · exact ⟨733, 20, (by decide : (733, 27, 20, 6) ∈ rTab)⟩
  · exact ⟨726, 20, (by decide : (726, 20, 20, 6) ∈ rTab)⟩
  · exact ⟨727, 20, (by decide : (727, 21, 20, 6) ∈ rTab)⟩
  · exact ⟨728, 21, (by decide : (728, 22, 21, 6) ∈ rTab)⟩
  · exact ⟨725, 20, (by decide : (725, 19, 20, 6) ∈ rTab)⟩
  · exact ⟨723, 20, (by decide : (723, 17, 20, 6) ∈ rTab)⟩
  · exact ⟨724, 20, (by decide : (724, 18, 20, 6) ∈ rTab)⟩
  · exact ⟨715, 20, (by decide : (715, 9, 20, 6) ∈ rTab)⟩
  · exact ⟨720, 20, (by decide : (720, 14, 20, 6) ∈ rTab)⟩
  · exact ⟨719, 20, (by decide : (719, 13, 20, 6) ∈ rTab)⟩
theorem BC.fin {a b : Nat} {M : zM} {Y : zY} (h : BC m a b 30 M) (r : RSt m b Y) : RSt M a Y := by
  obtain ⟨r1, r2, r3, r4, r5, r6, r7⟩ := r
  obtain ⟨e1, e2, e3, e4, e5, e6⟩ := h.2.2.2.1
  refine ⟨h.1, ⟨e1.trans r2.1, e2.trans r2.2.1, e3.trans r2.2.2.1, e4.trans r2.2.2.2.1, e5.trans r2.2.2.2.2.1, e6.trans r2.2.2.2.2.2.1, r2.2.2.2.2.2.2⟩, fun i hi => ?_, fun j hj => ?_, fun i hi => ?_, fun i hi c => ?_, fun q j hq hj => ?_⟩
  · have hn := r2.2.2.2.2.2.2.1
    obtain ⟨⟨p1, p2, p3, p4, p5⟩, kl, k1, k2⟩ := r3 i hi
    refine ⟨⟨(h.at (by decide : (706, 1, 20, 60) ∈ rTab) (by omega)).trans p1, (h.at (by decide : (707, 2, 20, 60) ∈ rTab) (by omega)).trans p2, (h.at (by decide : (708, 3, 20, 60) ∈ rTab) (by omega)).trans p3, (h.at (by decide : (709, 4, 20, 60) ∈ rTab) (by omega)).trans p4, p5⟩, kl, k1, fun j q hq => ?_⟩
    have hl := k1.length_eq
    have hj := (List.getElem?_eq_some_iff.mp hq).1
    exact (h.at (by decide : (710, 5, 20, 480) ∈ rTab) (by omega)).trans (k2 j q hq)
  · exact (h.at (by decide : (711, 6, 20, 5) ∈ rTab) hj).trans (r4 j hj)
  · obtain ⟨x1, x2, x3⟩ := r5 i hi
    refine ⟨fun k hk => ?_, fun c => ?_, fun j hj => ⟨?_, ?_⟩⟩
    · obtain ⟨f, c, hm⟩ := rOff_m ⟨k, by omega⟩
      exact (h.at hm hi).trans (x1 k hk)
    · exact (h.at (by decide : (730, 24, 20, 6) ∈ rTab) hi).trans (x2 c)
    · exact (h.at (by decide : (734, 28, 20, 18) ∈ rTab) (by omega)).trans (x3 j hj).1
    · exact (h.at (by decide : (735, 29, 20, 18) ∈ rTab) (by omega)).trans (x3 j hj).2
  · obtain ⟨l1, l2, l3⟩ := r6 i hi c
    refine ⟨(h.at (by decide : (716, 10, 20, 6) ∈ rTab) hi).trans l1, l2, fun j q hq => ?_⟩
    have hj := (List.getElem?_eq_some_iff.mp hq).1
    obtain ⟨q1, q2, q3, q4⟩ := l3 j q hq
    exact ⟨(h.at (by decide : (717, 11, 20, 1440) ∈ rTab) (by omega)).trans q1, (h.at (by decide : (717, 11, 20, 1440) ∈ rTab) (by omega)).trans q2, fun z => (h.at (by decide : (717, 11, 20, 1440) ∈ rTab) (by omega)).trans (q3 z), fun z => (h.at (by decide : (717, 11, 20, 1440) ∈ rTab) (by omega)).trans (q4 z)⟩
  · exact (h.at (by decide : (739, 30, 20, 240) ∈ rTab) (by omega)).trans (r7 q j hq hj)
theorem R_become {a b : Nat} {Y : zY} (hA : RF m a) (h : RSt m b Y) (hf : ∀ i, i < 6 → flagOk (yX Y i)) (hd : a + 31 ≤ b ∨ b + 31 ≤ a) (hQ : ∀ m', RSt m' a Y → Fr (rg a (a + 31)) 0 0 m m' → Q (.inl none) m') : zC xs xl (d + 2) 132 [zR a, zR b] m Q := by
  have hF := h.1
  have hr : rg a (a + 31) a := by unfold rg; omega
  have g0 : BC m a b 0 (sI (sI (sI (sI (sI (sI m 704 a (mI m 704 b)) 705 a (mI m 705 b)) 712 a (mI m 712 b)) 736 a (mI m 736 b)) 737 a (mI m 737 b)) 738 a (mI m 738 b)) := by
    refine ⟨hA.mv rfl rfl rfl rfl, fun c hc => ?_, ⟨rfl, rfl, rfl⟩, by simp [zget], fun i e hi => absurd hi (Nat.not_lt_zero _)⟩
    have hca : ¬ c = a := fun z => hc (by rw [z]; exact hr)
    exact ⟨fun k => by simp [zget, hca], fun _ => rfl, fun _ => rfl, fun _ => rfl, rfl, rfl⟩
  have hv : ∀ k i, k ≤ 17 → i < 6 → mA m (b + rOff k) i = yX Y i k := fun k i hk hi => (h.2.2.2.2.1 i hi).1 k hk
  have b8 : (21 : Nat) = 21 → ∀ j, j < 6 → mA m (b + 8) j = 0 ∨ mA m (b + 8) j = 1 := fun _ j hj => by rw [show b + 8 = b + rOff 0 from rfl, hv 0 j (by omega) hj]; exact (hf j hj).1
  have b22 : (21 : Nat) = 21 → ∀ j, j < 6 → mA m (b + 22) j = 0 ∨ mA m (b + 22) j = 1 := fun _ j hj => by rw [show b + 22 = b + rOff 11 from rfl, hv 11 j (by omega) hj]; exact (hf j hj).2.2
  have b23 : (21 : Nat) = 21 → ∀ j, j < 6 → mA m (b + 23) j = 0 ∨ mA m (b + 23) j = 1 := fun _ j hj => by rw [show b + 23 = b + rOff 5 from rfl, hv 5 j (by omega) hj]; exact (hf j hj).2.1
  have fr : ∀ M, BC m a b 30 M → Fr (rg a (a + 31)) 0 0 m M := fun M g => ⟨fun c _ hc => g.2.1 c hc, by rw [g.2.2.1.1]; exact Nat.le_refl _, by rw [g.2.2.1.2.1]; exact Nat.le_refl _, by rw [g.2.2.1.2.2]; exact Nat.le_refl _⟩
  refine bX11_become_0 ⟨hF.1, hA.1, ?_⟩
  refine g0.step hF hd (rfl : rTab[0]? = some (706, 1, 20, 60)) (Or.inl ⟨rfl, rfl⟩) (fun z => absurd z (by decide)) (fun M1 g1 => ⟨rfl, ?_⟩)
  refine ⟨(g1.k hF hd).1, (g1.k hF hd).2, ?_⟩
  refine g1.step hF hd (rfl : rTab[1]? = some (707, 2, 20, 60)) (Or.inl ⟨rfl, rfl⟩) (fun z => absurd z (by decide)) (fun M2 g2 => ⟨rfl, ?_⟩)
  refine ⟨(g2.k hF hd).1, (g2.k hF hd).2, ?_⟩
  refine g2.step hF hd (rfl : rTab[2]? = some (708, 3, 20, 60)) (Or.inl ⟨rfl, rfl⟩) (fun z => absurd z (by decide)) (fun M3 g3 => ⟨rfl, ?_⟩)
  refine ⟨(g3.k hF hd).1, (g3.k hF hd).2, ?_⟩
  refine g3.step hF hd (rfl : rTab[3]? = some (709, 4, 20, 60)) (Or.inl ⟨rfl, rfl⟩) (fun z => absurd z (by decide)) (fun M4 g4 => ⟨rfl, ?_⟩)
  refine ⟨(g4.k hF hd).1, (g4.k hF hd).2, ?_⟩
  refine g4.step hF hd (rfl : rTab[4]? = some (710, 5, 20, 480)) (Or.inl ⟨rfl, rfl⟩) (fun z => absurd z (by decide)) (fun M5 g5 => ⟨rfl, ?_⟩)
  refine ⟨(g5.k hF hd).1, (g5.k hF hd).2, ?_⟩
  refine g5.step hF hd (rfl : rTab[5]? = some (711, 6, 20, 5)) (Or.inl ⟨rfl, rfl⟩) (fun z => absurd z (by decide)) (fun M6 g6 => ⟨rfl, ?_⟩)
  refine ⟨(g6.k hF hd).1, (g6.k hF hd).2, ?_⟩
  refine g6.step hF hd (rfl : rTab[6]? = some (713, 7, 20, 6)) (Or.inl ⟨rfl, rfl⟩) (fun z => absurd z (by decide)) (fun M7 g7 => ⟨rfl, ?_⟩)
  refine ⟨(g7.k hF hd).1, (g7.k hF hd).2, ?_⟩
  refine g7.step hF hd (rfl : rTab[7]? = some (714, 8, 21, 6)) (Or.inr ⟨rfl, rfl⟩) b8 (fun M8 g8 => ⟨rfl, ?_⟩)
  refine ⟨(g8.k hF hd).1, (g8.k hF hd).2, ?_⟩
  refine g8.step hF hd (rfl : rTab[8]? = some (715, 9, 20, 6)) (Or.inl ⟨rfl, rfl⟩) (fun z => absurd z (by decide)) (fun M9 g9 => ⟨rfl, ?_⟩)
  refine ⟨(g9.k hF hd).1, (g9.k hF hd).2, ?_⟩
  refine g9.step hF hd (rfl : rTab[9]? = some (716, 10, 20, 6)) (Or.inl ⟨rfl, rfl⟩) (fun z => absurd z (by decide)) (fun M10 g10 => ⟨rfl, ?_⟩)
  refine ⟨(g10.k hF hd).1, (g10.k hF hd).2, ?_⟩
  refine g10.step hF hd (rfl : rTab[10]? = some (717, 11, 20, 1440)) (Or.inl ⟨rfl, rfl⟩) (fun z => absurd z (by decide)) (fun M11 g11 => ⟨rfl, ?_⟩)
  refine ⟨(g11.k hF hd).1, (g11.k hF hd).2, ?_⟩
  refine g11.step hF hd (rfl : rTab[11]? = some (718, 12, 20, 6)) (Or.inl ⟨rfl, rfl⟩) (fun z => absurd z (by decide)) (fun M12 g12 => ⟨rfl, ?_⟩)
  refine ⟨(g12.k hF hd).1, (g12.k hF hd).2, ?_⟩
  refine g12.step hF hd (rfl : rTab[12]? = some (719, 13, 20, 6)) (Or.inl ⟨rfl, rfl⟩) (fun z => absurd z (by decide)) (fun M13 g13 => ⟨rfl, ?_⟩)
  refine ⟨(g13.k hF hd).1, (g13.k hF hd).2, ?_⟩
  refine g13.step hF hd (rfl : rTab[13]? = some (720, 14, 20, 6)) (Or.inl ⟨rfl, rfl⟩) (fun z => absurd z (by decide)) (fun M14 g14 => ⟨rfl, ?_⟩)
  refine ⟨(g14.k hF hd).1, (g14.k hF hd).2, ?_⟩
  refine g14.step hF hd (rfl : rTab[14]? = some (721, 15, 20, 6)) (Or.inl ⟨rfl, rfl⟩) (fun z => absurd z (by decide)) (fun M15 g15 => ⟨rfl, ?_⟩)
  refine ⟨(g15.k hF hd).1, (g15.k hF hd).2, ?_⟩
  refine g15.step hF hd (rfl : rTab[15]? = some (722, 16, 20, 6)) (Or.inl ⟨rfl, rfl⟩) (fun z => absurd z (by decide)) (fun M16 g16 => ⟨rfl, ?_⟩)
  refine ⟨(g16.k hF hd).1, (g16.k hF hd).2, ?_⟩
  refine g16.step hF hd (rfl : rTab[16]? = some (723, 17, 20, 6)) (Or.inl ⟨rfl, rfl⟩) (fun z => absurd z (by decide)) (fun M17 g17 => ⟨rfl, ?_⟩)
  refine ⟨(g17.k hF hd).1, (g17.k hF hd).2, ?_⟩
  refine g17.step hF hd (rfl : rTab[17]? = some (724, 18, 20, 6)) (Or.inl ⟨rfl, rfl⟩) (fun z => absurd z (by decide)) (fun M18 g18 => ⟨rfl, ?_⟩)
  refine ⟨(g18.k hF hd).1, (g18.k hF hd).2, ?_⟩
  refine g18.step hF hd (rfl : rTab[18]? = some (725, 19, 20, 6)) (Or.inl ⟨rfl, rfl⟩) (fun z => absurd z (by decide)) (fun M19 g19 => ⟨rfl, ?_⟩)
  refine ⟨(g19.k hF hd).1, (g19.k hF hd).2, ?_⟩
  refine g19.step hF hd (rfl : rTab[19]? = some (726, 20, 20, 6)) (Or.inl ⟨rfl, rfl⟩) (fun z => absurd z (by decide)) (fun M20 g20 => ⟨rfl, ?_⟩)
  refine ⟨(g20.k hF hd).1, (g20.k hF hd).2, ?_⟩
  refine g20.step hF hd (rfl : rTab[20]? = some (727, 21, 20, 6)) (Or.inl ⟨rfl, rfl⟩) (fun z => absurd z (by decide)) (fun M21 g21 => ⟨rfl, ?_⟩)
  refine ⟨(g21.k hF hd).1, (g21.k hF hd).2, ?_⟩
  refine g21.step hF hd (rfl : rTab[21]? = some (728, 22, 21, 6)) (Or.inr ⟨rfl, rfl⟩) b22 (fun M22 g22 => ⟨rfl, ?_⟩)
  refine ⟨(g22.k hF hd).1, (g22.k hF hd).2, ?_⟩
  refine g22.step hF hd (rfl : rTab[22]? = some (729, 23, 21, 6)) (Or.inr ⟨rfl, rfl⟩) b23 (fun M23 g23 => ⟨rfl, ?_⟩)
  refine ⟨(g23.k hF hd).1, (g23.k hF hd).2, ?_⟩
  refine g23.step hF hd (rfl : rTab[23]? = some (730, 24, 20, 6)) (Or.inl ⟨rfl, rfl⟩) (fun z => absurd z (by decide)) (fun M24 g24 => ⟨rfl, ?_⟩)
  refine ⟨(g24.k hF hd).1, (g24.k hF hd).2, ?_⟩
  refine g24.step hF hd (rfl : rTab[24]? = some (731, 25, 20, 6)) (Or.inl ⟨rfl, rfl⟩) (fun z => absurd z (by decide)) (fun M25 g25 => ⟨rfl, ?_⟩)
  refine ⟨(g25.k hF hd).1, (g25.k hF hd).2, ?_⟩
  refine g25.step hF hd (rfl : rTab[25]? = some (732, 26, 20, 6)) (Or.inl ⟨rfl, rfl⟩) (fun z => absurd z (by decide)) (fun M26 g26 => ⟨rfl, ?_⟩)
  refine ⟨(g26.k hF hd).1, (g26.k hF hd).2, ?_⟩
  refine g26.step hF hd (rfl : rTab[26]? = some (733, 27, 20, 6)) (Or.inl ⟨rfl, rfl⟩) (fun z => absurd z (by decide)) (fun M27 g27 => ⟨rfl, ?_⟩)
  refine ⟨(g27.k hF hd).1, (g27.k hF hd).2, ?_⟩
  refine g27.step hF hd (rfl : rTab[27]? = some (734, 28, 20, 18)) (Or.inl ⟨rfl, rfl⟩) (fun z => absurd z (by decide)) (fun M28 g28 => ⟨rfl, ?_⟩)
  refine ⟨(g28.k hF hd).1, (g28.k hF hd).2, ?_⟩
  refine g28.step hF hd (rfl : rTab[28]? = some (735, 29, 20, 18)) (Or.inl ⟨rfl, rfl⟩) (fun z => absurd z (by decide)) (fun M29 g29 => ⟨rfl, ?_⟩)
  refine ⟨(g29.k hF hd).1, (g29.k hF hd).2, ?_⟩
  refine g29.step hF hd (rfl : rTab[29]? = some (739, 30, 20, 240)) (Or.inl ⟨rfl, rfl⟩) (fun z => absurd z (by decide)) (fun M30 g30 => ⟨rfl, ?_⟩)
  exact hQ _ (g30.fin h) (fr _ g30)
end ZRB
