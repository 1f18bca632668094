/-! the reference's state as a yard -/
theorem bit_f : ∀ (h : Fin 32) (f : Fin 5), (bAnd (bShr (h.1 : Int) (f.1 : Int)) 1 = if bAnd (h.1 : Int) (bShl 1 (f.1 : Int)) = 0 then 0 else 1) ∧ (bAnd (h.1 : Int) (bShl 1 (f.1 : Int)) = 0 → bAnd (h.1 : Int) (bXor (bShl 1 (f.1 : Int)) (-1)) = h.1) ∧ (0 ≤ bOr (h.1 : Int) (bShl 1 (f.1 : Int)) ∧ bOr (h.1 : Int) (bShl 1 (f.1 : Int)) ≤ 31) ∧ (0 ≤ bAnd (h.1 : Int) (bXor (bShl 1 (f.1 : Int)) (-1)) ∧ bAnd (h.1 : Int) (bXor (bShl 1 (f.1 : Int)) (-1)) ≤ 31) := by decide +kernel
theorem bit_g : ∀ (h : Fin 32) (f g : Fin 5), (bAnd (bOr (h.1 : Int) (bShl 1 (f.1 : Int))) (bShl 1 (g.1 : Int)) = 0 ↔ (g ≠ f ∧ bAnd (h.1 : Int) (bShl 1 (g.1 : Int)) = 0)) ∧ (bAnd (bAnd (h.1 : Int) (bXor (bShl 1 (f.1 : Int)) (-1))) (bShl 1 (g.1 : Int)) = 0 ↔ (g = f ∨ bAnd (h.1 : Int) (bShl 1 (g.1 : Int)) = 0)) := by decide +kernel
theorem set_f : ∀ (h : Fin 64) (f g : Fin 6), (bAnd (bOr (h.1 : Int) (bShl 1 (f.1 : Int))) (bShl 1 (g.1 : Int)) = 0 ↔ (g ≠ f ∧ bAnd (h.1 : Int) (bShl 1 (g.1 : Int)) = 0)) ∧ (0 ≤ bOr (h.1 : Int) (bShl 1 (f.1 : Int)) ∧ bOr (h.1 : Int) (bShl 1 (f.1 : Int)) ≤ 63) := by decide +kernel
theorem bit_1 {h : Int} {f : Nat} (hh : 0 ≤ h ∧ h ≤ 31) (hf : f < 5) : bAnd (bShr h (f : Int)) 1 = if bAnd h (bShl 1 (f : Int)) = 0 then 0 else 1 := by
  have q := (bit_f ⟨h.toNat, by omega⟩ ⟨f, hf⟩).1
  have e : ((h.toNat : Nat) : Int) = h := by omega
  rwa [show (((⟨h.toNat, by omega⟩ : Fin 32).1 : Nat) : Int) = h from e] at q
theorem bit_2 {h : Int} {f : Nat} (hh : 0 ≤ h ∧ h ≤ 31) (hf : f < 5) (h0 : bAnd h (bShl 1 (f : Int)) = 0) : bAnd h (bXor (bShl 1 (f : Int)) (-1)) = h := by
  have q := (bit_f ⟨h.toNat, by omega⟩ ⟨f, hf⟩).2.1
  have e : ((h.toNat : Nat) : Int) = h := by omega
  rw [show (((⟨h.toNat, by omega⟩ : Fin 32).1 : Nat) : Int) = h from e] at q
  exact q h0
theorem bit_3 {h : Int} {f : Nat} (hh : 0 ≤ h ∧ h ≤ 31) (hf : f < 5) : (0 ≤ bOr h (bShl 1 (f : Int)) ∧ bOr h (bShl 1 (f : Int)) ≤ 31) ∧ (0 ≤ bAnd h (bXor (bShl 1 (f : Int)) (-1)) ∧ bAnd h (bXor (bShl 1 (f : Int)) (-1)) ≤ 31) := by
  have q := (bit_f ⟨h.toNat, by omega⟩ ⟨f, hf⟩).2.2
  have e : ((h.toNat : Nat) : Int) = h := by omega
  rwa [show (((⟨h.toNat, by omega⟩ : Fin 32).1 : Nat) : Int) = h from e] at q
theorem bit_4 {h : Int} {f g : Nat} (hh : 0 ≤ h ∧ h ≤ 31) (hf : f < 5) (hg : g < 5) : (bAnd (bOr h (bShl 1 (f : Int))) (bShl 1 (g : Int)) = 0 ↔ (g ≠ f ∧ bAnd h (bShl 1 (g : Int)) = 0)) ∧ (bAnd (bAnd h (bXor (bShl 1 (f : Int)) (-1))) (bShl 1 (g : Int)) = 0 ↔ (g = f ∨ bAnd h (bShl 1 (g : Int)) = 0)) := by
  have q := bit_g ⟨h.toNat, by omega⟩ ⟨f, hf⟩ ⟨g, hg⟩
  have e : ((h.toNat : Nat) : Int) = h := by omega
  rw [show (((⟨h.toNat, by omega⟩ : Fin 32).1 : Nat) : Int) = h from e] at q
  have e3 : ((⟨g, hg⟩ : Fin 5) = ⟨f, hf⟩ ↔ g = f) := by rw [Fin.mk.injEq]
  rw [e3] at q
  rw [show ((⟨g, hg⟩ : Fin 5) ≠ ⟨f, hf⟩) = (g ≠ f) by rw [Ne, Fin.mk.injEq]] at q
  exact q
theorem set_1 {h : Int} {f g : Nat} (hh : 0 ≤ h ∧ h ≤ 63) (hf : f < 6) (hg : g < 6) : (bAnd (bOr h (bShl 1 (f : Int))) (bShl 1 (g : Int)) = 0 ↔ (g ≠ f ∧ bAnd h (bShl 1 (g : Int)) = 0)) ∧ (0 ≤ bOr h (bShl 1 (f : Int)) ∧ bOr h (bShl 1 (f : Int)) ≤ 63) := by
  have q := set_f ⟨h.toNat, by omega⟩ ⟨f, hf⟩ ⟨g, hg⟩
  have e : ((h.toNat : Nat) : Int) = h := by omega
  rw [show (((⟨h.toNat, by omega⟩ : Fin 64).1 : Nat) : Int) = h from e] at q
  rw [show ((⟨g, hg⟩ : Fin 6) ≠ ⟨f, hf⟩) = (g ≠ f) by rw [Ne, Fin.mk.injEq]] at q
  exact q
def RG (m : zM) (b : Nat) (Y : zY) : Prop := mI m 704 b = yG Y 0 ∧ mI m 705 b = yN Y ∧ mI m 712 b = yS Y ∧ mI m 736 b = yG Y 1 ∧ mI m 737 b = yG Y 2 ∧ mI m 738 b = yG Y 3 ∧ yN Y ≤ 60 ∧ yS Y ≤ 6
def RAc (m : zM) (b i : Nat) (l : List zAc) : Prop := mA m (b + 10) i = l.length ∧ l.length ≤ 60 ∧ ∀ (j : Nat) (q : zAc), l[j]? = some q → mA m (b + 11) (4 * (60 * i + j)) = q.1 ∧ mA m (b + 11) (4 * (60 * i + j) + 1) = q.2.1 ∧ (q.1 = 2 ∨ q.1 = 5 → mA m (b + 11) (4 * (60 * i + j) + 2) = q.2.2.1) ∧ (q.1 = 5 → mA m (b + 11) (4 * (60 * i + j) + 3) = q.2.2.2)
def RSt (m : zM) (b : Nat) (Y : zY) : Prop := RF m b ∧ RG m b Y ∧ (∀ i, i < yN Y → RP m b i (yY Y i)) ∧ (∀ j, j < 5 → mA m (b + 6) j = yF Y j) ∧ (∀ i, i < 6 → RX m b i (yX Y i)) ∧ (∀ i, i < 6 → yX Y i 0 ≠ 0 → RAc m b i (yL Y i)) ∧ ∀ r j, r < 40 → j < 6 → mA m (b + 30) (6 * r + j) = yH Y r j
theorem RX.mv {m m' : zM} {b i : Nat} {x : Nat → Int} (h : RX m b i x) (e : ∀ a j, slC b i a j → mA m' a j = mA m a j) : RX m' b i x := by
  refine ⟨fun k hk => ?_, fun c => ?_, fun j hj => ⟨?_, ?_⟩⟩
  · rw [e _ _ (slC_k hk)]; exact h.1 k hk
  · rw [e _ _ (Or.inl (by omega))]; exact h.2.1 c
  · rw [e _ _ (Or.inr (by omega))]; exact (h.2.2 j hj).1
  · rw [e _ _ (Or.inr (by omega))]; exact (h.2.2 j hj).2
theorem RAc.mv {m m' : zM} {b i : Nat} {l : List zAc} (h : RAc m b i l) (e : ∀ a j, a = b + 10 ∨ a = b + 11 → mA m' a j = mA m a j) : RAc m' b i l := by
  refine ⟨by rw [e _ _ (Or.inl rfl)]; exact h.1, h.2.1, fun j q hq => ?_⟩
  rw [e _ _ (Or.inr rfl), e _ _ (Or.inr rfl), e _ _ (Or.inr rfl), e _ _ (Or.inr rfl)]
  exact h.2.2 j q hq
/-- from the old yard to a new one, part by part -/
theorem RSt.up {m m' : zM} {b : Nat} {Y Y' : zY} (h : RSt m b Y) (hF : RF m' b) (hG : RG m' b Y') (hP : (∀ i, i < yN Y' → RP m' b i (yY Y' i)) ∨ (yN Y' = yN Y ∧ yY Y' = yY Y ∧ ∀ a j, b + 1 ≤ a ∧ a ≤ b + 5 → mA m' a j = mA m a j)) (hA : ∀ j, j < 5 → mA m' (b + 6) j = yF Y' j) (hX : ∀ i, i < 6 → RX m' b i (yX Y' i)) (hL : ∀ i, i < 6 → yX Y' i 0 ≠ 0 → RAc m' b i (yL Y' i)) (hH : (∀ r j, r < 40 → j < 6 → mA m' (b + 30) (6 * r + j) = yH Y' r j)) : RSt m' b Y' := by
  refine ⟨hF, hG, ?_, hA, hX, hL, hH⟩
  rcases hP with z | ⟨z1, z2, z3⟩
  · exact z
  · rw [z1, z2]
    exact fun i hi => (h.2.2.1 i hi).mv (fun a j q => z3 a j (by unfold pC at q; omega))
theorem RSt.sf {m m' : zM} {b s : Nat} {v : Int} {Y : zY} {x' : Nat → Int} (h : RSt m b Y) (f : SF b s v m m') (hs : s < 6) (g : RX m' b s x') (h0 : x' 0 ≠ 0 → yX Y s 0 ≠ 0) : RSt m' b (yg (yx Y s x') 2 v) := by
  obtain ⟨h1, h2, h3, h4, h5, h6, h7⟩ := id h
  have e : ∀ a j, ¬ slC b s a j → mA m' a j = mA m a j := f.2.2
  obtain ⟨g1, g2, g3, g4, g5, g6, g7, g8⟩ := h2
  have eI : ∀ k, k ≠ 737 → mI m' k b = mI m k b := fun k hk => f.1.2 k b (fun z => hk z.1)
  refine h.up (h1.mv f.2.1.1 f.2.1.2.2.1 f.2.1.2.2.2.1 f.2.1.2.2.2.2.1) ⟨(eI 704 (by decide)).trans g1, (eI 705 (by decide)).trans g2, (eI 712 (by decide)).trans g3, (eI 736 (by decide)).trans g4, f.1.1, (eI 738 (by decide)).trans g6, g7, g8⟩ (Or.inr ⟨rfl, rfl, fun a j q => e a j (fun z => by unfold slC at z; omega)⟩) (fun j hj => ?_) (fun i hi => ?_) (fun i hi c => ?_) (fun r j hr hj => ?_)
  · rw [e _ _ (fun z => by unfold slC at z; omega)]; exact h4 j hj
  · by_cases c : i = s
    · subst c
      rw [show yX (yg (yx Y i x') 2 v) i = x' from if_pos rfl]; exact g
    · rw [show yX (yg (yx Y s x') 2 v) i = yX Y i from if_neg c]
      exact (h5 i hi).mv (fun a j z => e a j (fun z2 => by unfold slC at z z2; omega))
  · have c' : yX Y i 0 ≠ 0 := by
      by_cases ci : i = s
      · subst ci
        rw [show yX (yg (yx Y i x') 2 v) i = x' from if_pos rfl] at c
        exact h0 c
      · rwa [show yX (yg (yx Y s x') 2 v) i = yX Y i from if_neg ci] at c
    exact (h6 i hi c').mv (fun a j z => e a j (fun z2 => by unfold slC at z2; omega))
  · rw [e _ _ (fun z => by unfold slC at z; omega)]; exact h7 r j hr hj
theorem RSt.rw {m : zM} {b s : Nat} {Y : zY} (h : RSt m b Y) (hs : s < 6) : RW m b s (yX Y s) := ⟨h.1, hs, h.2.2.2.2.1 s hs⟩
theorem RSt.mv {m m' : zM} {b lo hi k u : Nat} {Y : zY} (h : RSt m b Y) (f : Fr (rg lo hi) k u m m') (hd : hi ≤ b ∨ b + 31 ≤ lo) : RSt m' b Y := by
  have hz := h.1.2.1
  have e : ∀ a, b ≤ a → a < b + 31 → Eqv m m' a := fun a a1 a2 => f.1 a (by omega) (fun z => by unfold rg at z; omega)
  have e0 := e b (by omega) (by omega)
  have eA : ∀ a j, b + 1 ≤ a ∧ a ≤ b + 30 → mA m' a j = mA m a j := fun a j z => (e a (by omega) (by omega)).2.2.1 j
  obtain ⟨h1, h2, h3, h4, h5, h6, h7⟩ := id h
  have hF : RF m' b := by
    refine ⟨e0.2.2.2.2.1.trans h1.1, Nat.le_trans h1.2.1 f.2.1, fun q hq => ?_⟩
    have hr : 1 ≤ q.2.1 ∧ q.2.1 ≤ 30 := by
      have hall : ∀ q ∈ rTab, 1 ≤ q.2.1 ∧ q.2.1 ≤ 30 := by decide
      exact hall q hq
    have ea := e (b + q.2.1) (by omega) (by omega)
    rw [e0.2.1, ea.2.2.2.2.1, ea.2.2.2.2.2]
    exact h1.2.2 q hq
  refine h.up hF (by unfold RG; rw [e0.1, e0.1, e0.1, e0.1, e0.1, e0.1]; exact h2) (Or.inr ⟨rfl, rfl, fun a j z => eA a j (by omega)⟩) (fun j hj => ?_) (fun i hi => (h5 i hi).mv (fun a j z => eA a j (by unfold slC at z; omega))) (fun i hi c => (h6 i hi c).mv (fun a j z => eA a j (by omega))) (fun r j hr hj => ?_)
  · rw [eA _ _ (by omega)]; exact h4 j hj
  · rw [eA _ _ (by omega)]; exact h7 r j hr hj
theorem SF.fr {b s : Nat} {v : Int} {m m' : zM} (f : SF b s v m m') : Fr (rg b (b + 31)) 0 0 m m' := by
  refine ⟨fun a ha hs => ⟨fun k => f.1.2 k a (fun z => hs ⟨by omega, by omega⟩), fun k => by rw [f.2.1.1], fun j => f.2.2 a j (fun z => hs ?_), fun j => by rw [f.2.1.2.1], by rw [f.2.1.2.2.1], by rw [f.2.1.2.2.2.1]⟩, by rw [f.2.1.2.2.2.2.1]; exact Nat.le_refl _, by rw [f.2.1.2.2.2.2.2.1]; exact Nat.le_refl _, by rw [f.2.1.2.2.2.2.2.2]; exact Nat.le_refl _⟩
  unfold slC at z
  exact ⟨by omega, by omega⟩
theorem MF.fr {b : Nat} {I : Nat → Prop} {C : Nat → Nat → Prop} {m m' : zM} (f : MF b I C m m') (hC : ∀ a j, C a j → b ≤ a ∧ a < b + 31) : Fr (rg b (b + 31)) 0 0 m m' :=
  ⟨fun a ha hs => ⟨fun k => f.1 k a (fun z => hs ⟨by omega, by omega⟩), fun k => by rw [f.2.1.1], fun j => f.2.2 a j (fun z => hs (hC a j z)), fun j => by rw [f.2.1.2.1], by rw [f.2.1.2.2.1], by rw [f.2.1.2.2.2.1]⟩, by rw [f.2.1.2.2.2.2.1]; exact Nat.le_refl _, by rw [f.2.1.2.2.2.2.2.1]; exact Nat.le_refl _, by rw [f.2.1.2.2.2.2.2.2]; exact Nat.le_refl _⟩
def freeR (x : Nat → Nat → Int) (F : Int) (j : Nat) : Nat → Int
  | 0 => F
  | i + 1 => wr (freeR x F j i - bAnd (bShr (x i 12) (j : Int)) 1)
def waitR (x : Nat → Nat → Int) (so : Int) : Nat → Int
  | 0 => 0
  | i + 1 => wr (waitR x so i + (if x i 9 = -1 then 0 else if so = -1 then 1 else if x i 9 = so then 1 else 0))
section ZRF
variable {xs : Nat → Int} {xl d : Nat} {m : zM} {Q : zRes → zM → Prop}
theorem R_free {b j : Nat} {Y : zY} (h : RSt m b Y) (hj : j < 5) (hQ : Q (.inl (some (zI (freeR (yX Y) (yF Y j) j (yS Y))))) m) : zC xs xl (d + 1) 140 [zR b, zI (j : Int)] m Q := by
  obtain ⟨r1, k1, n1⟩ := h.1.at (by decide : (711, 6, 20, 5) ∈ rTab)
  obtain ⟨r2, k2, n2⟩ := h.1.at (by decide : (725, 19, 20, 6) ∈ rTab)
  have hS := h.2.1.2.2.1
  have hs6 := h.2.1.2.2.2.2.2.2.2
  have lp : ∀ (k i : Nat), i + k = yS Y → zW xs xl d cX11_free 11 (some .int) false [] 9 [zR b, zI (j : Int), zI (freeR (yX Y) (yF Y j) j i), zI (i : Int)] [] m Q := by
    intro k
    induction k with
    | zero =>
      intro i e
      have ei : i = yS Y := by omega
      subst ei
      refine bX11_free_9 ⟨h.1.1, ?_⟩
      rw [hS]
      exact ⟨fun _ => hQ, fun z => absurd (Int.le_refl _) z⟩
    | succ k ih =>
      intro i e
      have e12 : mA m (b + 19) i = yX Y i 12 := (h.2.2.2.2.1 i (by omega)).1 12 (by omega)
      refine bX11_free_9 ⟨h.1.1, ?_⟩
      rw [hS, r2, k2, n2, Int.toNat_natCast, e12, wr_s (by omega)]
      exact ⟨fun z => absurd z (by omega), fun _ => ⟨rfl, by omega, ih (i + 1) (by omega)⟩⟩
  refine bX11_free_0 ⟨h.1.1, ?_⟩
  rw [r1, k1, n1, Int.toNat_natCast, h.2.2.2.1 j hj]
  exact ⟨rfl, by omega, lp (yS Y) 0 (by omega)⟩
theorem R_waiting {b : Nat} {Y : zY} {so : Int} (h : RSt m b Y) (hQ : Q (.inl (some (zI (waitR (yX Y) so (yS Y))))) m) : zC xs xl (d + 1) 141 [zR b, zI so] m Q := by
  obtain ⟨r1, k1, n1⟩ := h.1.at (by decide : (726, 20, 20, 6) ∈ rTab)
  have hS := h.2.1.2.2.1
  have hs6 := h.2.1.2.2.2.2.2.2.2
  have lp : ∀ (k i : Nat), i + k = yS Y → zW xs xl d cX11_waiting 11 (some .int) false [] 4 [zR b, zI so, zI (waitR (yX Y) so i), zI (i : Int)] [] m Q := by
    intro k
    induction k with
    | zero =>
      intro i e
      have ei : i = yS Y := by omega
      subst ei
      refine bX11_waiting_4 ⟨h.1.1, ?_⟩
      rw [hS]
      exact ⟨fun _ => hQ, fun z => absurd (Int.le_refl _) z⟩
    | succ k ih =>
      intro i e
      have e9 : mA m (b + 20) i = yX Y i 9 := (h.2.2.2.2.1 i (by omega)).1 9 (by omega)
      have hn := ih (i + 1) (by omega)
      have e1 : waitR (yX Y) so (i + 1) = wr (waitR (yX Y) so i + (if yX Y i 9 = -1 then 0 else if so = -1 then 1 else if yX Y i 9 = so then 1 else 0)) := rfl
      rw [e1] at hn
      refine bX11_waiting_4 ⟨h.1.1, ?_⟩
      rw [hS, r1, k1, n1, Int.toNat_natCast, e9, wr_s (by omega)]
      refine ⟨fun z => absurd z (by omega), fun _ => ⟨rfl, by omega, fun c => ?_, fun c => ⟨fun c2 => ?_, fun c2 => ⟨fun c3 => ?_, fun c3 => ?_⟩⟩⟩⟩
      · rwa [if_pos c] at hn
      · rwa [if_neg c, if_pos c2] at hn
      · rwa [if_neg c, if_neg c2, if_neg c3] at hn
      · rwa [if_neg c, if_neg c2, if_pos (Decidable.not_not.mp c3)] at hn
  exact bX11_waiting_0 (lp (yS Y) 0 (by omega))
theorem R_await {b s : Nat} {x : Nat → Int} {so v : Int} (h : RW m b s x) (hv : v = 0 ∨ v = 1) (hQ : ∀ m', RW m' b s (awaitF x so (mI m 704 b) v) → SF b s (mI m 737 b) m m' → Q (.inl none) m') : zC xs xl (d + 1) 142 [zR b, zI (s : Int), zI so, zI v] m Q := by
  obtain ⟨r1, k1, n1⟩ := h.1.at (by decide : (726, 20, 20, 6) ∈ rTab)
  obtain ⟨r2, k2, n2⟩ := h.1.at (by decide : (727, 21, 20, 6) ∈ rTab)
  obtain ⟨r3, k3, n3⟩ := h.1.at (by decide : (728, 22, 21, 6) ∈ rTab)
  have hs := h.2.1
  refine bX11_await_0 ?_
  rw [r1, k1, n1, r2, k2, n2, r3, k3, n3, Int.toNat_natCast]
  have f : SF b s (mI m 737 b) m (sA (sA (sA m (b + 20) s so) (b + 21) s (mI m 704 b)) (b + 22) s v) := (((SF.rfl rfl).w (slC_k (k := 9) (by omega))).w (slC_k (k := 10) (by omega))).w (slC_k (k := 11) (by omega))
  exact ⟨h.1.1, by omega, rfl, by omega, rfl, by omega, Or.inl ⟨rfl, hv⟩, hQ _ (h.sf f (((h.2.2.set (k := 9) (by omega) (fun z => absurd z (by omega))).set (k := 10) (by omega) (fun z => absurd z (by omega))).set (k := 11) (by omega) (fun z => absurd z (by omega)))) f⟩
theorem R_get {b s : Nat} {x : Nat → Int} (h : RW m b s x) (hQ : ∀ m', RW m' b s (receiveF x (x 9)) → SF b s (mI m 737 b) m m' → Q (.inl none) m') : zC xs xl (d + 1) 143 [zR b, zI (s : Int)] m Q := by
  obtain ⟨r1, k1, n1⟩ := h.1.at (by decide : (726, 20, 20, 6) ∈ rTab)
  obtain ⟨r2, k2, n2⟩ := h.1.at (by decide : (727, 21, 20, 6) ∈ rTab)
  obtain ⟨r3, k3, n3⟩ := h.1.at (by decide : (728, 22, 21, 6) ∈ rTab)
  obtain ⟨r4, k4, n4⟩ := h.1.at (by decide : (725, 19, 20, 6) ∈ rTab)
  have hs := h.2.1
  have e9 : mA m (b + 20) s = x 9 := h.2.2.1 9 (by omega)
  have e12 : mA m (b + 19) s = x 12 := h.2.2.1 12 (by omega)
  refine bX11_get_0 ?_
  rw [r1, k1, n1, r2, k2, n2, r3, k3, n3, r4, k4, n4, Int.toNat_natCast, e9, e12]
  have f : SF b s (mI m 737 b) m (sA (sA (sA (sA m (b + 19) s (bOr (x 12) (bShl 1 (x 9)))) (b + 20) s (-1)) (b + 21) s (-1)) (b + 22) s 0) := ((((SF.rfl rfl).w (slC_k (k := 12) (by omega))).w (slC_k (k := 9) (by omega))).w (slC_k (k := 10) (by omega))).w (slC_k (k := 11) (by omega))
  exact ⟨h.1.1, rfl, by omega, rfl, by omega, by omega, rfl, by omega, rfl, hQ _ (h.sf f ((((h.2.2.set (k := 12) (by omega) (fun z => absurd z (by omega))).set (k := 9) (by omega) (fun z => absurd z (by omega))).set (k := 10) (by omega) (fun z => absurd z (by omega))).set (k := 11) (by omega) (fun z => absurd z (by omega)))) f⟩
end ZRF
