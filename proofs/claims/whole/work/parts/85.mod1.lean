/-! the reference: itself at x, its rows x + 1 to x + 7, its state x + 8, the state ahead x + 39 -/
def PA (m : zM) (u p i : Nat) (l : List zAc) : Prop := mA m u i = l.length ∧ l.length ≤ 60 ∧ ∀ (j : Nat) (q : zAc), l[j]? = some q → mA m p (4 * (60 * i + j)) = q.1 ∧ mA m p (4 * (60 * i + j) + 1) = q.2.1 ∧ (q.1 = 2 ∨ q.1 = 5 → mA m p (4 * (60 * i + j) + 2) = q.2.2.1) ∧ (q.1 = 5 → mA m p (4 * (60 * i + j) + 3) = q.2.2.2)
def MdF (m : zM) (x : Nat) : Prop := mC m x = 13 ∧ x + 70 ≤ mz m ∧ (mR m 769 x = x + 1 ∧ mR m 773 x = x + 2 ∧ mR m 774 x = x + 3 ∧ mR m 775 x = x + 4 ∧ mR m 777 x = x + 5 ∧ mR m 778 x = x + 6 ∧ mR m 780 x = x + 7 ∧ mR m 784 x = x + 8 ∧ mR m 785 x = x + 39) ∧ (mC m (x + 1) = 20 ∧ mC m (x + 2) = 20 ∧ mC m (x + 3) = 20 ∧ mC m (x + 4) = 20 ∧ mC m (x + 5) = 20 ∧ mC m (x + 6) = 20 ∧ mC m (x + 7) = 20) ∧ mN m (x + 1) = 1000 ∧ mN m (x + 2) = 1001 ∧ mN m (x + 3) = 1001 ∧ mN m (x + 4) = 1001 ∧ mN m (x + 5) = 6 ∧ mN m (x + 6) = 1440 ∧ mN m (x + 7) = 240
def Md (m : zM) (x : Nat) (B : zB) : Prop := MdF m x ∧ (mI m 770 x = bN B ∧ bN B ≤ 1000 ∧ ∀ i, i < bN B → mA m (x + 1) i = bT B i) ∧ mI m 771 x = bE B ∧ (∀ i, i < 6 → PA m (x + 5) (x + 6) i (bP B i)) ∧ RSt m (x + 8) (bY B) ∧ RF m (x + 39)
theorem RF.fr {m m' : zM} {b lo hi k u : Nat} (h1 : RF m b) (f : Fr (rg lo hi) k u m m') (hd : hi ≤ b ∨ b + 31 ≤ lo) : RF m' b := by
  have hz := h1.2.1
  have e : ∀ a, b ≤ a → a < b + 31 → Eqv m m' a := fun a a1 a2 => f.1 a (by omega) (fun z => by unfold rg at z; omega)
  have e0 := e b (by omega) (by omega)
  refine ⟨e0.2.2.2.2.1.trans h1.1, Nat.le_trans h1.2.1 f.2.1, fun q hq => ?_⟩
  have hr : 1 ≤ q.2.1 ∧ q.2.1 ≤ 30 := by
    have hall : ∀ q ∈ rTab, 1 ≤ q.2.1 ∧ q.2.1 ≤ 30 := by decide
    exact hall q hq
  have ea := e (b + q.2.1) (by omega) (by omega)
  rw [e0.2.1, ea.2.2.2.2.1, ea.2.2.2.2.2]
  exact h1.2.2 q hq
theorem MdF.mv {m m' : zM} {x : Nat} (h : MdF m x) (e : ∀ o, o < 8 → Eqv m m' (x + o)) (hz : mz m ≤ mz m') : MdF m' x := by
  have e0 : Eqv m m' x := e 0 (by omega)
  unfold MdF
  rw [e0.2.1, e0.2.1, e0.2.1, e0.2.1, e0.2.1, e0.2.1, e0.2.1, e0.2.1, e0.2.1, e0.2.2.2.2.1, (e 1 (by omega)).2.2.2.2.1, (e 2 (by omega)).2.2.2.2.1, (e 3 (by omega)).2.2.2.2.1, (e 4 (by omega)).2.2.2.2.1, (e 5 (by omega)).2.2.2.2.1, (e 6 (by omega)).2.2.2.2.1, (e 7 (by omega)).2.2.2.2.1, (e 1 (by omega)).2.2.2.2.2, (e 2 (by omega)).2.2.2.2.2, (e 3 (by omega)).2.2.2.2.2, (e 4 (by omega)).2.2.2.2.2, (e 5 (by omega)).2.2.2.2.2, (e 6 (by omega)).2.2.2.2.2, (e 7 (by omega)).2.2.2.2.2]
  exact ⟨h.1, Nat.le_trans h.2.1 hz, h.2.2⟩
theorem PA.mv {m m' : zM} {u p i : Nat} {l : List zAc} (h : PA m u p i l) (eu : Eqv m m' u) (ep : Eqv m m' p) : PA m' u p i l := by
  refine ⟨by rw [eu.2.2.1]; exact h.1, h.2.1, fun j q hq => ?_⟩
  rw [ep.2.2.1, ep.2.2.1, ep.2.2.1, ep.2.2.1]
  exact h.2.2 j q hq
/-- the state alone changed -/
theorem Md.stq {m m' : zM} {x k u lo hi : Nat} {B : zB} {Y : zY} (h : Md m x B) (f : Fr (rg lo hi) k u m m') (hd : x + 8 ≤ lo ∨ hi ≤ x) (hd2 : hi ≤ x + 39 ∨ x + 70 ≤ lo) (hY : RSt m' (x + 8) Y) : Md m' x (Y, B.2) := by
  obtain ⟨h1, h2, h3, h4, h5, h6⟩ := h
  have hz := h1.2.1
  have e : ∀ o, o < 8 → Eqv m m' (x + o) := fun o ho => f.1 _ (by omega) (fun z => by unfold rg at z; omega)
  have e0 : Eqv m m' x := e 0 (by omega)
  refine ⟨h1.mv e f.2.1, ⟨(e0.1 770).trans h2.1, h2.2.1, fun i hi => ((e 1 (by omega)).2.2.1 i).trans (h2.2.2 i hi)⟩, (e0.1 771).trans h3, fun i hi => (h4 i hi).mv (e 5 (by omega)) (e 6 (by omega)), hY, h6.fr f (by omega)⟩
theorem Md.fr {m m' : zM} {x k u lo hi : Nat} {B : zB} (h : Md m x B) (f : Fr (rg lo hi) k u m m') (hd : x + 70 ≤ lo ∨ hi ≤ x) : Md m' x B := h.stq f (by omega) (by omega) (h.2.2.2.2.1.mv f (by omega))
theorem Md.th {m : zM} {x : Nat} {v : Int} {B : zB} (h : Md m x B) : Md (sI m 768 x v) x B := by
  obtain ⟨h1, h2, h3, h4, h5, h6⟩ := h
  have f : Fr (rg x (x + 1)) 0 0 m (sI m 768 x v) := Fr.rfl.sI (by unfold rg; omega)
  exact ⟨h1, ⟨(by simp [zget, h2.1]), h2.2⟩, (by simp [zget, h3]), h4, h5.mv f (by omega), h6.fr f (by omega)⟩
theorem thF {m : zM} {x : Nat} {v : Int} : Fr (rg x (x + 70)) 0 0 m (sI m 768 x v) := Fr.rfl.sI (by unfold rg; omega)
theorem th0 {m : zM} {x : Nat} {v : Int} : mI (sI m 768 x v) 768 x = v := if_pos ⟨rfl, rfl⟩
section ZMD
variable {xs : Nat → Int} {xl d : Nat} {m : zM} {Q : zRes → zM → Prop}
theorem M_in {a b c : Int} (hT : b ≤ a ∧ a ≤ c → Q (.inl (some (zI 1))) m) (hF : ¬ (b ≤ a ∧ a ≤ c) → Q (.inl (some (zI 0))) m) : zC xs xl (d + 1) 163 [zI a, zI b, zI c] m Q :=
  bX12_isIn_0 ⟨fun z => hF (fun w => by omega), fun z => ⟨fun w => hF (fun q => by omega), fun w => hT ⟨by omega, by omega⟩⟩⟩
theorem M_no {x : Nat} {k : Int} {B : zB} (h : Md m x B) (hQ : ∀ m', Md m' x B → mI m' 768 x = k → Fr (rg x (x + 70)) 0 0 m m' → Q (.inl (some (zI 0))) m') : zC xs xl (d + 1) 162 [zR x, zI k] m Q := bX12_no_0 ⟨h.1.1, hQ _ h.th th0 thF⟩
/-- what an answer of the reference has to say -/
def eM (m : zM) (x k u : Nat) (a : Nat × Int) (B : zB) (Q : zRes → zM → Prop) : Prop := ∀ m' v, Md m' x B → mI m' 768 x = a.1 → (a.1 = 0 → v = a.2) → Fr (rg x (x + 70)) k u m m' → Q (.inl (some (zI v))) m'
theorem fr_to {m m1 m2 : zM} {x k u lo hi : Nat} (f : Fr (rg x (x + 70)) 0 0 m m1) (g : Fr (rg lo hi) k u m1 m2) (hl : lo = hi ∨ x ≤ lo ∧ hi ≤ x + 70) : Fr (rg x (x + 70)) k u m m2 := f.tr (k1 := 0) (u1 := 0) (g.sub (fun a q => by unfold rg at q ⊢; omega)) (by omega) (by omega)
theorem eM.no {x k u : Nat} {B : zB} {n : Nat} {w : Int} (hn : n ≠ 0) (h : Md m x B) (hQ : eM m x k u (n, w) B Q) {m1 : zM} (f : Fr (rg x (x + 70)) 0 0 m m1) (h1 : Md m1 x B) : zC xs xl (d + 1) 162 [zR x, zI (n : Int)] m1 (fun r m4 => ∃ v5 : Int, r = .inl (some (zI v5)) ∧ Q (.inl (some (zI v5))) m4) := M_no h1 (fun m' g1 g2 g3 => ⟨0, rfl, hQ m' 0 g1 g2 (fun z => absurd z hn) ((f.tr0 g3).mono (fun _ _ z => z) (Nat.zero_le _) (Nat.zero_le _))⟩)
theorem M_errorAt {x : Nat} {B : zB} (h : Md m x B) (hQ : eM m x 0 0 (0, bE B) B Q) : zC xs xl (d + 1) 183 [zR x] m Q := by
  refine bX12_errorAt_0 ⟨h.1.1, ?_⟩
  rw [h.2.2.1]
  exact hQ _ _ h.th th0 (fun _ => rfl) thF
theorem M_trim {x : Nat} {B : zB} {v : Int} (h : Md m x B) (hQ : eM m x 0 0 (aTrim B v).1 (aTrim B v).2 Q) : zC xs xl (d + 2) 165 [zR x, zI v] m Q := by
  have hN := h.2.1.1
  refine bX12_trim_0 ⟨h.1.1, ?_⟩
  rw [hN]
  refine M_in (fun c => ⟨1, rfl, fun _ => ⟨h.1.1, ?_⟩, fun z => absurd (by decide) z⟩) (fun c => ⟨0, rfl, fun z => absurd rfl z, fun _ => ⟨h.1.1, ?_⟩⟩)
  · have e : aTrim B v = ((0, v), (B.1, B.2.1, v.toNat, B.2.2.2)) := if_neg (by omega)
    rw [e] at hQ
    obtain ⟨h1, h2, h3, h4, h5, h6⟩ := h
    have f : Fr (rg x (x + 1)) 0 0 m (sI (sI m 768 x 0) 770 x v) := (Fr.rfl.sI (by unfold rg; omega)).sI (by unfold rg; omega)
    exact hQ _ v ⟨h1, ⟨by show (if _ then v else _) = ((v.toNat : Nat) : Int); rw [if_pos ⟨rfl, rfl⟩]; omega, by show v.toNat ≤ 1000; omega, fun i hi => h2.2.2 i (by have : i < v.toNat := hi; omega)⟩, (by simp [zget]; exact h3), h4, h5.mv f (by omega), h6.fr f (by omega)⟩ (by simp [zget]) (fun _ => rfl) (f.rg (Nat.le_refl _) (by omega))
  · have e : aTrim B v = ((1, 0), B) := if_pos (by omega)
    rw [e] at hQ
    exact eM.no (n := 1) (by decide) h hQ thF h.th
theorem M_count {x : Nat} {B : zB} {k : Int} (h : Md m x B) (hy : yOk (bY B)) (hQ : eM m x 1 9 (aCount B k) B Q) : zC xs xl (d + 3) 203 [zR x, zI k] m Q := by
  refine bX12_count_0 ⟨h.1.1, M_in (fun c => ⟨1, rfl, fun z => absurd z (by decide), fun _ => ⟨h.1.1, ?_⟩⟩) (fun c => ⟨0, rfl, fun _ => ⟨h.1.1, ?_⟩, fun z => absurd rfl z⟩)⟩
  · have e : aCount B k = (0, ctT (bY B) k.toNat) := if_pos ⟨by omega, by omega⟩
    rw [e] at hQ
    have hS : mR (sI m 768 x 0) 784 x = x + 8 := h.1.2.2.1.2.2.2.2.2.2.2.1
    rw [hS]
    obtain ⟨n, hn⟩ := Int.eq_ofNat_of_zero_le c.1
    subst hn
    refine ⟨h.2.2.2.2.1.1.1, R_counted h.th.2.2.2.2.1 hy (by omega) (fun m' f => ⟨_, rfl, hQ m' _ (h.th.fr f (Or.inr (Nat.zero_le _))) ?_ (fun _ => rfl) (fr_to thF f (Or.inl rfl))⟩)⟩
    rw [(f.1 x (by have := h.1.2.1; show x < mz m; omega) (fun z => by unfold rg at z; omega)).1 768]; exact th0
  · have e : aCount B k = (1, 0) := if_neg (fun z => c ⟨z.1, by have := z.2; omega⟩)
    rw [e] at hQ
    exact eM.no (n := 1) (by decide) h hQ thF h.th
end ZMD
