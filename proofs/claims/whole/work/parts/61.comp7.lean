/-! a right form is a block; the whole way through -/
theorem restF_len {t : Nat → Int} {n : Nat} : ∀ {l : List Int} {i : Nat}, (restF t n l i).1 = true → (restF t n l i).2 = i + l.length
  | [], i, _ => rfl
  | k :: r, i, h => by
    unfold restF at h ⊢
    split at h
    · rename_i c
      rw [if_pos c, restF_len h, List.length_cons]; omega
    · cases h
theorem formF_blk {t : Nat → Int} {n e : Nat} : ∀ (F f i dep : Nat) (hs : Bool), f ≤ F → formF t n f i dep hs = (true, e) → ∃ j, blkF t n f i = some j ∧ (dep = 0 → (tkF t n j).1 = 46) ∧ (0 < dep → (tkF t n j).1 = 125 ∧ ∃ f', f' < f ∧ formF t n f' (j + 1) (dep - 1) true = (true, e)) := by
  intro F
  induction F with
  | zero =>
    intro f i dep hs hf h
    rw [show f = 0 by omega] at h
    unfold formF at h
    cases h
  | succ F ih =>
    intro f i dep hs hf h
    cases f with
    | zero => unfold formF at h; cases h
    | succ f =>
      unfold formF at h
      unfold blkF
      by_cases c1 : hs = true ∧ dep = 0 ∧ (tkF t n i).1 = 46
      · exact ⟨i, if_pos (Or.inl c1.2.2), fun _ => c1.2.2, fun z => absurd z (by omega)⟩
      rw [if_neg c1] at h
      by_cases c2 : hs = true ∧ 0 < dep ∧ (tkF t n i).1 = 125
      · rw [if_pos c2] at h
        exact ⟨i, if_pos (Or.inr c2.2.2), fun z => absurd z (by omega), fun _ => ⟨c2.2.2, f, by omega, h⟩⟩
      rw [if_neg c2] at h
      by_cases c3 : (tkF t n i).1 ≠ 115
      · rw [if_pos c3] at h; cases h
      rw [if_neg c3] at h
      have c3' := Decidable.not_not.mp c3
      by_cases c4 : (restF t n (formL (tkF t n i).2.1) (i + 1)).1 = true
      · rw [if_pos c4, restF_len c4] at h
        rw [if_neg (by rw [c3']; decide), if_neg (fun z => by rcases z with z | z; exact c3 z; rw [c4] at z; cases z)]
        by_cases c8 : (tkF t n i).2.1 = 8
        · rw [c8, if_pos rfl, if_pos rfl, formL_8] at h
          rw [if_pos c8]
          obtain ⟨j1, b1, -, b3⟩ := ih f (i + 3) (dep + 1) false (by omega) h
          obtain ⟨k1, f', hf', h'⟩ := b3 (by omega)
          obtain ⟨j, b4, b5, b6⟩ := ih f' (j1 + 1) dep true (by omega) h'
          refine ⟨j, ?_, b5, fun hd => ?_⟩
          · rw [b1]
            show (if (tkF t n j1).1 = 125 then blkF t n f (j1 + 1) else none) = some j
            rw [if_pos k1]
            exact blkF_mono (by omega) b4
          · obtain ⟨k2, f2, hf2, h2⟩ := b6 hd
            exact ⟨k2, f2, by omega, h2⟩
        · rw [if_neg c8, if_neg c8] at h
          rw [if_neg c8]
          obtain ⟨j, b4, b5, b6⟩ := ih f _ dep true (by omega) h
          refine ⟨j, b4, b5, fun hd => ?_⟩
          obtain ⟨k2, f2, hf2, h2⟩ := b6 hd
          exact ⟨k2, f2, by omega, h2⟩
      · rw [if_neg c4] at h; cases h
theorem str_46 : ∀ k : Fin 30, (zSTR k.1).all (fun c => decide (c ≠ 46)) = true := by decide +kernel
theorem formL_46 {w k : Int} (h : k ∈ formL w) : k ≠ 46 := by
  have hw := formI_in w
  have h2 : (formL w).all (fun c => decide (c ≠ 46)) = true := str_46 ⟨formI w - 20, by omega⟩
  exact of_decide_eq_true (List.all_eq_true.mp h2 k h)
theorem restF_pl {t : Nat → Int} {n : Nat} : ∀ {l : List Int} {i : Nat}, (∀ k ∈ l, k ≠ 46) → (restF t n l i).1 = true → plF t n i + l.length ≤ plF t n (i + l.length)
  | [], i, _, _ => Nat.le_refl _
  | k :: r, i, hk, h => by
    unfold restF at h
    split at h
    · rename_i c
      have h1 := plF_go (t := t) (n := n) (i := i) (by rw [c]; exact hk k List.mem_cons_self)
      have h2 := restF_pl (fun q hq => hk q (List.mem_cons_of_mem _ hq)) h
      rw [List.length_cons, show i + (r.length + 1) = i + 1 + r.length by omega]
      omega
    · cases h
theorem blkF_pl {t : Nat → Int} {n : Nat} : ∀ {f i j : Nat}, blkF t n f i = some j → plF t n i + j ≤ plF t n j + i
  | 0, _, _, h => absurd h (by unfold blkF; exact fun z => by cases z)
  | f + 1, i, j, h => by
    unfold blkF at h
    split at h
    · rw [Option.some.inj h]; omega
    · split at h
      · cases h
      · rename_i c2
        have h1 := plF_go (t := t) (n := n) (i := i) (fun z => c2 (Or.inl (by rw [z]; decide)))
        have hr : (restF t n (formL (tkF t n i).2.1) (i + 1)).1 = true := by
          cases hx : (restF t n (formL (tkF t n i).2.1) (i + 1)).1 with
          | false => exact absurd (Or.inr hx) c2
          | true => rfl
        have h2 := restF_pl (fun k hk => formL_46 hk) hr
        split at h
        · rename_i c8
          rw [c8, formL_8] at h2
          have h2' : plF t n (i + 1) + 2 ≤ plF t n (i + 3) := h2
          split at h
          · rename_i j1 hj1
            split at h
            · rename_i c125
              have h3 := plF_go (t := t) (n := n) (i := j1) (by rw [c125]; decide)
              have h4 := blkF_pl hj1
              have h5 := blkF_pl h
              omega
            · cases h
          · cases h
        · have h5 := blkF_pl h
          omega
def goF (t : Nat → Int) (n : Nat) : (Int × Nat) ⊕ List zAc := match evF t n (n + 1) 3 0 ([], 0, 0, 0) with
  | .inl e => .inl e
  | .inr (_, st) => if st.2.2.1 ≠ 0 ∨ st.2.1 ≠ 0 then .inl (3, n) else .inr st.1
section ZCV
variable {xs : Nat → Int} {xl d : Nat} {m : zM} {Q : zRes → zM → Prop}
theorem simEv {P c tp n pd N : Nat} {t : Nat → Int} {m0 : zM} (hT : Tp m0 tp n t) (ht : ∀ i, i < n → 0 ≤ t i) (ha : tp + 2 ≤ c ∨ c + 6 ≤ tp) (hcP : c + 6 ≤ P) (htP : tp + 2 ≤ P) : ∀ (k q : Nat), k + q = 3 → SimP xs xl d P c tp t n pd m0 Q (9 ^ k) q (blkF t n N) (evF t n N k) := by
  intro k
  induction k with
  | zero =>
    intro q hq
    exact simItems (C' := 0) hT ht ha hcP htP hq (by decide) (fun z => absurd z (by omega)) (fun z => absurd z (by omega)) N (Nat.le_refl _)
  | succ k ih =>
    intro q hq
    exact simItems (C' := 9 ^ k) hT ht ha hcP htP hq (Nat.pow_pos (by decide)) (fun _ => ⟨by rw [Nat.pow_succ, Nat.mul_comm], Nat.pow_pos (by decide)⟩) (fun _ => ih (q + 1) (by omega)) N (Nat.le_refl _)
theorem C_goThrough {P c tp n pd p s e0 : Nat} {k v : Int} {t : Nat → Int} (h : Cp m c tp) (hS : Sc m (c + 5) tp p k v s) (hT : Tp m tp n t) (ht : ∀ i, i < n → 0 ≤ t i) (ha : tp + 2 ≤ c ∨ c + 6 ≤ tp) (hcP : c + 6 ≤ P) (htP : tp + 2 ≤ P) (hp : PlT P m pd []) (h74 : mI m 74 c = -1) (hb : blkF t n (n + 1) 0 = some e0) (h46 : (tkF t n e0).1 = 46)
    (hE : ∀ (e : Int) (p : Nat) (m' : zM), goF t n = .inl (e, p) → e ≠ 0 → CS m' c tp → mI m' 74 c = p → Fr (cRg c pd) 60 240 m m' → Q (.inl (some (zI e))) m')
    (hO : ∀ (l : List zAc) (m' : zM), goF t n = .inr l → CS m' c tp → mI m' 74 c = -1 → PlT P m' pd l → Fr (cRg c pd) 60 240 m m' → Q (.inl (some (zI 0))) m') : zC xs xl (d + 10) 7 [zR c, zR pd] m Q := by
  have hn := hT.2.1.2
  have hpl := blkF_pl hb
  have hpn := plF_in t n e0
  have hz := h.1.2.2.2.2.2.2.2
  refine bX1_goThrough_0 ⟨h.1.1, ?_⟩
  rw [h.1.2.2.1]
  refine ⟨hS.1, bX5_goTo_0 ⟨hS.1, rfl, ?_⟩⟩
  have f1 : Fr (rg c (c + 6)) 0 0 m (sI (sI (sI (sI (sI m 70 c 0) 71 c 0) 72 c 0) 73 c 0) 321 (c + 5) 0) := by
    have hr : rg c (c + 6) c := by unfold rg; omega
    exact ((((Fr.rfl.sI hr).sI hr).sI hr).sI hr).sI (by unfold rg; omega)
  have hT1 : Tp (sI (sI (sI (sI (sI m 70 c 0) 71 c 0) 72 c 0) 73 c 0) 321 (c + 5) 0) tp n t := hT.mv (Nat.le_refl _) (f1.1 tp (by have := hT.1.2.2.2.2; omega) (fun z => by unfold rg at z; omega)) (f1.1 (tp + 1) (by have := hT.1.2.2.2.2; omega) (fun z => by unfold rg at z; omega))
  have e5 : ∀ f, mI (sI (sI (sI (sI m 70 c 0) 71 c 0) 72 c 0) 73 c 0) f (c + 5) = mI m f (c + 5) := fun f => by simp [zget]
  have e6 : ∀ f, mI (sI (sI (sI (sI (sI m 70 c 0) 71 c 0) 72 c 0) 73 c 0) 321 (c + 5) 0) f c = mI (sI (sI (sI (sI m 70 c 0) 71 c 0) 72 c 0) 73 c 0) f c := fun f => (Eqv.nI (by omega)).1 f
  refine simEv (d := d) hT1 ht ha hcP htP 3 0 rfl 0 e0 ([], 0, 0, 0) _ 0 _ (fun _ => 0) (fun _ => 0) hb ⟨⟨h.1, h.2⟩, ⟨k, v, s, Sc.go (m := sI (sI (sI (sI m 70 c 0) 71 c 0) 72 c 0) 73 c 0) ⟨hS.1, hS.2.1, (e5 _).trans hS.2.2.1, (e5 _).trans hS.2.2.2.1, (e5 _).trans hS.2.2.2.2.1, (e5 _).trans hS.2.2.2.2.2⟩ rfl⟩, ⟨by rw [e6]; simp [zget], by rw [e6]; simp [zget], by rw [e6]; simp [zget], by rw [e6]; simp [zget], Or.inl rfl⟩, hp.mv f1 (by omega), by rw [e6]; simp [zget, h74], fun j hj => absurd hj (by omega), Fr.rfl, by decide⟩ ?_ (fun e p m' he hne cs h7 f' => ?_) (fun st' m' a' u' he R ha' => ?_)
  · have : (9 : Nat) ^ 3 = 729 := rfl
    omega
  · refine hE e p m' ?_ hne cs h7 ((fr_c f1 (by omega) (by omega)).tr f' (by omega) (by omega))
    unfold goF
    rw [he]
  · have hgo : goF t n = if st'.2.2.1 ≠ 0 ∨ st'.2.1 ≠ 0 then .inl (3, n) else .inr st'.1 := by
      unfold goF
      rw [he]
    have hT' := R.tp hT1 ha htP
    obtain ⟨r1, ⟨k1, v1, s1, r2⟩, r3⟩ := id R
    have hx : (9 : Nat) ^ 3 = 729 := rfl
    refine bX1_goThrough_30 ⟨fun z => absurd z (by omega), fun _ => ⟨r1.1.1, ?_⟩⟩
    rw [r1.1.2.2.1]
    refine ⟨r2.1, C_nextT r2 hT' ht (by omega) (fun m2 g2 f2 => ?_)⟩
    have R2 := R.nx hcP g2 f2
    have hT2 := R2.tp hT1 ha htP
    obtain ⟨d1, d2, d3, d4, d5, d6, d7, d8⟩ := id R2
    have ff : Fr (cRg c pd) 60 240 m m2 := ((fr_c f1 (by omega) (by omega)).tr d7 (Nat.le_refl _) (Nat.le_refl _)).mono (fun _ _ z => z) (by omega) (by omega)
    refine ⟨rfl, d1.1.1, ?_⟩
    rw [d1.1.2.2.1, g2.2.2.2.1, h46, d3.2.1, d3.1, d1.1.2.1, hT2.2.1.1]
    refine ⟨g2.1, fun z => absurd rfl z, fun _ => ⟨fun z => ⟨hT2.1.1, C_fail d1 ⟨_, rfl, hE 3 n _ (by rw [hgo, if_pos (Or.inl z)]) (by decide) (cs_err d1 g2) zm_Is (ff.sI (Or.inl (by unfold rg; omega)))⟩⟩, fun z => ⟨fun z2 => hO st'.1 m2 (by rw [hgo, if_neg (fun y => by rcases y with y | y; exact z y; exact y z2)]) ⟨d1, _, _, _, _, g2⟩ d5 d4 ff, fun z2 => ⟨hT2.1.1, C_fail d1 ⟨_, rfl, hE 3 n _ (by rw [hgo, if_pos (Or.inr z2)]) (by decide) (cs_err d1 g2) zm_Is (ff.sI (Or.inl (by unfold rg; omega)))⟩⟩⟩⟩⟩
theorem C_formError {c tp n s p : Nat} {k v : Int} {t : Nat → Int} (h : Cp m c tp) (hS : Sc m (c + 5) tp p k v s) (hT : Tp m tp n t) (ht : ∀ i, i < n → 0 ≤ t i) (ha : tp + 2 ≤ c ∨ c + 6 ≤ tp)
    (h0 : (formF t n (n + 1) 0 0 false).1 = true → ∀ m' p' k' v' s', Cp m' c tp → Sc m' (c + 5) tp p' k' v' s' → mI m' 74 c = -1 → Fr (rg c (c + 6)) 0 0 m m' → Q (.inl (some (zI 0))) m')
    (h1 : (formF t n (n + 1) 0 0 false).1 = false → ∀ m' p' k' v' s', Cp m' c tp → Sc m' (c + 5) tp p' k' v' s' → mI m' 74 c = ((tkF t n (formF t n (n + 1) 0 0 false).2).2.2.1 : Nat) → Fr (rg c (c + 6)) 0 0 m m' → Q (.inl (some (zI 1))) m') : zC xs xl (d + 10) 3 [zR c] m Q := by
  have hz := h.1.2.2.2.2.2.2.2
  have hr : rg c (c + 6) c := by unfold rg; omega
  have f1 : Fr (rg c (c + 1)) 0 0 m (sI m 74 c (-1)) := Fr.rfl.sI (by unfold rg; omega)
  have hT1 : Tp (sI m 74 c (-1)) tp n t := hT.fr f1 (by omega)
  have e5 : ∀ f, mI (sI m 74 c (-1)) f (c + 5) = mI m f (c + 5) := fun f => (Eqv.nI (by omega)).1 f
  have hC1 : Cp (sI m 74 c (-1)) c tp := ⟨h.1, h.2⟩
  refine bX1_formError_0 ⟨h.1.1, C_wellFormed hC1 ⟨hS.1, hS.2.1, (e5 _).trans hS.2.2.1, (e5 _).trans hS.2.2.2.1, (e5 _).trans hS.2.2.2.2.1, (e5 _).trans hS.2.2.2.2.2⟩ hT1 ht ha (fun m2 g2 f2 => ⟨_, rfl, ?_⟩)⟩
  have hC2 := hC1.fr f2 (by omega)
  have ff : Fr (rg c (c + 6)) 0 0 m m2 := (f1.rg (by omega) (by omega)).tr0 (f2.rg (by omega) (by omega))
  have e0 := f2.1 c (by have := hC1.1.2.2.2.2.2.2.2; omega) (fun z => by unfold rg at z; omega)
  cases hx : (formF t n (n + 1) 0 0 false).1 with
  | true =>
    rw [if_pos rfl]
    exact ⟨fun z => absurd z (by decide), fun _ => h0 hx m2 _ _ _ _ hC2 g2 ((e0.1 74).trans zm_Is) ff⟩
  | false =>
    rw [if_neg (by decide)]
    refine ⟨fun _ => ⟨hC2.1.1, ?_⟩, fun z => absurd rfl z⟩
    rw [hC2.1.2.2.1, g2.2.2.2.2.1]
    have e6 : ∀ (f : Nat) (q : Int), mI (sI m2 74 c q) f (c + 5) = mI m2 f (c + 5) := fun f q => (Eqv.nI (by omega)).1 f
    exact ⟨g2.1, C_fail hC2 ⟨_, rfl, h1 hx _ _ _ _ _ ⟨hC2.1, hC2.2⟩ ⟨g2.1, g2.2.1, (e6 _ _).trans g2.2.2.1, (e6 _ _).trans g2.2.2.2.1, (e6 _ _).trans g2.2.2.2.2.1, (e6 _ _).trans g2.2.2.2.2.2⟩ zm_Is (ff.sI hr)⟩⟩
end ZCV
