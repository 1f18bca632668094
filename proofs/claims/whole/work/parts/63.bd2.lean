theorem split_sorted {l : List Int} {p : Int} (hw : l.Pairwise (· < ·)) (hp : p ∉ l) : (l.filter (fun k => decide (k < p))).length + (l.filter (fun k => decide (p < k))).length = l.length := by
  induction l with
  | nil => rfl
  | cons k t ih =>
    rw [List.pairwise_cons] at hw
    have h := ih hw.2 (fun z => hp (List.mem_cons_of_mem _ z))
    have hne : k ≠ p := fun z => hp (by rw [z]; exact List.mem_cons_self)
    by_cases c : k < p
    · rw [List.filter_cons_of_pos (by simpa using c), List.filter_cons_of_neg (by simp; omega), List.length_cons, List.length_cons]
      omega
    · rw [List.filter_cons_of_neg (by simpa using c), List.filter_cons_of_pos (by simp; omega), List.length_cons, List.length_cons]
      omega
theorem insF_len {y : zPk} {p : Int} (hw : y.2.2.2.Pairwise (· < ·)) (hp : p ∉ y.2.2.2) : (insF y p).2.2.2.length = y.2.2.2.length + 1 := by
  show (y.2.2.2.filter _ ++ p :: y.2.2.2.filter _).length = _
  rw [List.length_append, List.length_cons]
  have := split_sorted hw hp
  omega
section ZBE
variable {xs : Nat → Int} {xl d : Nat} {m : zM} {Q : zRes → zM → Prop}
theorem fr_bx {x : Nat} {m m' : zM} (f : Fr (rg 0 0) 1 6 m m') : Fr (rg x (x + 392)) 1 6 m m' := f.sub (fun a z => by unfold rg at z; omega)
theorem fr_by {x lo hi : Nat} {m m' : zM} (f : Fr (rg lo hi) 0 0 m m') (h1 : x ≤ lo) (h2 : hi ≤ x + 392) : Fr (rg x (x + 392)) 1 6 m m' := f.mono (fun a _ z => ⟨Nat.le_trans h1 z.1, Nat.lt_of_lt_of_le z.2 h2⟩) (Nat.zero_le _) (Nat.zero_le _)
theorem C_bAddPlank {P x : Nat} {B : zB} {w l t : Int} (h : Bd P m x B) (hQ : ∀ m', Bd P m' x (aAddPlank B w l t).2 → Fr (rg x (x + 392)) 1 6 m m' → Q (rsF 1 0 0 (aAddPlank B w l t).1) m') : zC xs xl (d + 3) 108 [zR x, zI w, zI l, zI t] m Q := by
  obtain ⟨h1, h2, h3, h4, ⟨p, h5⟩, h6⟩ := id h
  have hst := h5.2.2.1
  unfold aAddPlank at hQ
  refine bX10_addPlank_0 (C_isBelow ⟨_, rfl, fun c => ?_, fun c => ⟨fun c1 => ?_, fun c1 => ⟨fun c2 => ?_, fun c2 => ⟨fun c3 => ?_, fun c3 => ⟨fun c4 => ⟨h1.1.1, ?_⟩, fun c4 => ?_⟩⟩⟩⟩⟩)
  · rw [if_pos (fun z => isb.mp c z.1)] at hQ
    exact hQ _ h.x (fr_bx fr_nwX)
  · rw [if_pos (fun z => by omega)] at hQ
    exact hQ _ h.x (fr_bx fr_nwX)
  · rw [if_pos (fun z => by omega)] at hQ
    exact hQ _ h.x (fr_bx fr_nwX)
  · rw [if_pos (fun z => by omega)] at hQ
    exact hQ _ h.x (fr_bx fr_nwX)
  · have c' : inF w 4 := Decidable.byContradiction (fun z => c (isb.mpr z))
    rw [if_neg (fun z => z ⟨c', by omega, by omega⟩)] at hQ
    rw [h1.1.2.2.2.2.1, h5.1.2.1, hst.2.1.1]
    refine ⟨h5.1.1, hst.1.1, fun c5 => ?_, fun c5 => ?_⟩
    · rw [if_neg (by omega)] at hQ
      exact C_stAdd hst (by omega) (fun m2 s2 f2 => ⟨_, rfl, hQ m2 (h.yd (f2.rg (by omega) (by omega)) (h5.st f2 s2)) (fr_by f2 (by omega) (by omega))⟩)
    · rw [if_pos (by omega)] at hQ
      exact hQ _ h.x (fr_bx fr_nwX)
  · rw [if_pos (fun z => by omega)] at hQ
    exact hQ _ h.x (fr_bx fr_nwX)
theorem C_bAddKnot {P x : Nat} {B : zB} {k q : Int} (h : Bd P m x B) (ho : stOk (yN (bY B)) (yY (bY B))) (hQ : ∀ m', Bd P m' x (aAddKnot B k q).2 → Fr (rg x (x + 392)) 1 6 m m' → Q (rsF 2 1 0 (aAddKnot B k q).1) m') : zC xs xl (d + 2) 109 [zR x, zI k, zI q] m Q := by
  obtain ⟨h1, h2, h3, h4, ⟨p, h5⟩, h6⟩ := id h
  have hst := h5.2.2.1
  have hn := hst.2.1.2.2
  unfold aAddKnot at hQ
  refine bX10_addKnot_0 ⟨h1.1.1, ?_⟩
  rw [h1.1.2.2.2.2.1, h5.1.2.1, hst.2.1.1]
  refine ⟨h5.1.1, hst.1.1, C_isBelow ⟨_, rfl, fun c => ⟨h1.1.1, ?_⟩, fun c => ?_⟩⟩
  · have c' : inF k (yN (bY B)) := Decidable.byContradiction (fun z => c (isb.mpr z))
    rw [if_neg (fun z => z c')] at hQ
    have hk : k.toNat < yN (bY B) := by omega
    have pk := hst.at hk (by omega)
    have hok := ho k.toNat hk
    rw [h1.1.2.2.2.2.1, h5.1.2.1, hst.1.2.1, pk.1, pk.2.2.1.2.1]
    refine ⟨h5.1.1, hst.1.1, by rw [hst.1.2.2.1]; decide, by rw [hst.1.2.2.2.1]; omega, pk.2.1.1, C_isBelow ⟨_, rfl, fun c1 => ⟨pk.2.1.1, ?_⟩, fun c1 => ?_⟩⟩
    · have c1' : inF q (yY (bY B) k.toNat).2.1 := Decidable.byContradiction (fun z => c1 (isb.mpr z))
      rw [if_neg (fun z => z c1')] at hQ
      rw [pk.2.2.1.2.2.2]
      refine ⟨fun c2 => ?_, fun c2 => C_hasKnotAt pk.2 ⟨_, rfl, fun c3 => ⟨pk.2.1.1, ?_⟩, fun c3 => ?_⟩⟩
      · rw [if_pos (Or.inl (by omega))] at hQ
        exact hQ _ h.x (fr_bx fr_nwX)
      · have c3' := isb.mp c3
        rw [if_neg (fun z => by rcases z with z | z; omega; exact c3' z)] at hQ
        refine C_insertKnot pk.2 (by omega) hok.2.2.2.2 c3' (fun m2 p2 f2 => ⟨rfl, p2.1.1, ?_⟩)
        have s2 := hst.up (by omega) f2 p2
        have el : (((insF (yY (bY B) k.toNat) q).2.2.2.length : Nat) : Int) = (((yY (bY B) k.toNat).2.2.2.length + 1 : Nat) : Int) := by rw [insF_len hok.2.2.2.2 c3']
        rw [p2.2.1.2.2.2, el]
        exact hQ m2 (h.yd (f2.rg (by omega) (by omega)) (h5.st (f2.rg (by omega) (by omega)) s2)) (fr_by f2 (by omega) (by omega))
      · have c3' : q ∈ (yY (bY B) k.toNat).2.2.2 := Decidable.byContradiction (fun z => c3 (isb.mpr z))
        rw [if_pos (Or.inr c3')] at hQ
        exact hQ _ h.x (fr_bx fr_nwX)
    · rw [if_pos (isb.mp (Decidable.not_not.mp c1))] at hQ
      exact hQ _ h.x (fr_bx fr_nwX)
  · rw [if_pos (isb.mp (Decidable.not_not.mp c))] at hQ
    exact hQ _ h.x (fr_bx fr_nwX)
theorem C_bPlank {P x : Nat} {B : zB} {k j : Int} (h : Bd P m x B) (ho : stOk (yN (bY B)) (yY (bY B))) (hQ : ∀ m', Bd P m' x B → Fr (rg x (x + 392)) 1 6 m m' → Q (rsF 2 0 0 (aPlank B k j)) m') : zC xs xl (d + 3) 110 [zR x, zI k, zI j] m Q := by
  obtain ⟨h1, h2, h3, h4, ⟨p, h5⟩, h6⟩ := id h
  have hst := h5.2.2.1
  have hn := hst.2.1.2.2
  unfold aPlank at hQ
  refine bX10_plank_0 ⟨h1.1.1, ?_⟩
  rw [h1.1.2.2.2.2.1, h5.1.2.1, hst.2.1.1]
  refine ⟨h5.1.1, hst.1.1, C_isBelow ⟨_, rfl, fun c => ?_, fun c => C_isBelow ⟨_, rfl, fun c1 => ⟨h1.1.1, ?_⟩, fun c1 => ?_⟩⟩⟩
  · rw [if_neg (fun z => isb.mp c z.1)] at hQ
    exact hQ _ h.x (fr_bx fr_nwX)
  · have c' : inF k (yN (bY B)) := Decidable.byContradiction (fun z => c (isb.mpr z))
    have c1' : inF j 5 := Decidable.byContradiction (fun z => c1 (isb.mpr z))
    rw [if_pos ⟨c', c1'⟩] at hQ
    have hk : k.toNat < yN (bY B) := by omega
    have pk := hst.at hk (by omega)
    rw [h1.1.2.2.2.2.1, h5.1.2.1, hst.1.2.1, pk.1]
    refine ⟨h5.1.1, hst.1.1, by rw [hst.1.2.2.1]; decide, by rw [hst.1.2.2.2.1]; omega, pk.2.1.1, ?_⟩
    have q := C_pkTell (xs := xs) (xl := xl) (d := d) (k := j.toNat) (Q := fun r m8 => ∃ v9 : Int, r = .inl (some (zI v9)) ∧ Q (.inl (some (zI v9))) m8) pk.2 (ho k.toNat hk) ⟨_, rfl, hQ m h Fr.rfl⟩
    rwa [show ((j.toNat : Nat) : Int) = j by omega] at q
  · rw [if_neg (fun z => isb.mp (Decidable.not_not.mp c1) z.2)] at hQ
    exact hQ _ h.x (fr_bx fr_nwX)
theorem C_bFind {P x : Nat} {B : zB} {w l q : Int} (h : Bd P m x B) (ho : stOk (yN (bY B)) (yY (bY B))) (hQ : ∀ m', Bd P m' x B → Fr (rg x (x + 392)) 1 6 m m' → Q (rsF 1 0 0 (aFind B w l q)) m') : zC xs xl (d + 3) 111 [zR x, zI w, zI l, zI q] m Q := by
  obtain ⟨h1, h2, h3, h4, ⟨p, h5⟩, h6⟩ := id h
  have hst := h5.2.2.1
  have hn := hst.2.1.2.2
  unfold aFind at hQ
  refine bX10_find_0 (C_isBelow ⟨_, rfl, fun c => ?_, fun c => ⟨fun c1 => ?_, fun c1 => ⟨fun c2 => ⟨h1.1.1, ?_⟩, fun c2 => ?_⟩⟩⟩)
  · rw [if_pos (fun z => isb.mp c z.1)] at hQ
    exact hQ _ h.x (fr_bx fr_nwX)
  · rw [if_pos (fun z => by omega)] at hQ
    exact hQ _ h.x (fr_bx fr_nwX)
  · have c' : inF w 4 := Decidable.byContradiction (fun z => c (isb.mpr z))
    rw [if_neg (fun z => z ⟨c', by omega⟩)] at hQ
    have hb := bestF_in (yY (bY B)) w l (yN (bY B))
    rw [h1.1.2.2.2.2.1, h5.1.2.1]
    refine ⟨h5.1.1, hst.1.1, C_plankFor hst ho ⟨_, rfl, fun c3 => ?_, fun c3 => ⟨fun c4 => ⟨h1.1.1, ?_⟩, fun c4 => ?_⟩⟩⟩
    · rw [if_pos (Or.inl c3)] at hQ
      exact hQ m h Fr.rfl
    · rw [if_neg (fun z => by rcases z with z | z; exact c3 z; exact c4 z)] at hQ
      have hk : (bestF (yY (bY B)) w l (yN (bY B))).toNat < yN (bY B) := by omega
      have pk := hst.at hk (by omega)
      rw [h1.1.2.2.2.2.1, h5.1.2.1, hst.1.2.1, pk.1]
      exact ⟨h5.1.1, hst.1.1, by rw [hst.1.2.2.1]; decide, by rw [hst.1.2.2.2.1]; omega, pk.2.1.1, C_clearPlaceFor pk.2 (ho _ hk) ⟨_, rfl, hQ m h Fr.rfl⟩⟩
    · rw [if_pos (Or.inr (Decidable.not_not.mp c4))] at hQ
      exact hQ m h Fr.rfl
  · rw [if_pos (fun z => by omega)] at hQ
    exact hQ _ h.x (fr_bx fr_nwX)
theorem C_bAddFrame {P x : Nat} {B : zB} {j : Int} (h : Bd P m x B) (hQ : ∀ m', Bd P m' x (aAddFrame B j).2 → Fr (rg x (x + 392)) 1 6 m m' → Q (rsF 1 0 0 (aAddFrame B j).1) m') : zC xs xl (d + 2) 112 [zR x, zI j] m Q := by
  obtain ⟨h1, h2, h3, h4, ⟨p, h5⟩, h6⟩ := id h
  have hA := h5.2.2.2.1
  unfold aAddFrame at hQ
  refine bX10_addFrame_0 (C_isBelow ⟨_, rfl, fun c => ⟨h1.1.1, ?_⟩, fun c => ?_⟩)
  · have c' : inF j 5 := Decidable.byContradiction (fun z => c (isb.mpr z))
    rw [if_neg (fun z => z c')] at hQ
    have a := hA.2 j.toNat (by omega)
    rw [h1.1.2.2.2.2.1, h5.1.2.2.1, h5.1.2.2.2.1, hA.1.1, hA.1.2.1, hA.1.2.2.1, hA.1.2.2.2, a.1]
    refine ⟨h5.1.1, rfl, by omega, fun c1 => ⟨rfl, by omega, ?_⟩, fun c1 => ?_⟩
    · rw [if_neg (by omega)] at hQ
      have e1 : ∀ v u : Int, mA (sA (sA m (x + 10 + 123) j.toNat v) (x + 10 + 124) j.toNat u) (x + 10 + 123) j.toNat = v := fun v u => by
        rw [(Eqv.nA (show x + 10 + 123 ≠ x + 10 + 124 by omega)).2.2.1, zm_As]
      have e2 : ∀ v : Int, mA (sA m (x + 10 + 123) j.toNat v) (x + 10 + 124) j.toNat = yE (bY B) j.toNat := fun v => by
        rw [(Eqv.nA (show x + 10 + 124 ≠ x + 10 + 123 by omega)).2.2.1]; exact a.2
      rw [e2, e1]
      have y2 : Yd P 6 40 (sA (sA m (x + 10 + 123) j.toNat (wr (yF (bY B) j.toNat + 1))) (x + 10 + 124) j.toNat (wr (yE (bY B) j.toNat + 1))) (x + 10) p (ye (yf (bY B) j.toNat (wr (yF (bY B) j.toNat + 1))) j.toNat (wr (yE (bY B) j.toNat + 1))) := h5.sF.sE
      have f2 : Fr (rg (x + 10) (x + 201)) 0 0 m (sA (sA m (x + 10 + 123) j.toNat (wr (yF (bY B) j.toNat + 1))) (x + 10 + 124) j.toNat (wr (yE (bY B) j.toNat + 1))) := (Fr.rfl.sA (by unfold rg; omega)).sA (by unfold rg; omega)
      exact hQ _ (h.yd f2 y2) (fr_by f2 (by omega) (by omega))
    · rw [if_pos (by omega)] at hQ
      exact hQ _ h.x (fr_bx fr_nwX)
  · rw [if_pos (isb.mp (Decidable.not_not.mp c))] at hQ
    exact hQ _ h.x (fr_bx fr_nwX)
theorem C_bFrames {P x : Nat} {B : zB} {j k : Int} (h : Bd P m x B) (hQ : ∀ m', Bd P m' x B → Fr (rg x (x + 392)) 1 6 m m' → Q (rsF 2 0 0 (aFrames B j k)) m') : zC xs xl (d + 3) 113 [zR x, zI j, zI k] m Q := by
  obtain ⟨h1, h2, h3, h4, ⟨p, h5⟩, h6⟩ := id h
  unfold aFrames at hQ
  refine bX10_frames_0 (C_isBelow ⟨_, rfl, fun c => ?_, fun c => C_isBelow ⟨_, rfl, fun c1 => ⟨h1.1.1, ?_⟩, fun c1 => ?_⟩⟩)
  · rw [if_neg (fun z => isb.mp c z.1)] at hQ
    exact hQ _ h.x (fr_bx fr_nwX)
  · have c' : inF j 5 := Decidable.byContradiction (fun z => c (isb.mpr z))
    have c1' : inF k 3 := Decidable.byContradiction (fun z => c1 (isb.mpr z))
    rw [if_pos ⟨c', c1'⟩] at hQ
    rw [h1.1.2.2.2.2.1]
    refine ⟨h5.1.1, ?_⟩
    have q := C_frames (xs := xs) (xl := xl) (d := d) (j := j.toNat) (k := k.toNat) (Q := fun r m8 => ∃ v9 : Int, r = .inl (some (zI v9)) ∧ Q (.inl (some (zI v9))) m8) h5 (by omega) ⟨_, rfl, hQ m h Fr.rfl⟩
    rwa [show ((j.toNat : Nat) : Int) = j by omega, show ((k.toNat : Nat) : Int) = k by omega] at q
  · rw [if_neg (fun z => isb.mp (Decidable.not_not.mp c1) z.2)] at hQ
    exact hQ _ h.x (fr_bx fr_nwX)
theorem C_bAddSlip {P x : Nat} {B : zB} (h : Bd P m x B) (hQ : ∀ m', Bd P m' x (aAddSlip B).2 → Fr (rg x (x + 392)) 1 6 m m' → Q (rsF 0 0 0 (aAddSlip B).1) m') : zC xs xl (d + 1) 114 [zR x] m Q := by
  obtain ⟨h1, h2, h3, h4, ⟨p, h5⟩, h6⟩ := id h
  have hs := h5.2.1
  have hs6 : yS (bY B) ≤ 6 := hs.2.2.2.2.1
  unfold aAddSlip at hQ
  refine bX10_addSlip_0 ⟨h1.1.1, ?_⟩
  rw [h1.1.2.2.2.2.1, hs.2.1]
  refine ⟨h5.1.1, fun c => ?_, fun c => ?_⟩
  · rw [if_neg (by omega)] at hQ
    rw [wr_s (by omega), show wr (((yS (bY B) + 1 : Nat) : Int) - 1) = (yS (bY B) : Int) by rw [wr_id (by omega) (by omega)]; omega]
    have f2 : Fr (rg (x + 10) (x + 201)) 0 0 m (sI m 581 (x + 10) ((yS (bY B) + 1 : Nat) : Int)) := Fr.rfl.sI (by unfold rg; omega)
    exact hQ _ (h.yd f2 (h5.cnt (by omega) rfl)) (fr_by f2 (by omega) (by omega))
  · rw [if_pos (by omega)] at hQ
    exact hQ _ h.x (fr_bx fr_nwX)
theorem C_bSlip {P x : Nat} {B : zB} {i k : Int} (h : Bd P m x B) (hf : ∀ i, i < yS (bY B) → flagOk (yX (bY B) i)) (hQ : ∀ m', Bd P m' x B → Fr (rg x (x + 392)) 1 6 m m' → Q (rsF 2 0 0 (aSlip B i k)) m') : zC xs xl (d + 2) 117 [zR x, zI i, zI k] m Q := by
  obtain ⟨h1, h2, h3, h4, ⟨p, h5⟩, h6⟩ := id h
  have hs := h5.2.1
  have hs6 : yS (bY B) ≤ 6 := hs.2.2.2.2.1
  unfold aSlip at hQ
  refine bX10_slip_0 ⟨h1.1.1, ?_⟩
  rw [h1.1.2.2.2.2.1, hs.2.1]
  refine ⟨h5.1.1, C_isBelow ⟨_, rfl, fun c => ?_, fun c => C_isBelow ⟨_, rfl, fun c1 => ⟨h1.1.1, ?_⟩, fun c1 => ?_⟩⟩⟩
  · rw [if_neg (fun z => isb.mp c z.1)] at hQ
    exact hQ _ h.x (fr_bx fr_nwX)
  · have c' : inF i (yS (bY B)) := Decidable.byContradiction (fun z => c (isb.mpr z))
    have c1' : inF k 15 := Decidable.byContradiction (fun z => c1 (isb.mpr z))
    rw [if_pos ⟨c', c1'⟩] at hQ
    obtain ⟨q1, q2, q3⟩ := h5.sl (i := i.toNat) (by omega)
    have hS := h5.2.2.2.2.1.1
    rw [h1.1.2.2.2.2.1, h5.1.2.2.2.2.1, q1, hS.1, hS.2]
    refine ⟨h5.1.1, by decide, by omega, q2.1.1, ?_⟩
    have q := C_slTell (xs := xs) (xl := xl) (d := d) (k := k.toNat) (Q := fun r m8 => ∃ v9 : Int, r = .inl (some (zI v9)) ∧ Q (.inl (some (zI v9))) m8) q2 (hf i.toNat (by omega)) (by omega) ⟨_, rfl, hQ m h Fr.rfl⟩
    rwa [show ((k.toNat : Nat) : Int) = k by omega] at q
  · rw [if_neg (fun z => isb.mp (Decidable.not_not.mp c1) z.2)] at hQ
    exact hQ _ h.x (fr_bx fr_nwX)
theorem C_bBend {P x : Nat} {B : zB} {i j q : Int} (h : Bd P m x B) (hQ : ∀ m', Bd P m' x B → Fr (rg x (x + 392)) 1 6 m m' → Q (rsF 2 0 0 (aBend B i j q)) m') : zC xs xl (d + 2) 118 [zR x, zI i, zI j, zI q] m Q := by
  obtain ⟨h1, h2, h3, h4, ⟨p, h5⟩, h6⟩ := id h
  have hs := h5.2.1
  have hs6 : yS (bY B) ≤ 6 := hs.2.2.2.2.1
  unfold aBend at hQ
  refine bX10_bend_0 ⟨h1.1.1, ?_⟩
  rw [h1.1.2.2.2.2.1, hs.2.1]
  refine ⟨h5.1.1, C_isBelow ⟨_, rfl, fun c => ?_, fun c => C_isBelow ⟨_, rfl, fun c1 => ⟨h1.1.1, ?_⟩, fun c1 => ?_⟩⟩⟩
  · rw [if_neg (fun z => isb.mp c z.1)] at hQ
    exact hQ _ h.x (fr_bx fr_nwX)
  · have c' : inF i (yS (bY B)) := Decidable.byContradiction (fun z => c (isb.mpr z))
    have c1' : inF j 3 := Decidable.byContradiction (fun z => c1 (isb.mpr z))
    rw [if_pos ⟨c', c1'⟩] at hQ
    obtain ⟨q1, q2, q3⟩ := h5.sl (i := i.toNat) (by omega)
    have hS := h5.2.2.2.2.1.1
    have hp := q2.2.2
    unfold Pc at hp
    obtain ⟨⟨g1, g2, g3, g4, g5, g6, g7⟩, i0, ⟨b0, b1, b2⟩, t0, t1, t2⟩ := hp
    rw [h1.1.2.2.2.2.1, h5.1.2.2.2.2.1, q1, hS.1, hS.2, q2.1.2.1, g2, g3, g1, g4, g5, g6, g7]
    have ej : j.toNat = 0 ∨ j.toNat = 1 ∨ j.toNat = 2 := by omega
    refine ⟨h5.1.1, by decide, by omega, q2.1.1, fun c2 => ⟨rfl, rfl, by omega, ?_⟩, fun c2 => ⟨rfl, rfl, by omega, ?_⟩⟩
    · have e : mA m (x + 10 + 167 + 4 * i.toNat + 1 + 1) j.toNat = yX (bY B) i.toNat (20 + j.toNat) := by
        rcases ej with e | e | e <;> rw [e]
        · exact b0
        · exact b1
        · exact b2
      rw [if_pos c2] at hQ
      rw [e]
      exact hQ m h Fr.rfl
    · have e : mA m (x + 10 + 167 + 4 * i.toNat + 1 + 2) j.toNat = yX (bY B) i.toNat (23 + j.toNat) := by
        rcases ej with e | e | e <;> rw [e]
        · exact t0
        · exact t1
        · exact t2
      rw [if_neg c2] at hQ
      rw [e]
      exact hQ m h Fr.rfl
  · rw [if_neg (fun z => isb.mp (Decidable.not_not.mp c1) z.2)] at hQ
    exact hQ _ h.x (fr_bx fr_nwX)
theorem C_bStuck {P x : Nat} {B : zB} (h : Bd P m x B) (hQ : Q (.inl (some (zI (stuckF (bY B))))) m) : zC xs xl (d + 4) 119 [zR x] m Q := by
  obtain ⟨h1, h2, h3, h4, ⟨p, h5⟩, h6⟩ := id h
  refine bX10_stuck_0 ⟨h1.1.1, ?_⟩
  rw [h1.1.2.2.2.2.1]
  exact ⟨h5.1.1, C_stuck h5 ⟨_, rfl, hQ⟩⟩
theorem C_bCount {P x : Nat} {B : zB} {k : Int} (h : Bd P m x B) (hQ : ∀ m', Bd P m' x B → Fr (rg x (x + 392)) 1 6 m m' → Q (rsF 2 0 0 (aCount B k)) m') : zC xs xl (d + 4) 121 [zR x, zI k] m Q := by
  obtain ⟨h1, h2, h3, h4, ⟨p, h5⟩, h6⟩ := id h
  unfold aCount at hQ
  refine bX10_count_0 (C_isBelow ⟨_, rfl, fun c => ⟨h1.1.1, ?_⟩, fun c => ?_⟩)
  · have c' : inF k 9 := Decidable.byContradiction (fun z => c (isb.mpr z))
    rw [if_pos c'] at hQ
    rw [h1.1.2.2.2.2.1]
    refine ⟨h5.1.1, ?_⟩
    have q := C_count (xs := xs) (xl := xl) (d := d) (k := k.toNat) (Q := fun r m8 => ∃ v9 : Int, r = .inl (some (zI v9)) ∧ Q (.inl (some (zI v9))) m8) h5 ⟨_, rfl, hQ m h Fr.rfl⟩
    rwa [show ((k.toNat : Nat) : Int) = k by omega] at q
  · rw [if_neg (isb.mp (Decidable.not_not.mp c))] at hQ
    exact hQ _ h.x (fr_bx fr_nwX)
theorem C_bHull {P x : Nat} {B : zB} {i k : Int} (h : Bd P m x B) (hQ : ∀ m', Bd P m' x B → Fr (rg x (x + 392)) 1 6 m m' → Q (rsF 2 0 0 (aHull B i k)) m') : zC xs xl (d + 2) 122 [zR x, zI i, zI k] m Q := by
  obtain ⟨h1, h2, h3, h4, ⟨p, h5⟩, h6⟩ := id h
  unfold aHull at hQ
  refine bX10_hull_0 ⟨h1.1.1, ?_⟩
  rw [h1.1.2.2.2.2.1]
  refine ⟨h5.1.1, C_kept h5 ⟨_, rfl, C_isBelow ⟨_, rfl, fun c => ?_, fun c => C_isBelow ⟨_, rfl, fun c1 => ⟨h1.1.1, ?_⟩, fun c1 => ?_⟩⟩⟩⟩
  · rw [if_neg (fun z => isb.mp c z.1)] at hQ
    exact hQ _ h.x (fr_bx fr_nwX)
  · have c' : inF i (keptF (bY B)) := Decidable.byContradiction (fun z => c (isb.mpr z))
    have c1' : inF k 6 := Decidable.byContradiction (fun z => c1 (isb.mpr z))
    rw [if_pos ⟨c', c1'⟩] at hQ
    have hk40 : keptF (bY B) ≤ 40 := by unfold keptF; split <;> omega
    have hH := h5.2.2.2.2.2
    obtain ⟨r1, r2, r3, r4⟩ := hH.2 i.toNat (by omega)
    rw [h1.1.2.2.2.2.1, h5.1.2.2.2.2.2.1, r1, hH.1.1, hH.1.2, r2, r3, r4 (by omega) k.toNat (by omega)]
    exact ⟨h5.1.1, by decide, by omega, rfl, by omega, hQ m h Fr.rfl⟩
  · rw [if_neg (fun z => isb.mp (Decidable.not_not.mp c1) z.2)] at hQ
    exact hQ _ h.x (fr_bx fr_nwX)
end ZBE
