/-! how values of a call's answer are taken -/
section ZWQ
variable {xs : Nat → Int} {xl d : Nat} {cc : ByteArray} {oc : Nat} {rt : Option FieldType} {ini : Bool} {hh : List (Nat × Nat × Nat × Nat × Nat)} {pc : Nat} {ls st : List zV} {m : zM} {Q : zRes → zM → Prop}
theorem zrcv_R {K c a : Nat} (ho : zMo K = c) (hc : c < 13) (h : mC m a = c + 1) : zrcv m K (zR a) := by subst ho; exact ⟨h, hc⟩
theorem zrcv_E {K k : Nat} (ho : zMo K = 14) (h : 20 ≤ k ∧ k < 50) : zrcv m K (zE k) := ⟨ho, h.1, h.2⟩
theorem zq_dupE {x : Nat} (hd : decode cc pc = .ok (.dup, 1)) : zW xs xl d cc oc rt ini hh pc ls (zE x :: st) m Q ↔ zW xs xl d cc oc rt ini hh (pc + 1) ls (zE x :: zE x :: st) m Q := (zq hd rfl).trans (zq_g.trans (and_iff_right trivial))
theorem zq_popE {x : Nat} (hd : decode cc pc = .ok (.pop, 1)) : zW xs xl d cc oc rt ini hh pc ls (zE x :: st) m Q ↔ zW xs xl d cc oc rt ini hh (pc + 1) ls st m Q := (zq hd rfl).trans (zq_g.trans (and_iff_right trivial))
theorem zq_getI2 {k ci j f a : Nat} {v : Int} (hd : decode cc pc = .ok (.getfield k, 3)) (hf : zFR oc k = some (ci, j)) (hc : ci < 13) (hq : zisq (zty ci j) = false) (hff : 64 * ci + j = f) (hv : mI m f a = v) : zW xs xl d cc oc rt ini hh pc ls (zR a :: st) m Q ↔ mC m a = ci + 1 ∧ zW xs xl d cc oc rt ini hh (pc + 3) ls (zI v :: st) m Q := by subst hv; exact zq_getI hd hf hc hq hff
theorem zq_getR2 {k ci j f a v : Nat} (hd : decode cc pc = .ok (.getfield k, 3)) (hf : zFR oc k = some (ci, j)) (hc : ci < 13) (hq : zisq (zty ci j) = true) (hff : 64 * ci + j = f) (hv : mR m f a = v) : zW xs xl d cc oc rt ini hh pc ls (zR a :: st) m Q ↔ mC m a = ci + 1 ∧ zW xs xl d cc oc rt ini hh (pc + 3) ls (zR v :: st) m Q := by subst hv; exact zq_getR hd hf hc hq hff
theorem zq_iald2 {a : Nat} {j v : Int} (hd : decode cc pc = .ok (.iaload, 1)) (hv : mA m a j.toNat = v) : zW xs xl d cc oc rt ini hh pc ls (zI j :: zR a :: st) m Q ↔ (mC m a = 20 ∧ 0 ≤ j ∧ j < mN m a) ∧ zW xs xl d cc oc rt ini hh (pc + 1) ls (zI v :: st) m Q := by subst hv; exact zq_iald hd
theorem zq_bald2 {a : Nat} {j v : Int} (hd : decode cc pc = .ok (.baload, 1)) (hv : mA m a j.toNat = v) : zW xs xl d cc oc rt ini hh pc ls (zI j :: zR a :: st) m Q ↔ ((mC m a = 21 ∨ mC m a = 22) ∧ 0 ≤ j ∧ j < mN m a) ∧ zW xs xl d cc oc rt ini hh (pc + 1) ls (zI v :: st) m Q := by subst hv; exact zq_bald hd
theorem zq_lald2 {a : Nat} {j v : Int} (hd : decode cc pc = .ok (.laload, 1)) (hv : mA m a j.toNat = v) : zW xs xl d cc oc rt ini hh pc ls (zI j :: zR a :: st) m Q ↔ (mC m a = 23 ∧ 0 ≤ j ∧ j < mN m a) ∧ zW xs xl d cc oc rt ini hh (pc + 1) ls (zL v :: st) m Q := by subst hv; exact zq_lald hd
theorem zq_aald2 {a v : Nat} {j : Int} (hd : decode cc pc = .ok (.aaload, 1)) (hv : mO m a j.toNat = v) : zW xs xl d cc oc rt ini hh pc ls (zI j :: zR a :: st) m Q ↔ (29 ≤ mC m a ∧ mC m a < 43 ∧ 0 ≤ j ∧ j < mN m a) ∧ zW xs xl d cc oc rt ini hh (pc + 1) ls (zR v :: st) m Q := by subst hv; exact zq_aald hd
theorem zq_newarray2 {ty : ClassFile.ArrayType} {n : Int} {kd i : Nat} (hd : decode cc pc = .ok (.newarray ty, 2)) (hk : zak ty = kd) (h0 : kd ≠ 0) (hi : n.toNat = i) (g : 0 ≤ n ∧ n ≤ 60000000) (h : ∀ m' : zM, m' = nwA m kd i → zW xs xl d cc oc rt ini hh (pc + 2) ls (zR (mz m) :: st) m' Q) : zW xs xl d cc oc rt ini hh pc ls (zI n :: st) m Q := by subst hi; exact (zq_newarray hd hk h0).mpr ⟨g, h _ rfl⟩
theorem zq_anew2 {k ci nf kd i : Nat} {n : Int} (hd : decode cc pc = .ok (.anewarray k, 3)) (hf : zNR oc k = some (ci, nf)) (hok : zaok ci = true) (hk : 30 + ci = kd) (hi : n.toNat = i) (g : 0 ≤ n ∧ n ≤ 60000000) (h : ∀ m' : zM, m' = nwA m kd i → zW xs xl d cc oc rt ini hh (pc + 3) ls (zR (mz m) :: st) m' Q) : zW xs xl d cc oc rt ini hh pc ls (zI n :: st) m Q := by subst hi; exact (zq_anew hd hf hok hk).mpr ⟨g, h _ rfl⟩
theorem zq_mna2 {n j : Int} {i k2 : Nat} (hd : decode cc pc = .ok (.multianewarray zmk 2, 4)) (ho : oc = 9) (hi : n.toNat = i) (hj : j.toNat = k2) (g : 0 ≤ n ∧ n ≤ 60000 ∧ 0 ≤ j ∧ j ≤ 60000) (h : ∀ m' : zM, m' = nwB m i k2 → zW xs xl d cc oc rt ini hh (pc + 4) ls (zR (mz m) :: st) m' Q) : zW xs xl d cc oc rt ini hh pc ls (zI j :: zI n :: st) m Q := by subst hi; subst hj; exact (zq_mna hd ho).mpr ⟨g, h _ rfl⟩
theorem zq_new2 {k ci nf : Nat} (hd : decode cc pc = .ok (.new k, 3)) (hf : zNR oc k = some (ci, nf)) (hn : nf = zN ci) (h : ∀ m' : zM, m' = nwO m ci nf → zW xs xl d cc oc rt ini hh (pc + 3) ls (zR (mz m) :: st) m' Q) : zW xs xl d cc oc rt ini hh pc ls st m Q := (zq_new hd hf hn).mpr (h _ rfl)
theorem zq_staticV {k K n : Nat} {al rest : List zV} (hd : decode cc pc = .ok (.invokestatic k, 3)) (hk : zMR oc k = some (0, K)) (hn : zMn K = n) (ha : (st.take n).reverse = al) (hr : st.drop n = rest) (hl : n ≤ st.length) (h4 : rest.length ≤ 4) (h : zC xs xl d K (al) m (fun r m1 => r = .inl none ∧ zW xs xl d cc oc rt ini hh (pc + 3) ls (rest) m1 Q)) : zW xs xl d cc oc rt ini hh pc ls st m Q := by
  refine (zq_static hd hk hn ha hr hl).mpr ⟨h4, h.mono ?_⟩
  rintro r m1 ⟨rfl, g⟩
  exact ⟨none, rfl, g⟩
theorem zq_virtualV {k K n : Nat} {v0 : zV} {al rest : List zV} (hd : decode cc pc = .ok (.invokevirtual k, 3)) (hk : zMR oc k = some (1, K)) (hn : zMn K = n) (ha : (st.take n).reverse = al) (hr : st.drop n = v0 :: rest) (hh0 : hh = []) (hrc : zrcv m K v0) (h4 : rest.length ≤ 4) (h : zC xs xl d K (v0 :: al) m (fun r m1 => r = .inl none ∧ zW xs xl d cc oc rt ini hh (pc + 3) ls (rest) m1 Q)) : zW xs xl d cc oc rt ini hh pc ls st m Q := by
  refine (zq_virtual hd hk hn ha hr hh0).mpr ⟨⟨hrc, h4⟩, h.mono ?_⟩
  rintro r m1 ⟨rfl, g⟩
  exact ⟨none, rfl, g⟩
theorem zq_virtualXV {k K n : Nat} {v0 : zV} {al rest : List zV} (hd : decode cc pc = .ok (.invokevirtual k, 3)) (hk : zMR oc k = some (1, K)) (hn : zMn K = n) (ha : (st.take n).reverse = al) (hr : st.drop n = v0 :: rest) (hrc : zrcv m K v0) (h4 : rest.length ≤ 4) (h : zC xs xl d K (v0 :: al) m (fun r m1 => (r = .inl none ∧ zW xs xl d cc oc rt ini hh (pc + 3) ls (rest) m1 Q) ∨ ∃ E t, r = .inr E ∧ zhd hh pc E = some t ∧ zW xs xl d cc oc rt ini hh t ls [zE 999] m1 Q)) : zW xs xl d cc oc rt ini hh pc ls st m Q := by
  refine (zq_virtualX hd hk hn ha hr).mpr ⟨⟨hrc, h4⟩, h.mono ?_⟩
  rintro r m1 (⟨rfl, g⟩ | g)
  · exact Or.inl ⟨none, rfl, g⟩
  · exact Or.inr g
theorem zq_staticI {k K n : Nat} {al rest : List zV} (hd : decode cc pc = .ok (.invokestatic k, 3)) (hk : zMR oc k = some (0, K)) (hn : zMn K = n) (ha : (st.take n).reverse = al) (hr : st.drop n = rest) (hl : n ≤ st.length) (h4 : rest.length ≤ 4) (h : zC xs xl d K (al) m (fun r m1 => ∃ v : Int, r = .inl (some (zI v)) ∧ zW xs xl d cc oc rt ini hh (pc + 3) ls (zI v :: rest) m1 Q)) : zW xs xl d cc oc rt ini hh pc ls st m Q := by
  refine (zq_static hd hk hn ha hr hl).mpr ⟨h4, h.mono ?_⟩
  rintro r m1 ⟨v, rfl, g⟩
  exact ⟨_, rfl, g⟩
theorem zq_virtualI {k K n : Nat} {v0 : zV} {al rest : List zV} (hd : decode cc pc = .ok (.invokevirtual k, 3)) (hk : zMR oc k = some (1, K)) (hn : zMn K = n) (ha : (st.take n).reverse = al) (hr : st.drop n = v0 :: rest) (hh0 : hh = []) (hrc : zrcv m K v0) (h4 : rest.length ≤ 4) (h : zC xs xl d K (v0 :: al) m (fun r m1 => ∃ v : Int, r = .inl (some (zI v)) ∧ zW xs xl d cc oc rt ini hh (pc + 3) ls (zI v :: rest) m1 Q)) : zW xs xl d cc oc rt ini hh pc ls st m Q := by
  refine (zq_virtual hd hk hn ha hr hh0).mpr ⟨⟨hrc, h4⟩, h.mono ?_⟩
  rintro r m1 ⟨v, rfl, g⟩
  exact ⟨_, rfl, g⟩
theorem zq_virtualXI {k K n : Nat} {v0 : zV} {al rest : List zV} (hd : decode cc pc = .ok (.invokevirtual k, 3)) (hk : zMR oc k = some (1, K)) (hn : zMn K = n) (ha : (st.take n).reverse = al) (hr : st.drop n = v0 :: rest) (hrc : zrcv m K v0) (h4 : rest.length ≤ 4) (h : zC xs xl d K (v0 :: al) m (fun r m1 => (∃ v : Int, r = .inl (some (zI v)) ∧ zW xs xl d cc oc rt ini hh (pc + 3) ls (zI v :: rest) m1 Q) ∨ ∃ E t, r = .inr E ∧ zhd hh pc E = some t ∧ zW xs xl d cc oc rt ini hh t ls [zE 999] m1 Q)) : zW xs xl d cc oc rt ini hh pc ls st m Q := by
  refine (zq_virtualX hd hk hn ha hr).mpr ⟨⟨hrc, h4⟩, h.mono ?_⟩
  rintro r m1 (⟨v, rfl, g⟩ | g)
  · exact Or.inl ⟨_, rfl, g⟩
  · exact Or.inr g
theorem zq_staticL {k K n : Nat} {al rest : List zV} (hd : decode cc pc = .ok (.invokestatic k, 3)) (hk : zMR oc k = some (0, K)) (hn : zMn K = n) (ha : (st.take n).reverse = al) (hr : st.drop n = rest) (hl : n ≤ st.length) (h4 : rest.length ≤ 4) (h : zC xs xl d K (al) m (fun r m1 => ∃ v : Int, r = .inl (some (zL v)) ∧ zW xs xl d cc oc rt ini hh (pc + 3) ls (zL v :: rest) m1 Q)) : zW xs xl d cc oc rt ini hh pc ls st m Q := by
  refine (zq_static hd hk hn ha hr hl).mpr ⟨h4, h.mono ?_⟩
  rintro r m1 ⟨v, rfl, g⟩
  exact ⟨_, rfl, g⟩
theorem zq_virtualL {k K n : Nat} {v0 : zV} {al rest : List zV} (hd : decode cc pc = .ok (.invokevirtual k, 3)) (hk : zMR oc k = some (1, K)) (hn : zMn K = n) (ha : (st.take n).reverse = al) (hr : st.drop n = v0 :: rest) (hh0 : hh = []) (hrc : zrcv m K v0) (h4 : rest.length ≤ 4) (h : zC xs xl d K (v0 :: al) m (fun r m1 => ∃ v : Int, r = .inl (some (zL v)) ∧ zW xs xl d cc oc rt ini hh (pc + 3) ls (zL v :: rest) m1 Q)) : zW xs xl d cc oc rt ini hh pc ls st m Q := by
  refine (zq_virtual hd hk hn ha hr hh0).mpr ⟨⟨hrc, h4⟩, h.mono ?_⟩
  rintro r m1 ⟨v, rfl, g⟩
  exact ⟨_, rfl, g⟩
theorem zq_virtualXL {k K n : Nat} {v0 : zV} {al rest : List zV} (hd : decode cc pc = .ok (.invokevirtual k, 3)) (hk : zMR oc k = some (1, K)) (hn : zMn K = n) (ha : (st.take n).reverse = al) (hr : st.drop n = v0 :: rest) (hrc : zrcv m K v0) (h4 : rest.length ≤ 4) (h : zC xs xl d K (v0 :: al) m (fun r m1 => (∃ v : Int, r = .inl (some (zL v)) ∧ zW xs xl d cc oc rt ini hh (pc + 3) ls (zL v :: rest) m1 Q) ∨ ∃ E t, r = .inr E ∧ zhd hh pc E = some t ∧ zW xs xl d cc oc rt ini hh t ls [zE 999] m1 Q)) : zW xs xl d cc oc rt ini hh pc ls st m Q := by
  refine (zq_virtualX hd hk hn ha hr).mpr ⟨⟨hrc, h4⟩, h.mono ?_⟩
  rintro r m1 (⟨v, rfl, g⟩ | g)
  · exact Or.inl ⟨_, rfl, g⟩
  · exact Or.inr g
theorem zq_staticR {k K n : Nat} {al rest : List zV} (hd : decode cc pc = .ok (.invokestatic k, 3)) (hk : zMR oc k = some (0, K)) (hn : zMn K = n) (ha : (st.take n).reverse = al) (hr : st.drop n = rest) (hl : n ≤ st.length) (h4 : rest.length ≤ 4) (h : zC xs xl d K (al) m (fun r m1 => ∃ v : Nat, r = .inl (some (zR v)) ∧ zW xs xl d cc oc rt ini hh (pc + 3) ls (zR v :: rest) m1 Q)) : zW xs xl d cc oc rt ini hh pc ls st m Q := by
  refine (zq_static hd hk hn ha hr hl).mpr ⟨h4, h.mono ?_⟩
  rintro r m1 ⟨v, rfl, g⟩
  exact ⟨_, rfl, g⟩
theorem zq_virtualR {k K n : Nat} {v0 : zV} {al rest : List zV} (hd : decode cc pc = .ok (.invokevirtual k, 3)) (hk : zMR oc k = some (1, K)) (hn : zMn K = n) (ha : (st.take n).reverse = al) (hr : st.drop n = v0 :: rest) (hh0 : hh = []) (hrc : zrcv m K v0) (h4 : rest.length ≤ 4) (h : zC xs xl d K (v0 :: al) m (fun r m1 => ∃ v : Nat, r = .inl (some (zR v)) ∧ zW xs xl d cc oc rt ini hh (pc + 3) ls (zR v :: rest) m1 Q)) : zW xs xl d cc oc rt ini hh pc ls st m Q := by
  refine (zq_virtual hd hk hn ha hr hh0).mpr ⟨⟨hrc, h4⟩, h.mono ?_⟩
  rintro r m1 ⟨v, rfl, g⟩
  exact ⟨_, rfl, g⟩
theorem zq_virtualXR {k K n : Nat} {v0 : zV} {al rest : List zV} (hd : decode cc pc = .ok (.invokevirtual k, 3)) (hk : zMR oc k = some (1, K)) (hn : zMn K = n) (ha : (st.take n).reverse = al) (hr : st.drop n = v0 :: rest) (hrc : zrcv m K v0) (h4 : rest.length ≤ 4) (h : zC xs xl d K (v0 :: al) m (fun r m1 => (∃ v : Nat, r = .inl (some (zR v)) ∧ zW xs xl d cc oc rt ini hh (pc + 3) ls (zR v :: rest) m1 Q) ∨ ∃ E t, r = .inr E ∧ zhd hh pc E = some t ∧ zW xs xl d cc oc rt ini hh t ls [zE 999] m1 Q)) : zW xs xl d cc oc rt ini hh pc ls st m Q := by
  refine (zq_virtualX hd hk hn ha hr).mpr ⟨⟨hrc, h4⟩, h.mono ?_⟩
  rintro r m1 (⟨v, rfl, g⟩ | g)
  · exact Or.inl ⟨_, rfl, g⟩
  · exact Or.inr g
theorem zq_staticE {k K n : Nat} {al rest : List zV} (hd : decode cc pc = .ok (.invokestatic k, 3)) (hk : zMR oc k = some (0, K)) (hn : zMn K = n) (ha : (st.take n).reverse = al) (hr : st.drop n = rest) (hl : n ≤ st.length) (h4 : rest.length ≤ 4) (h : zC xs xl d K (al) m (fun r m1 => ∃ v : Nat, r = .inl (some (zE v)) ∧ zW xs xl d cc oc rt ini hh (pc + 3) ls (zE v :: rest) m1 Q)) : zW xs xl d cc oc rt ini hh pc ls st m Q := by
  refine (zq_static hd hk hn ha hr hl).mpr ⟨h4, h.mono ?_⟩
  rintro r m1 ⟨v, rfl, g⟩
  exact ⟨_, rfl, g⟩
theorem zq_virtualE {k K n : Nat} {v0 : zV} {al rest : List zV} (hd : decode cc pc = .ok (.invokevirtual k, 3)) (hk : zMR oc k = some (1, K)) (hn : zMn K = n) (ha : (st.take n).reverse = al) (hr : st.drop n = v0 :: rest) (hh0 : hh = []) (hrc : zrcv m K v0) (h4 : rest.length ≤ 4) (h : zC xs xl d K (v0 :: al) m (fun r m1 => ∃ v : Nat, r = .inl (some (zE v)) ∧ zW xs xl d cc oc rt ini hh (pc + 3) ls (zE v :: rest) m1 Q)) : zW xs xl d cc oc rt ini hh pc ls st m Q := by
  refine (zq_virtual hd hk hn ha hr hh0).mpr ⟨⟨hrc, h4⟩, h.mono ?_⟩
  rintro r m1 ⟨v, rfl, g⟩
  exact ⟨_, rfl, g⟩
theorem zq_virtualXE {k K n : Nat} {v0 : zV} {al rest : List zV} (hd : decode cc pc = .ok (.invokevirtual k, 3)) (hk : zMR oc k = some (1, K)) (hn : zMn K = n) (ha : (st.take n).reverse = al) (hr : st.drop n = v0 :: rest) (hrc : zrcv m K v0) (h4 : rest.length ≤ 4) (h : zC xs xl d K (v0 :: al) m (fun r m1 => (∃ v : Nat, r = .inl (some (zE v)) ∧ zW xs xl d cc oc rt ini hh (pc + 3) ls (zE v :: rest) m1 Q) ∨ ∃ E t, r = .inr E ∧ zhd hh pc E = some t ∧ zW xs xl d cc oc rt ini hh t ls [zE 999] m1 Q)) : zW xs xl d cc oc rt ini hh pc ls st m Q := by
  refine (zq_virtualX hd hk hn ha hr).mpr ⟨⟨hrc, h4⟩, h.mono ?_⟩
  rintro r m1 (⟨v, rfl, g⟩ | g)
  · exact Or.inl ⟨_, rfl, g⟩
  · exact Or.inr g
theorem zq_staticD {k K n : Nat} {al rest : List zV} (hd : decode cc pc = .ok (.invokestatic k, 3)) (hk : zMR oc k = some (0, K)) (hn : zMn K = n) (ha : (st.take n).reverse = al) (hr : st.drop n = rest) (hl : n ≤ st.length) (h4 : rest.length ≤ 4) (h : zC xs xl d K (al) m (fun r m1 => ∃ v : UInt64, r = .inl (some (zD v)) ∧ zW xs xl d cc oc rt ini hh (pc + 3) ls (zD v :: rest) m1 Q)) : zW xs xl d cc oc rt ini hh pc ls st m Q := by
  refine (zq_static hd hk hn ha hr hl).mpr ⟨h4, h.mono ?_⟩
  rintro r m1 ⟨v, rfl, g⟩
  exact ⟨_, rfl, g⟩
theorem zq_virtualD {k K n : Nat} {v0 : zV} {al rest : List zV} (hd : decode cc pc = .ok (.invokevirtual k, 3)) (hk : zMR oc k = some (1, K)) (hn : zMn K = n) (ha : (st.take n).reverse = al) (hr : st.drop n = v0 :: rest) (hh0 : hh = []) (hrc : zrcv m K v0) (h4 : rest.length ≤ 4) (h : zC xs xl d K (v0 :: al) m (fun r m1 => ∃ v : UInt64, r = .inl (some (zD v)) ∧ zW xs xl d cc oc rt ini hh (pc + 3) ls (zD v :: rest) m1 Q)) : zW xs xl d cc oc rt ini hh pc ls st m Q := by
  refine (zq_virtual hd hk hn ha hr hh0).mpr ⟨⟨hrc, h4⟩, h.mono ?_⟩
  rintro r m1 ⟨v, rfl, g⟩
  exact ⟨_, rfl, g⟩
theorem zq_virtualXD {k K n : Nat} {v0 : zV} {al rest : List zV} (hd : decode cc pc = .ok (.invokevirtual k, 3)) (hk : zMR oc k = some (1, K)) (hn : zMn K = n) (ha : (st.take n).reverse = al) (hr : st.drop n = v0 :: rest) (hrc : zrcv m K v0) (h4 : rest.length ≤ 4) (h : zC xs xl d K (v0 :: al) m (fun r m1 => (∃ v : UInt64, r = .inl (some (zD v)) ∧ zW xs xl d cc oc rt ini hh (pc + 3) ls (zD v :: rest) m1 Q) ∨ ∃ E t, r = .inr E ∧ zhd hh pc E = some t ∧ zW xs xl d cc oc rt ini hh t ls [zE 999] m1 Q)) : zW xs xl d cc oc rt ini hh pc ls st m Q := by
  refine (zq_virtualX hd hk hn ha hr).mpr ⟨⟨hrc, h4⟩, h.mono ?_⟩
  rintro r m1 (⟨v, rfl, g⟩ | g)
  · exact Or.inl ⟨_, rfl, g⟩
  · exact Or.inr g
theorem zq_special2 {k K n a : Nat} {al rest : List zV} (hd : decode cc pc = .ok (.invokespecial k, 3)) (hk : zMR oc k = some (2, K)) (hn : zMn K = n) (ha : (st.take n).reverse = al) (hr : st.drop n = zR a :: rest) (h0 : a ≠ 0) (h4 : rest.length ≤ 4) (h : zC xs xl d K (zR a :: al) m (fun r m1 => r = .inl none ∧ zW xs xl d cc oc rt ini hh (pc + 3) ls rest m1 Q)) : zW xs xl d cc oc rt ini hh pc ls st m Q := (zq_special hd hk hn ha hr).mpr ⟨⟨h0, h4⟩, h⟩
end ZWQ
/-! reading what was written -/
theorem zm_Is {m : zM} {f a : Nat} {v : Int} : mI (sI m f a v) f a = v := if_pos ⟨rfl, rfl⟩
theorem zm_In {m : zM} {f a g b : Nat} {v : Int} (h : g ≠ f) : mI (sI m f a v) g b = mI m g b := if_neg (fun q => h q.1)
theorem zm_Ia {m : zM} {f a g b : Nat} {v : Int} (h : b ≠ a) : mI (sI m f a v) g b = mI m g b := if_neg (fun q => h q.2)
theorem zm_Rs {m : zM} {f a v : Nat} : mR (sR m f a v) f a = v := if_pos ⟨rfl, rfl⟩
theorem zm_Rn {m : zM} {f a g b v : Nat} (h : g ≠ f) : mR (sR m f a v) g b = mR m g b := if_neg (fun q => h q.1)
theorem zm_Ra {m : zM} {f a g b v : Nat} (h : b ≠ a) : mR (sR m f a v) g b = mR m g b := if_neg (fun q => h q.2)
theorem zm_As {m : zM} {a j : Nat} {v : Int} : mA (sA m a j v) a j = v := if_pos ⟨rfl, rfl⟩
theorem zm_An {m : zM} {a b i j : Nat} {v : Int} (h : i ≠ j) : mA (sA m a j v) b i = mA m b i := if_neg (fun q => h q.2)
theorem zm_Aa {m : zM} {a b i j : Nat} {v : Int} (h : b ≠ a) : mA (sA m a j v) b i = mA m b i := if_neg (fun q => h q.1)
theorem zm_Os {m : zM} {a j v : Nat} : mO (sO m a j v) a j = v := if_pos ⟨rfl, rfl⟩
theorem zm_On {m : zM} {a b i j v : Nat} (h : i ≠ j) : mO (sO m a j v) b i = mO m b i := if_neg (fun q => h q.2)
theorem zm_Oa {m : zM} {a b i j v : Nat} (h : b ≠ a) : mO (sO m a j v) b i = mO m b i := if_neg (fun q => h q.1)
theorem zm_In0 {m : zM} {c n f : Nat} : mI (nwO m c n) f (mz m) = 0 := if_pos rfl
theorem zm_Rn0 {m : zM} {c n f : Nat} : mR (nwO m c n) f (mz m) = 0 := if_pos rfl
theorem zn_0 : zMn 0 = 4 := by decide +kernel
theorem zo_0 : zMo 0 = 0 := by decide +kernel
theorem zn_1 : zMn 1 = 1 := by decide +kernel
theorem zo_1 : zMo 1 = 1 := by decide +kernel
theorem zn_2 : zMn 2 = 2 := by decide +kernel
theorem zo_2 : zMo 2 = 1 := by decide +kernel
theorem zn_3 : zMn 3 = 0 := by decide +kernel
theorem zo_3 : zMo 3 = 1 := by decide +kernel
theorem zn_4 : zMn 4 = 0 := by decide +kernel
theorem zo_4 : zMo 4 = 1 := by decide +kernel
theorem zn_5 : zMn 5 = 1 := by decide +kernel
theorem zo_5 : zMo 5 = 1 := by decide +kernel
theorem zn_6 : zMn 6 = 1 := by decide +kernel
theorem zo_6 : zMo 6 = 1 := by decide +kernel
theorem zn_7 : zMn 7 = 1 := by decide +kernel
theorem zo_7 : zMo 7 = 1 := by decide +kernel
theorem zn_8 : zMn 8 = 1 := by decide +kernel
theorem zo_8 : zMo 8 = 1 := by decide +kernel
theorem zn_9 : zMn 9 = 1 := by decide +kernel
theorem zo_9 : zMo 9 = 1 := by decide +kernel
theorem zn_10 : zMn 10 = 2 := by decide +kernel
theorem zo_10 : zMo 10 = 1 := by decide +kernel
theorem zn_11 : zMn 11 = 1 := by decide +kernel
theorem zo_11 : zMo 11 = 1 := by decide +kernel
theorem zn_12 : zMn 12 = 1 := by decide +kernel
theorem zo_12 : zMo 12 = 1 := by decide +kernel
theorem zn_13 : zMn 13 = 2 := by decide +kernel
theorem zo_13 : zMo 13 = 1 := by decide +kernel
theorem zn_14 : zMn 14 = 1 := by decide +kernel
theorem zo_14 : zMo 14 = 1 := by decide +kernel
theorem zn_15 : zMn 15 = 0 := by decide +kernel
theorem zo_15 : zMo 15 = 1 := by decide +kernel
theorem zn_16 : zMn 16 = 0 := by decide +kernel
theorem zo_16 : zMo 16 = 1 := by decide +kernel
theorem zn_17 : zMn 17 = 0 := by decide +kernel
theorem zo_17 : zMo 17 = 2 := by decide +kernel
theorem zn_18 : zMn 18 = 2 := by decide +kernel
theorem zo_18 : zMo 18 = 2 := by decide +kernel
theorem zn_19 : zMn 19 = 0 := by decide +kernel
theorem zo_19 : zMo 19 = 2 := by decide +kernel
theorem zn_20 : zMn 20 = 0 := by decide +kernel
theorem zo_20 : zMo 20 = 2 := by decide +kernel
theorem zn_21 : zMn 21 = 0 := by decide +kernel
theorem zo_21 : zMo 21 = 2 := by decide +kernel
theorem zn_22 : zMn 22 = 0 := by decide +kernel
theorem zo_22 : zMo 22 = 2 := by decide +kernel
theorem zn_23 : zMn 23 = 0 := by decide +kernel
theorem zo_23 : zMo 23 = 2 := by decide +kernel
theorem zn_24 : zMn 24 = 1 := by decide +kernel
theorem zo_24 : zMo 24 = 2 := by decide +kernel
theorem zn_25 : zMn 25 = 1 := by decide +kernel
theorem zo_25 : zMo 25 = 2 := by decide +kernel
theorem zn_26 : zMn 26 = 1 := by decide +kernel
theorem zo_26 : zMo 26 = 2 := by decide +kernel
theorem zn_27 : zMn 27 = 0 := by decide +kernel
theorem zo_27 : zMo 27 = 2 := by decide +kernel
theorem zn_28 : zMn 28 = 0 := by decide +kernel
theorem zo_28 : zMo 28 = 2 := by decide +kernel
theorem zn_29 : zMn 29 = 0 := by decide +kernel
theorem zo_29 : zMo 29 = 2 := by decide +kernel
theorem zn_30 : zMn 30 = 1 := by decide +kernel
theorem zo_30 : zMo 30 = 2 := by decide +kernel
theorem zn_31 : zMn 31 = 0 := by decide +kernel
theorem zo_31 : zMo 31 = 3 := by decide +kernel
theorem zn_32 : zMn 32 = 1 := by decide +kernel
theorem zo_32 : zMo 32 = 3 := by decide +kernel
theorem zn_33 : zMn 33 = 1 := by decide +kernel
theorem zo_33 : zMo 33 = 3 := by decide +kernel
theorem zn_34 : zMn 34 = 1 := by decide +kernel
theorem zo_34 : zMo 34 = 3 := by decide +kernel
theorem zn_35 : zMn 35 = 0 := by decide +kernel
theorem zo_35 : zMo 35 = 4 := by decide +kernel
theorem zn_36 : zMn 36 = 3 := by decide +kernel
theorem zo_36 : zMo 36 = 4 := by decide +kernel
theorem zn_37 : zMn 37 = 1 := by decide +kernel
theorem zo_37 : zMo 37 = 4 := by decide +kernel
theorem zn_38 : zMn 38 = 1 := by decide +kernel
theorem zo_38 : zMo 38 = 4 := by decide +kernel
theorem zn_39 : zMn 39 = 1 := by decide +kernel
theorem zo_39 : zMo 39 = 4 := by decide +kernel
theorem zn_40 : zMn 40 = 0 := by decide +kernel
theorem zo_40 : zMo 40 = 4 := by decide +kernel
theorem zn_41 : zMn 41 = 2 := by decide +kernel
theorem zo_41 : zMo 41 = 4 := by decide +kernel
theorem zn_42 : zMn 42 = 1 := by decide +kernel
theorem zo_42 : zMo 42 = 4 := by decide +kernel
theorem zn_43 : zMn 43 = 1 := by decide +kernel
theorem zo_43 : zMo 43 = 4 := by decide +kernel
theorem zn_44 : zMn 44 = 1 := by decide +kernel
theorem zo_44 : zMo 44 = 4 := by decide +kernel
theorem zn_45 : zMn 45 = 1 := by decide +kernel
theorem zo_45 : zMo 45 = 5 := by decide +kernel
theorem zn_46 : zMn 46 = 0 := by decide +kernel
theorem zo_46 : zMo 46 = 5 := by decide +kernel
theorem zn_47 : zMn 47 = 1 := by decide +kernel
theorem zo_47 : zMo 47 = 5 := by decide +kernel
theorem zn_48 : zMn 48 = 0 := by decide +kernel
theorem zo_48 : zMo 48 = 5 := by decide +kernel
theorem zn_49 : zMn 49 = 0 := by decide +kernel
theorem zo_49 : zMo 49 = 5 := by decide +kernel
theorem zn_50 : zMn 50 = 0 := by decide +kernel
theorem zo_50 : zMo 50 = 5 := by decide +kernel
theorem zn_51 : zMn 51 = 2 := by decide +kernel
theorem zo_51 : zMo 51 = 5 := by decide +kernel
theorem zn_52 : zMn 52 = 2 := by decide +kernel
theorem zo_52 : zMo 52 = 5 := by decide +kernel
theorem zn_53 : zMn 53 = 1 := by decide +kernel
theorem zo_53 : zMo 53 = 5 := by decide +kernel
theorem zn_54 : zMn 54 = 1 := by decide +kernel
theorem zo_54 : zMo 54 = 5 := by decide +kernel
theorem zn_55 : zMn 55 = 1 := by decide +kernel
theorem zo_55 : zMo 55 = 5 := by decide +kernel
theorem zn_56 : zMn 56 = 1 := by decide +kernel
theorem zo_56 : zMo 56 = 5 := by decide +kernel
theorem zn_57 : zMn 57 = 0 := by decide +kernel
theorem zo_57 : zMo 57 = 6 := by decide +kernel
theorem zn_58 : zMn 58 = 4 := by decide +kernel
theorem zo_58 : zMo 58 = 6 := by decide +kernel
theorem zn_59 : zMn 59 = 0 := by decide +kernel
theorem zo_59 : zMo 59 = 6 := by decide +kernel
theorem zn_60 : zMn 60 = 0 := by decide +kernel
theorem zo_60 : zMo 60 = 6 := by decide +kernel
theorem zn_61 : zMn 61 = 0 := by decide +kernel
theorem zo_61 : zMo 61 = 6 := by decide +kernel
theorem zn_62 : zMn 62 = 2 := by decide +kernel
theorem zo_62 : zMo 62 = 6 := by decide +kernel
theorem zn_63 : zMn 63 = 1 := by decide +kernel
theorem zo_63 : zMo 63 = 6 := by decide +kernel
theorem zn_64 : zMn 64 = 0 := by decide +kernel
theorem zo_64 : zMo 64 = 6 := by decide +kernel
theorem zn_65 : zMn 65 = 1 := by decide +kernel
theorem zo_65 : zMo 65 = 6 := by decide +kernel
theorem zn_66 : zMn 66 = 1 := by decide +kernel
theorem zo_66 : zMo 66 = 6 := by decide +kernel
theorem zn_67 : zMn 67 = 1 := by decide +kernel
theorem zo_67 : zMo 67 = 6 := by decide +kernel
theorem zn_68 : zMn 68 = 3 := by decide +kernel
theorem zo_68 : zMo 68 = 6 := by decide +kernel
theorem zn_69 : zMn 69 = 0 := by decide +kernel
theorem zo_69 : zMo 69 = 6 := by decide +kernel
theorem zn_70 : zMn 70 = 1 := by decide +kernel
theorem zo_70 : zMo 70 = 6 := by decide +kernel
theorem zn_71 : zMn 71 = 0 := by decide +kernel
theorem zo_71 : zMo 71 = 6 := by decide +kernel
theorem zn_72 : zMn 72 = 1 := by decide +kernel
theorem zo_72 : zMo 72 = 6 := by decide +kernel
theorem zn_73 : zMn 73 = 1 := by decide +kernel
theorem zo_73 : zMo 73 = 6 := by decide +kernel
theorem zn_74 : zMn 74 = 0 := by decide +kernel
theorem zo_74 : zMo 74 = 7 := by decide +kernel
theorem zn_75 : zMn 75 = 3 := by decide +kernel
theorem zo_75 : zMo 75 = 7 := by decide +kernel
theorem zn_76 : zMn 76 = 2 := by decide +kernel
theorem zo_76 : zMo 76 = 7 := by decide +kernel
theorem zn_77 : zMn 77 = 3 := by decide +kernel
theorem zo_77 : zMo 77 = 7 := by decide +kernel
theorem zn_78 : zMn 78 = 0 := by decide +kernel
theorem zo_78 : zMo 78 = 7 := by decide +kernel
theorem zn_79 : zMn 79 = 0 := by decide +kernel
theorem zo_79 : zMo 79 = 7 := by decide +kernel
theorem zn_80 : zMn 80 = 1 := by decide +kernel
theorem zo_80 : zMo 80 = 7 := by decide +kernel
theorem zn_81 : zMn 81 = 0 := by decide +kernel
theorem zo_81 : zMo 81 = 8 := by decide +kernel
theorem zn_82 : zMn 82 = 1 := by decide +kernel
theorem zo_82 : zMo 82 = 8 := by decide +kernel
theorem zn_83 : zMn 83 = 1 := by decide +kernel
theorem zo_83 : zMo 83 = 8 := by decide +kernel
theorem zn_84 : zMn 84 = 0 := by decide +kernel
theorem zo_84 : zMo 84 = 9 := by decide +kernel
theorem zn_85 : zMn 85 = 0 := by decide +kernel
theorem zo_85 : zMo 85 = 9 := by decide +kernel
theorem zn_86 : zMn 86 = 0 := by decide +kernel
theorem zo_86 : zMo 86 = 9 := by decide +kernel
theorem zn_87 : zMn 87 = 1 := by decide +kernel
theorem zo_87 : zMo 87 = 9 := by decide +kernel
theorem zn_88 : zMn 88 = 1 := by decide +kernel
theorem zo_88 : zMo 88 = 9 := by decide +kernel
theorem zn_89 : zMn 89 = 2 := by decide +kernel
theorem zo_89 : zMo 89 = 9 := by decide +kernel
theorem zn_90 : zMn 90 = 2 := by decide +kernel
theorem zo_90 : zMo 90 = 9 := by decide +kernel
theorem zn_91 : zMn 91 = 2 := by decide +kernel
theorem zo_91 : zMo 91 = 9 := by decide +kernel
theorem zn_92 : zMn 92 = 3 := by decide +kernel
theorem zo_92 : zMo 92 = 9 := by decide +kernel
theorem zn_93 : zMn 93 = 1 := by decide +kernel
theorem zo_93 : zMo 93 = 9 := by decide +kernel
theorem zn_94 : zMn 94 = 0 := by decide +kernel
theorem zo_94 : zMo 94 = 9 := by decide +kernel
theorem zn_95 : zMn 95 = 0 := by decide +kernel
theorem zo_95 : zMo 95 = 9 := by decide +kernel
theorem zn_96 : zMn 96 = 0 := by decide +kernel
theorem zo_96 : zMo 96 = 9 := by decide +kernel
theorem zn_97 : zMn 97 = 0 := by decide +kernel
theorem zo_97 : zMo 97 = 9 := by decide +kernel
theorem zn_98 : zMn 98 = 1 := by decide +kernel
theorem zo_98 : zMo 98 = 9 := by decide +kernel
theorem zn_99 : zMn 99 = 2 := by decide +kernel
theorem zo_99 : zMo 99 = 9 := by decide +kernel
theorem zn_100 : zMn 100 = 1 := by decide +kernel
theorem zo_100 : zMo 100 = 9 := by decide +kernel
theorem zn_101 : zMn 101 = 1 := by decide +kernel
theorem zo_101 : zMo 101 = 9 := by decide +kernel
theorem zn_102 : zMn 102 = 0 := by decide +kernel
theorem zo_102 : zMo 102 = 10 := by decide +kernel
theorem zn_103 : zMn 103 = 5 := by decide +kernel
theorem zo_103 : zMo 103 = 10 := by decide +kernel
theorem zn_104 : zMn 104 = 1 := by decide +kernel
theorem zo_104 : zMo 104 = 10 := by decide +kernel
theorem zn_105 : zMn 105 = 1 := by decide +kernel
theorem zo_105 : zMo 105 = 10 := by decide +kernel
theorem zn_106 : zMn 106 = 0 := by decide +kernel
theorem zo_106 : zMo 106 = 10 := by decide +kernel
theorem zn_107 : zMn 107 = 2 := by decide +kernel
theorem zo_107 : zMo 107 = 10 := by decide +kernel
theorem zn_108 : zMn 108 = 3 := by decide +kernel
theorem zo_108 : zMo 108 = 10 := by decide +kernel
theorem zn_109 : zMn 109 = 2 := by decide +kernel
theorem zo_109 : zMo 109 = 10 := by decide +kernel
theorem zn_110 : zMn 110 = 2 := by decide +kernel
theorem zo_110 : zMo 110 = 10 := by decide +kernel
theorem zn_111 : zMn 111 = 3 := by decide +kernel
theorem zo_111 : zMo 111 = 10 := by decide +kernel
theorem zn_112 : zMn 112 = 1 := by decide +kernel
theorem zo_112 : zMo 112 = 10 := by decide +kernel
theorem zn_113 : zMn 113 = 2 := by decide +kernel
theorem zo_113 : zMo 113 = 10 := by decide +kernel
theorem zn_114 : zMn 114 = 0 := by decide +kernel
theorem zo_114 : zMo 114 = 10 := by decide +kernel
theorem zn_115 : zMn 115 = 3 := by decide +kernel
theorem zo_115 : zMo 115 = 10 := by decide +kernel
theorem zn_116 : zMn 116 = 3 := by decide +kernel
theorem zo_116 : zMo 116 = 10 := by decide +kernel
theorem zn_117 : zMn 117 = 2 := by decide +kernel
theorem zo_117 : zMo 117 = 10 := by decide +kernel
theorem zn_118 : zMn 118 = 3 := by decide +kernel
theorem zo_118 : zMo 118 = 10 := by decide +kernel
theorem zn_119 : zMn 119 = 0 := by decide +kernel
theorem zo_119 : zMo 119 = 10 := by decide +kernel
theorem zn_120 : zMn 120 = 1 := by decide +kernel
theorem zo_120 : zMo 120 = 10 := by decide +kernel
theorem zn_121 : zMn 121 = 1 := by decide +kernel
theorem zo_121 : zMo 121 = 10 := by decide +kernel
theorem zn_122 : zMn 122 = 2 := by decide +kernel
theorem zo_122 : zMo 122 = 10 := by decide +kernel
theorem zn_123 : zMn 123 = 2 := by decide +kernel
theorem zo_123 : zMo 123 = 10 := by decide +kernel
theorem zn_124 : zMn 124 = 0 := by decide +kernel
theorem zo_124 : zMo 124 = 10 := by decide +kernel
theorem zn_125 : zMn 125 = 0 := by decide +kernel
theorem zo_125 : zMo 125 = 10 := by decide +kernel
theorem zn_126 : zMn 126 = 2 := by decide +kernel
theorem zo_126 : zMo 126 = 10 := by decide +kernel
theorem zn_127 : zMn 127 = 2 := by decide +kernel
theorem zo_127 : zMo 127 = 10 := by decide +kernel
theorem zn_128 : zMn 128 = 3 := by decide +kernel
theorem zo_128 : zMo 128 = 10 := by decide +kernel
theorem zn_129 : zMn 129 = 0 := by decide +kernel
theorem zo_129 : zMo 129 = 11 := by decide +kernel
theorem zn_130 : zMn 130 = 2 := by decide +kernel
theorem zo_130 : zMo 130 = 11 := by decide +kernel
theorem zn_131 : zMn 131 = 2 := by decide +kernel
theorem zo_131 : zMo 131 = 11 := by decide +kernel
theorem zn_132 : zMn 132 = 1 := by decide +kernel
theorem zo_132 : zMo 132 = 11 := by decide +kernel
theorem zn_133 : zMn 133 = 2 := by decide +kernel
theorem zo_133 : zMo 133 = 11 := by decide +kernel
theorem zn_134 : zMn 134 = 2 := by decide +kernel
theorem zo_134 : zMo 134 = 11 := by decide +kernel
theorem zn_135 : zMn 135 = 1 := by decide +kernel
theorem zo_135 : zMo 135 = 11 := by decide +kernel
theorem zn_136 : zMn 136 = 2 := by decide +kernel
theorem zo_136 : zMo 136 = 11 := by decide +kernel
theorem zn_137 : zMn 137 = 3 := by decide +kernel
theorem zo_137 : zMo 137 = 11 := by decide +kernel
theorem zn_138 : zMn 138 = 2 := by decide +kernel
theorem zo_138 : zMo 138 = 11 := by decide +kernel
theorem zn_139 : zMn 139 = 3 := by decide +kernel
theorem zo_139 : zMo 139 = 11 := by decide +kernel
theorem zn_140 : zMn 140 = 1 := by decide +kernel
theorem zo_140 : zMo 140 = 11 := by decide +kernel
theorem zn_141 : zMn 141 = 1 := by decide +kernel
theorem zo_141 : zMo 141 = 11 := by decide +kernel
theorem zn_142 : zMn 142 = 3 := by decide +kernel
theorem zo_142 : zMo 142 = 11 := by decide +kernel
theorem zn_143 : zMn 143 = 1 := by decide +kernel
theorem zo_143 : zMo 143 = 11 := by decide +kernel
theorem zn_144 : zMn 144 = 0 := by decide +kernel
theorem zo_144 : zMo 144 = 11 := by decide +kernel
theorem zn_145 : zMn 145 = 0 := by decide +kernel
theorem zo_145 : zMo 145 = 11 := by decide +kernel
theorem zn_146 : zMn 146 = 2 := by decide +kernel
theorem zo_146 : zMo 146 = 11 := by decide +kernel
theorem zn_147 : zMn 147 = 0 := by decide +kernel
theorem zo_147 : zMo 147 = 11 := by decide +kernel
theorem zn_148 : zMn 148 = 1 := by decide +kernel
theorem zo_148 : zMo 148 = 11 := by decide +kernel
theorem zn_149 : zMn 149 = 3 := by decide +kernel
theorem zo_149 : zMo 149 = 11 := by decide +kernel
theorem zn_150 : zMn 150 = 2 := by decide +kernel
theorem zo_150 : zMo 150 = 11 := by decide +kernel
theorem zn_151 : zMn 151 = 2 := by decide +kernel
theorem zo_151 : zMo 151 = 11 := by decide +kernel
theorem zn_152 : zMn 152 = 3 := by decide +kernel
theorem zo_152 : zMo 152 = 11 := by decide +kernel
theorem zn_153 : zMn 153 = 2 := by decide +kernel
theorem zo_153 : zMo 153 = 11 := by decide +kernel
theorem zn_154 : zMn 154 = 1 := by decide +kernel
theorem zo_154 : zMo 154 = 11 := by decide +kernel
theorem zn_155 : zMn 155 = 1 := by decide +kernel
theorem zo_155 : zMo 155 = 11 := by decide +kernel
theorem zn_156 : zMn 156 = 1 := by decide +kernel
theorem zo_156 : zMo 156 = 11 := by decide +kernel
theorem zn_157 : zMn 157 = 1 := by decide +kernel
theorem zo_157 : zMo 157 = 11 := by decide +kernel
theorem zn_158 : zMn 158 = 2 := by decide +kernel
theorem zo_158 : zMo 158 = 11 := by decide +kernel
theorem zn_159 : zMn 159 = 1 := by decide +kernel
theorem zo_159 : zMo 159 = 11 := by decide +kernel
theorem zn_160 : zMn 160 = 0 := by decide +kernel
theorem zo_160 : zMo 160 = 12 := by decide +kernel
theorem zn_161 : zMn 161 = 0 := by decide +kernel
theorem zo_161 : zMo 161 = 12 := by decide +kernel
theorem zn_162 : zMn 162 = 1 := by decide +kernel
theorem zo_162 : zMo 162 = 12 := by decide +kernel
theorem zn_163 : zMn 163 = 3 := by decide +kernel
theorem zo_163 : zMo 163 = 12 := by decide +kernel
theorem zn_164 : zMn 164 = 5 := by decide +kernel
theorem zo_164 : zMo 164 = 12 := by decide +kernel
theorem zn_165 : zMn 165 = 1 := by decide +kernel
theorem zo_165 : zMo 165 = 12 := by decide +kernel
theorem zn_166 : zMn 166 = 1 := by decide +kernel
theorem zo_166 : zMo 166 = 12 := by decide +kernel
theorem zn_167 : zMn 167 = 1 := by decide +kernel
theorem zo_167 : zMo 167 = 12 := by decide +kernel
theorem zn_168 : zMn 168 = 1 := by decide +kernel
theorem zo_168 : zMo 168 = 12 := by decide +kernel
theorem zn_169 : zMn 169 = 0 := by decide +kernel
theorem zo_169 : zMo 169 = 12 := by decide +kernel
theorem zn_170 : zMn 170 = 2 := by decide +kernel
theorem zo_170 : zMo 170 = 12 := by decide +kernel
theorem zn_171 : zMn 171 = 2 := by decide +kernel
theorem zo_171 : zMo 171 = 12 := by decide +kernel
theorem zn_172 : zMn 172 = 1 := by decide +kernel
theorem zo_172 : zMo 172 = 12 := by decide +kernel
theorem zn_173 : zMn 173 = 1 := by decide +kernel
theorem zo_173 : zMo 173 = 12 := by decide +kernel
theorem zn_174 : zMn 174 = 0 := by decide +kernel
theorem zo_174 : zMo 174 = 12 := by decide +kernel
theorem zn_175 : zMn 175 = 0 := by decide +kernel
theorem zo_175 : zMo 175 = 12 := by decide +kernel
theorem zn_176 : zMn 176 = 0 := by decide +kernel
theorem zo_176 : zMo 176 = 12 := by decide +kernel
theorem zn_177 : zMn 177 = 2 := by decide +kernel
theorem zo_177 : zMo 177 = 12 := by decide +kernel
theorem zn_178 : zMn 178 = 2 := by decide +kernel
theorem zo_178 : zMo 178 = 12 := by decide +kernel
theorem zn_179 : zMn 179 = 1 := by decide +kernel
theorem zo_179 : zMo 179 = 12 := by decide +kernel
theorem zn_180 : zMn 180 = 2 := by decide +kernel
theorem zo_180 : zMo 180 = 12 := by decide +kernel
theorem zn_181 : zMn 181 = 0 := by decide +kernel
theorem zo_181 : zMo 181 = 12 := by decide +kernel
theorem zn_182 : zMn 182 = 1 := by decide +kernel
theorem zo_182 : zMo 182 = 12 := by decide +kernel
theorem zn_183 : zMn 183 = 0 := by decide +kernel
theorem zo_183 : zMo 183 = 12 := by decide +kernel
theorem zn_184 : zMn 184 = 2 := by decide +kernel
theorem zo_184 : zMo 184 = 12 := by decide +kernel
theorem zn_185 : zMn 185 = 2 := by decide +kernel
theorem zo_185 : zMo 185 = 12 := by decide +kernel
theorem zn_186 : zMn 186 = 3 := by decide +kernel
theorem zo_186 : zMo 186 = 12 := by decide +kernel
theorem zn_187 : zMn 187 = 1 := by decide +kernel
theorem zo_187 : zMo 187 = 12 := by decide +kernel
theorem zn_188 : zMn 188 = 2 := by decide +kernel
theorem zo_188 : zMo 188 = 12 := by decide +kernel
theorem zn_189 : zMn 189 = 2 := by decide +kernel
theorem zo_189 : zMo 189 = 12 := by decide +kernel
theorem zn_190 : zMn 190 = 2 := by decide +kernel
theorem zo_190 : zMo 190 = 12 := by decide +kernel
theorem zn_191 : zMn 191 = 3 := by decide +kernel
theorem zo_191 : zMo 191 = 12 := by decide +kernel
theorem zn_192 : zMn 192 = 1 := by decide +kernel
theorem zo_192 : zMo 192 = 12 := by decide +kernel
theorem zn_193 : zMn 193 = 2 := by decide +kernel
theorem zo_193 : zMo 193 = 12 := by decide +kernel
theorem zn_194 : zMn 194 = 2 := by decide +kernel
theorem zo_194 : zMo 194 = 12 := by decide +kernel
theorem zn_195 : zMn 195 = 0 := by decide +kernel
theorem zo_195 : zMo 195 = 12 := by decide +kernel
theorem zn_196 : zMn 196 = 1 := by decide +kernel
theorem zo_196 : zMo 196 = 12 := by decide +kernel
theorem zn_197 : zMn 197 = 3 := by decide +kernel
theorem zo_197 : zMo 197 = 12 := by decide +kernel
theorem zn_198 : zMn 198 = 3 := by decide +kernel
theorem zo_198 : zMo 198 = 12 := by decide +kernel
theorem zn_199 : zMn 199 = 2 := by decide +kernel
theorem zo_199 : zMo 199 = 12 := by decide +kernel
theorem zn_200 : zMn 200 = 3 := by decide +kernel
theorem zo_200 : zMo 200 = 12 := by decide +kernel
theorem zn_201 : zMn 201 = 0 := by decide +kernel
theorem zo_201 : zMo 201 = 12 := by decide +kernel
theorem zn_202 : zMn 202 = 1 := by decide +kernel
theorem zo_202 : zMo 202 = 12 := by decide +kernel
theorem zn_203 : zMn 203 = 1 := by decide +kernel
theorem zo_203 : zMo 203 = 12 := by decide +kernel
theorem zn_204 : zMn 204 = 0 := by decide +kernel
theorem zo_204 : zMo 204 = 12 := by decide +kernel
theorem zn_205 : zMn 205 = 2 := by decide +kernel
theorem zo_205 : zMo 205 = 12 := by decide +kernel
theorem zn_206 : zMn 206 = 2 := by decide +kernel
theorem zo_206 : zMo 206 = 12 := by decide +kernel
theorem zn_207 : zMn 207 = 0 := by decide +kernel
theorem zo_207 : zMo 207 = 12 := by decide +kernel
theorem zn_208 : zMn 208 = 0 := by decide +kernel
theorem zo_208 : zMo 208 = 12 := by decide +kernel
theorem zn_209 : zMn 209 = 0 := by decide +kernel
theorem zo_209 : zMo 209 = 14 := by decide +kernel
theorem zn_210 : zMn 210 = 1 := by decide +kernel
theorem zo_210 : zMo 210 = 14 := by decide +kernel
theorem zn_211 : zMn 211 = 0 := by decide +kernel
theorem zo_211 : zMo 211 = 14 := by decide +kernel
theorem zn_212 : zMn 212 = 0 := by decide +kernel
theorem zo_212 : zMo 212 = 14 := by decide +kernel
theorem zn_213 : zMn 213 = 2 := by decide +kernel
theorem zo_213 : zMo 213 = 14 := by decide +kernel
theorem zn_214 : zMn 214 = 2 := by decide +kernel
theorem zo_214 : zMo 214 = 15 := by decide +kernel
theorem zn_217 : zMn 217 = 2 := by decide +kernel
theorem zo_217 : zMo 217 = 16 := by decide +kernel
theorem zn_219 : zMn 219 = 3 := by decide +kernel
theorem zo_219 : zMo 219 = 17 := by decide +kernel
theorem zn_220 : zMn 220 = 1 := by decide +kernel
theorem zo_220 : zMo 220 = 18 := by decide +kernel
theorem zn_221 : zMn 221 = 2 := by decide +kernel
theorem zo_221 : zMo 221 = 19 := by decide +kernel
theorem zn_225 : zMn 225 = 7 := by decide +kernel
theorem zo_225 : zMo 225 = 13 := by decide +kernel
theorem zn_226 : zMn 226 = 3 := by decide +kernel
theorem zo_226 : zMo 226 = 13 := by decide +kernel
theorem zn_227 : zMn 227 = 3 := by decide +kernel
theorem zo_227 : zMo 227 = 13 := by decide +kernel
theorem zn_228 : zMn 228 = 4 := by decide +kernel
theorem zo_228 : zMo 228 = 13 := by decide +kernel
theorem zn_229 : zMn 229 = 5 := by decide +kernel
theorem zo_229 : zMo 229 = 13 := by decide +kernel
theorem zn_230 : zMn 230 = 4 := by decide +kernel
theorem zo_230 : zMo 230 = 13 := by decide +kernel
theorem zn_231 : zMn 231 = 4 := by decide +kernel
theorem zo_231 : zMo 231 = 13 := by decide +kernel
theorem zn_232 : zMn 232 = 5 := by decide +kernel
theorem zo_232 : zMo 232 = 13 := by decide +kernel
theorem zn_233 : zMn 233 = 3 := by decide +kernel
theorem zo_233 : zMo 233 = 13 := by decide +kernel
theorem zn_234 : zMn 234 = 4 := by decide +kernel
theorem zo_234 : zMo 234 = 13 := by decide +kernel
theorem zn_235 : zMn 235 = 2 := by decide +kernel
theorem zo_235 : zMo 235 = 13 := by decide +kernel
theorem zn_236 : zMn 236 = 5 := by decide +kernel
theorem zo_236 : zMo 236 = 13 := by decide +kernel
theorem zn_237 : zMn 237 = 5 := by decide +kernel
theorem zo_237 : zMo 237 = 13 := by decide +kernel
theorem zn_238 : zMn 238 = 4 := by decide +kernel
theorem zo_238 : zMo 238 = 13 := by decide +kernel
theorem zn_239 : zMn 239 = 5 := by decide +kernel
theorem zo_239 : zMo 239 = 13 := by decide +kernel
theorem zn_240 : zMn 240 = 3 := by decide +kernel
theorem zo_240 : zMo 240 = 13 := by decide +kernel
theorem zn_241 : zMn 241 = 3 := by decide +kernel
theorem zo_241 : zMo 241 = 13 := by decide +kernel
theorem zn_242 : zMn 242 = 4 := by decide +kernel
theorem zo_242 : zMo 242 = 13 := by decide +kernel
theorem zn_243 : zMn 243 = 4 := by decide +kernel
theorem zo_243 : zMo 243 = 13 := by decide +kernel
theorem zn_244 : zMn 244 = 1 := by decide +kernel
theorem zo_244 : zMo 244 = 13 := by decide +kernel
theorem ck_1_100 : zCK 1 100 = some (zE 23) := by rfl
theorem ck_1_102 : zCK 1 102 = some (zE 24) := by rfl
theorem ck_1_104 : zCK 1 104 = some (zE 25) := by rfl
theorem ck_1_106 : zCK 1 106 = some (zE 26) := by rfl
theorem ck_1_108 : zCK 1 108 = some (zE 27) := by rfl
theorem ck_1_110 : zCK 1 110 = some (zE 28) := by rfl
theorem ck_1_112 : zCK 1 112 = some (zI 1000000) := by rfl
theorem ck_5_60 : zCK 5 60 = some (zE 20) := by rfl
theorem ck_5_66 : zCK 5 66 = some (zE 21) := by rfl
theorem ck_5_68 : zCK 5 68 = some (zE 22) := by rfl
theorem ck_12_89 : zCK 12 89 = some (zE 29) := by rfl
theorem ck_12_91 : zCK 12 91 = some (zE 30) := by rfl
theorem ck_12_93 : zCK 12 93 = some (zE 31) := by rfl
theorem ck_12_102 : zCK 12 102 = some (zE 32) := by rfl
theorem cq_5_79 : zCL 5 79 = some 32 := by decide +kernel
theorem cq_5_81 : zCL 5 81 = some 97 := by decide +kernel
theorem cq_10_265 : zCL 10 265 = some 467 := by decide +kernel
theorem cq_10_267 : zCL 10 267 = some 31 := by decide +kernel
theorem cq_12_330 : zCL 12 330 = some 467 := by decide +kernel
theorem cq_12_332 : zCL 12 332 = some 31 := by decide +kernel
theorem fl_0_7 : zFR 0 7 = some (0, 0) := by decide +kernel
theorem fl_0_13 : zFR 0 13 = some (0, 1) := by decide +kernel
theorem fl_0_16 : zFR 0 16 = some (0, 2) := by decide +kernel
theorem fl_0_19 : zFR 0 19 = some (0, 3) := by decide +kernel
theorem fl_1_9 : zFR 1 9 = some (1, 2) := by decide +kernel
theorem fl_1_15 : zFR 1 15 = some (1, 3) := by decide +kernel
theorem fl_1_18 : zFR 1 18 = some (1, 4) := by decide +kernel
theorem fl_1_21 : zFR 1 21 = some (1, 5) := by decide +kernel
theorem fl_1_24 : zFR 1 24 = some (1, 6) := by decide +kernel
theorem fl_1_28 : zFR 1 28 = some (1, 7) := by decide +kernel
theorem fl_1_31 : zFR 1 31 = some (1, 8) := by decide +kernel
theorem fl_1_35 : zFR 1 35 = some (1, 9) := by decide +kernel
theorem fl_1_38 : zFR 1 38 = some (1, 10) := by decide +kernel
theorem fl_1_41 : zFR 1 41 = some (1, 0) := by decide +kernel
theorem fl_1_50 : zFR 1 50 = some (1, 1) := by decide +kernel
theorem fl_1_58 : zFR 1 58 = some (5, 3) := by decide +kernel
theorem fl_1_69 : zFR 1 69 = some (8, 1) := by decide +kernel
theorem fl_1_77 : zFR 1 77 = some (5, 2) := by decide +kernel
theorem fl_1_80 : zFR 1 80 = some (5, 4) := by decide +kernel
theorem fl_1_157 : zFR 1 157 = some (3, 1) := by decide +kernel
theorem fl_2_9 : zFR 2 9 = some (2, 0) := by decide +kernel
theorem fl_2_15 : zFR 2 15 = some (2, 1) := by decide +kernel
theorem fl_2_19 : zFR 2 19 = some (2, 2) := by decide +kernel
theorem fl_2_22 : zFR 2 22 = some (2, 3) := by decide +kernel
theorem fl_2_25 : zFR 2 25 = some (2, 4) := by decide +kernel
theorem fl_2_28 : zFR 2 28 = some (2, 5) := by decide +kernel
theorem fl_2_32 : zFR 2 32 = some (2, 6) := by decide +kernel
theorem fl_2_57 : zFR 2 57 = some (0, 1) := by decide +kernel
theorem fl_2_62 : zFR 2 62 = some (0, 2) := by decide +kernel
theorem fl_2_65 : zFR 2 65 = some (0, 3) := by decide +kernel
theorem fl_3_11 : zFR 3 11 = some (3, 0) := by decide +kernel
theorem fl_3_17 : zFR 3 17 = some (3, 1) := by decide +kernel
theorem fl_3_21 : zFR 3 21 = some (3, 2) := by decide +kernel
theorem fl_3_24 : zFR 3 24 = some (3, 3) := by decide +kernel
theorem fl_3_27 : zFR 3 27 = some (3, 4) := by decide +kernel
theorem fl_3_30 : zFR 3 30 = some (0, 0) := by decide +kernel
theorem fl_3_33 : zFR 3 33 = some (0, 2) := by decide +kernel
theorem fl_3_36 : zFR 3 36 = some (0, 1) := by decide +kernel
theorem fl_4_9 : zFR 4 9 = some (4, 0) := by decide +kernel
theorem fl_4_15 : zFR 4 15 = some (4, 1) := by decide +kernel
theorem fl_4_18 : zFR 4 18 = some (4, 2) := by decide +kernel
theorem fl_4_21 : zFR 4 21 = some (4, 3) := by decide +kernel
theorem fl_4_24 : zFR 4 24 = some (4, 4) := by decide +kernel
theorem fl_5_9 : zFR 5 9 = some (5, 1) := by decide +kernel
theorem fl_5_15 : zFR 5 15 = some (5, 2) := by decide +kernel
theorem fl_5_18 : zFR 5 18 = some (5, 3) := by decide +kernel
theorem fl_5_21 : zFR 5 21 = some (5, 4) := by decide +kernel
theorem fl_5_24 : zFR 5 24 = some (5, 0) := by decide +kernel
theorem fl_5_28 : zFR 5 28 = some (8, 1) := by decide +kernel
theorem fl_6_9 : zFR 6 9 = some (6, 0) := by decide +kernel
theorem fl_6_15 : zFR 6 15 = some (6, 1) := by decide +kernel
theorem fl_6_19 : zFR 6 19 = some (6, 2) := by decide +kernel
theorem fl_6_23 : zFR 6 23 = some (6, 3) := by decide +kernel
theorem fl_6_26 : zFR 6 26 = some (6, 4) := by decide +kernel
theorem fl_6_29 : zFR 6 29 = some (6, 5) := by decide +kernel
theorem fl_6_32 : zFR 6 32 = some (6, 6) := by decide +kernel
theorem fl_6_35 : zFR 6 35 = some (6, 7) := by decide +kernel
theorem fl_6_38 : zFR 6 38 = some (6, 8) := by decide +kernel
theorem fl_6_41 : zFR 6 41 = some (6, 9) := by decide +kernel
theorem fl_6_44 : zFR 6 44 = some (6, 10) := by decide +kernel
theorem fl_6_50 : zFR 6 50 = some (6, 11) := by decide +kernel
theorem fl_6_54 : zFR 6 54 = some (6, 12) := by decide +kernel
theorem fl_6_57 : zFR 6 57 = some (6, 13) := by decide +kernel
theorem fl_6_60 : zFR 6 60 = some (6, 14) := by decide +kernel
theorem fl_6_63 : zFR 6 63 = some (6, 15) := by decide +kernel
theorem fl_6_79 : zFR 6 79 = some (0, 0) := by decide +kernel
theorem fl_6_97 : zFR 6 97 = some (0, 1) := by decide +kernel
theorem fl_6_107 : zFR 6 107 = some (2, 0) := by decide +kernel
theorem fl_6_110 : zFR 6 110 = some (2, 2) := by decide +kernel
theorem fl_6_113 : zFR 6 113 = some (2, 3) := by decide +kernel
theorem fl_6_116 : zFR 6 116 = some (2, 4) := by decide +kernel
theorem fl_7_11 : zFR 7 11 = some (7, 0) := by decide +kernel
theorem fl_7_17 : zFR 7 17 = some (7, 1) := by decide +kernel
theorem fl_7_21 : zFR 7 21 = some (7, 2) := by decide +kernel
theorem fl_7_29 : zFR 7 29 = some (4, 1) := by decide +kernel
theorem fl_7_32 : zFR 7 32 = some (4, 0) := by decide +kernel
theorem fl_7_47 : zFR 7 47 = some (4, 2) := by decide +kernel
theorem fl_8_9 : zFR 8 9 = some (8, 0) := by decide +kernel
theorem fl_8_15 : zFR 8 15 = some (8, 1) := by decide +kernel
theorem fl_9_9 : zFR 9 9 = some (9, 0) := by decide +kernel
theorem fl_9_18 : zFR 9 18 = some (9, 1) := by decide +kernel
theorem fl_9_22 : zFR 9 22 = some (9, 2) := by decide +kernel
theorem fl_9_26 : zFR 9 26 = some (9, 3) := by decide +kernel
theorem fl_9_31 : zFR 9 31 = some (9, 4) := by decide +kernel
theorem fl_9_35 : zFR 9 35 = some (9, 5) := by decide +kernel
theorem fl_9_40 : zFR 9 40 = some (9, 6) := by decide +kernel
theorem fl_9_43 : zFR 9 43 = some (9, 7) := by decide +kernel
theorem fl_9_46 : zFR 9 46 = some (9, 8) := by decide +kernel
theorem fl_9_53 : zFR 9 53 = some (6, 15) := by decide +kernel
theorem fl_9_72 : zFR 9 72 = some (6, 13) := by decide +kernel
theorem fl_9_83 : zFR 9 83 = some (6, 14) := by decide +kernel
theorem fl_9_94 : zFR 9 94 = some (0, 0) := by decide +kernel
theorem fl_9_99 : zFR 9 99 = some (0, 1) := by decide +kernel
theorem fl_9_109 : zFR 9 109 = some (0, 2) := by decide +kernel
theorem fl_9_116 : zFR 9 116 = some (6, 11) := by decide +kernel
theorem fl_9_157 : zFR 9 157 = some (7, 0) := by decide +kernel
theorem fl_9_161 : zFR 9 161 = some (4, 2) := by decide +kernel
theorem fl_9_176 : zFR 9 176 = some (6, 0) := by decide +kernel
theorem fl_9_179 : zFR 9 179 = some (6, 2) := by decide +kernel
theorem fl_9_182 : zFR 9 182 = some (6, 8) := by decide +kernel
theorem fl_9_185 : zFR 9 185 = some (6, 9) := by decide +kernel
theorem fl_9_188 : zFR 9 188 = some (6, 4) := by decide +kernel
theorem fl_9_205 : zFR 9 205 = some (7, 1) := by decide +kernel
theorem fl_9_214 : zFR 9 214 = some (7, 2) := by decide +kernel
theorem fl_10_10 : zFR 10 10 = some (10, 0) := by decide +kernel
theorem fl_10_21 : zFR 10 21 = some (10, 1) := by decide +kernel
theorem fl_10_27 : zFR 10 27 = some (10, 2) := by decide +kernel
theorem fl_10_34 : zFR 10 34 = some (10, 3) := by decide +kernel
theorem fl_10_38 : zFR 10 38 = some (10, 4) := by decide +kernel
theorem fl_10_42 : zFR 10 42 = some (8, 1) := by decide +kernel
theorem fl_10_79 : zFR 10 79 = some (1, 10) := by decide +kernel
theorem fl_10_90 : zFR 10 90 = some (9, 1) := by decide +kernel
theorem fl_10_94 : zFR 10 94 = some (7, 1) := by decide +kernel
theorem fl_10_107 : zFR 10 107 = some (7, 0) := by decide +kernel
theorem fl_10_111 : zFR 10 111 = some (4, 1) := by decide +kernel
theorem fl_10_116 : zFR 10 116 = some (4, 3) := by decide +kernel
theorem fl_10_142 : zFR 10 142 = some (9, 2) := by decide +kernel
theorem fl_10_148 : zFR 10 148 = some (9, 3) := by decide +kernel
theorem fl_10_156 : zFR 10 156 = some (9, 5) := by decide +kernel
theorem fl_10_165 : zFR 10 165 = some (3, 1) := by decide +kernel
theorem fl_10_168 : zFR 10 168 = some (9, 4) := by decide +kernel
theorem fl_10_172 : zFR 10 172 = some (6, 0) := by decide +kernel
theorem fl_10_180 : zFR 10 180 = some (9, 0) := by decide +kernel
theorem fl_10_195 : zFR 10 195 = some (6, 15) := by decide +kernel
theorem fl_10_198 : zFR 10 198 = some (6, 13) := by decide +kernel
theorem fl_10_221 : zFR 10 221 = some (6, 11) := by decide +kernel
theorem fl_10_225 : zFR 10 225 = some (2, 6) := by decide +kernel
theorem fl_10_230 : zFR 10 230 = some (2, 5) := by decide +kernel
theorem fl_10_238 : zFR 10 238 = some (9, 7) := by decide +kernel
theorem fl_10_254 : zFR 10 254 = some (9, 6) := by decide +kernel
theorem fl_10_262 : zFR 10 262 = some (9, 8) := by decide +kernel
theorem fl_11_9 : zFR 11 9 = some (11, 2) := by decide +kernel
theorem fl_11_15 : zFR 11 15 = some (11, 3) := by decide +kernel
theorem fl_11_18 : zFR 11 18 = some (11, 4) := by decide +kernel
theorem fl_11_21 : zFR 11 21 = some (11, 5) := by decide +kernel
theorem fl_11_24 : zFR 11 24 = some (11, 6) := by decide +kernel
theorem fl_11_27 : zFR 11 27 = some (11, 7) := by decide +kernel
theorem fl_11_30 : zFR 11 30 = some (11, 9) := by decide +kernel
theorem fl_11_33 : zFR 11 33 = some (11, 10) := by decide +kernel
theorem fl_11_37 : zFR 11 37 = some (11, 11) := by decide +kernel
theorem fl_11_40 : zFR 11 40 = some (11, 12) := by decide +kernel
theorem fl_11_43 : zFR 11 43 = some (11, 13) := by decide +kernel
theorem fl_11_46 : zFR 11 46 = some (11, 14) := by decide +kernel
theorem fl_11_49 : zFR 11 49 = some (11, 15) := by decide +kernel
theorem fl_11_52 : zFR 11 52 = some (11, 16) := by decide +kernel
theorem fl_11_55 : zFR 11 55 = some (11, 17) := by decide +kernel
theorem fl_11_58 : zFR 11 58 = some (11, 18) := by decide +kernel
theorem fl_11_61 : zFR 11 61 = some (11, 19) := by decide +kernel
theorem fl_11_64 : zFR 11 64 = some (11, 20) := by decide +kernel
theorem fl_11_67 : zFR 11 67 = some (11, 21) := by decide +kernel
theorem fl_11_70 : zFR 11 70 = some (11, 22) := by decide +kernel
theorem fl_11_73 : zFR 11 73 = some (11, 23) := by decide +kernel
theorem fl_11_76 : zFR 11 76 = some (11, 24) := by decide +kernel
theorem fl_11_79 : zFR 11 79 = some (11, 25) := by decide +kernel
theorem fl_11_82 : zFR 11 82 = some (11, 26) := by decide +kernel
theorem fl_11_85 : zFR 11 85 = some (11, 27) := by decide +kernel
theorem fl_11_88 : zFR 11 88 = some (11, 28) := by decide +kernel
theorem fl_11_91 : zFR 11 91 = some (11, 29) := by decide +kernel
theorem fl_11_94 : zFR 11 94 = some (11, 30) := by decide +kernel
theorem fl_11_97 : zFR 11 97 = some (11, 31) := by decide +kernel
theorem fl_11_100 : zFR 11 100 = some (11, 35) := by decide +kernel
theorem fl_11_109 : zFR 11 109 = some (11, 0) := by decide +kernel
theorem fl_11_113 : zFR 11 113 = some (11, 1) := by decide +kernel
theorem fl_11_116 : zFR 11 116 = some (11, 8) := by decide +kernel
theorem fl_11_119 : zFR 11 119 = some (11, 32) := by decide +kernel
theorem fl_11_122 : zFR 11 122 = some (11, 33) := by decide +kernel
theorem fl_11_125 : zFR 11 125 = some (11, 34) := by decide +kernel
theorem fl_12_9 : zFR 12 9 = some (12, 1) := by decide +kernel
theorem fl_12_13 : zFR 12 13 = some (12, 3) := by decide +kernel
theorem fl_12_17 : zFR 12 17 = some (12, 5) := by decide +kernel
theorem fl_12_20 : zFR 12 20 = some (12, 6) := by decide +kernel
theorem fl_12_23 : zFR 12 23 = some (12, 7) := by decide +kernel
theorem fl_12_26 : zFR 12 26 = some (12, 9) := by decide +kernel
theorem fl_12_29 : zFR 12 29 = some (12, 10) := by decide +kernel
theorem fl_12_32 : zFR 12 32 = some (12, 12) := by decide +kernel
theorem fl_12_38 : zFR 12 38 = some (12, 16) := by decide +kernel
theorem fl_12_42 : zFR 12 42 = some (12, 17) := by decide +kernel
theorem fl_12_45 : zFR 12 45 = some (12, 0) := by decide +kernel
theorem fl_12_48 : zFR 12 48 = some (12, 2) := by decide +kernel
theorem fl_12_82 : zFR 12 82 = some (12, 8) := by decide +kernel
theorem fl_12_121 : zFR 12 121 = some (12, 4) := by decide +kernel
theorem fl_12_140 : zFR 12 140 = some (12, 15) := by decide +kernel
theorem fl_12_143 : zFR 12 143 = some (12, 13) := by decide +kernel
theorem fl_12_147 : zFR 12 147 = some (12, 14) := by decide +kernel
theorem fl_12_153 : zFR 12 153 = some (12, 11) := by decide +kernel
theorem fl_12_178 : zFR 12 178 = some (11, 1) := by decide +kernel
theorem fl_12_188 : zFR 12 188 = some (11, 3) := by decide +kernel
theorem fl_12_194 : zFR 12 194 = some (11, 5) := by decide +kernel
theorem fl_12_201 : zFR 12 201 = some (11, 2) := by decide +kernel
theorem fl_12_204 : zFR 12 204 = some (11, 4) := by decide +kernel
theorem fl_12_219 : zFR 12 219 = some (11, 7) := by decide +kernel
theorem fl_12_231 : zFR 12 231 = some (11, 8) := by decide +kernel
theorem fl_12_237 : zFR 12 237 = some (11, 10) := by decide +kernel
theorem fl_12_241 : zFR 12 241 = some (11, 9) := by decide +kernel
theorem fl_12_244 : zFR 12 244 = some (11, 11) := by decide +kernel
theorem fl_12_247 : zFR 12 247 = some (11, 12) := by decide +kernel
theorem fl_12_250 : zFR 12 250 = some (11, 13) := by decide +kernel
theorem fl_12_253 : zFR 12 253 = some (11, 14) := by decide +kernel
theorem fl_12_256 : zFR 12 256 = some (11, 16) := by decide +kernel
theorem fl_12_259 : zFR 12 259 = some (11, 17) := by decide +kernel
theorem fl_12_262 : zFR 12 262 = some (11, 18) := by decide +kernel
theorem fl_12_265 : zFR 12 265 = some (11, 19) := by decide +kernel
theorem fl_12_268 : zFR 12 268 = some (11, 20) := by decide +kernel
theorem fl_12_271 : zFR 12 271 = some (11, 0) := by decide +kernel
theorem fl_12_277 : zFR 12 277 = some (11, 21) := by decide +kernel
theorem fl_12_280 : zFR 12 280 = some (11, 24) := by decide +kernel
theorem fl_12_283 : zFR 12 283 = some (11, 22) := by decide +kernel
theorem fl_12_297 : zFR 12 297 = some (11, 31) := by decide +kernel
theorem fl_12_300 : zFR 12 300 = some (11, 30) := by decide +kernel
theorem fl_12_306 : zFR 12 306 = some (11, 32) := by decide +kernel
theorem fl_12_320 : zFR 12 320 = some (11, 35) := by decide +kernel
theorem fl_12_327 : zFR 12 327 = some (11, 33) := by decide +kernel
theorem fl_14_9 : zFR 14 9 = some (14, 0) := by decide +kernel
theorem fl_14_15 : zFR 14 15 = some (14, 1) := by decide +kernel
theorem mr_0_1 : zMR 0 1 = some (3, 0) := by decide +kernel
theorem mr_1_3 : zMR 1 3 = some (3, 0) := by decide +kernel
theorem mr_1_47 : zMR 1 47 = some (2, 45) := by decide +kernel
theorem mr_1_54 : zMR 1 54 = some (1, 4) := by decide +kernel
theorem mr_1_61 : zMR 1 61 = some (1, 2) := by decide +kernel
theorem mr_1_65 : zMR 1 65 = some (1, 47) := by decide +kernel
theorem mr_1_74 : zMR 1 74 = some (1, 48) := by decide +kernel
theorem mr_1_83 : zMR 1 83 = some (1, 5) := by decide +kernel
theorem mr_1_87 : zMR 1 87 = some (0, 6) := by decide +kernel
theorem mr_1_91 : zMR 1 91 = some (1, 209) := by decide +kernel
theorem mr_1_96 : zMR 1 96 = some (1, 210) := by decide +kernel
theorem mr_1_113 : zMR 1 113 = some (1, 16) := by decide +kernel
theorem mr_1_116 : zMR 1 116 = some (1, 8) := by decide +kernel
theorem mr_1_120 : zMR 1 120 = some (1, 9) := by decide +kernel
theorem mr_1_123 : zMR 1 123 = some (1, 10) := by decide +kernel
theorem mr_1_127 : zMR 1 127 = some (1, 12) := by decide +kernel
theorem mr_1_131 : zMR 1 131 = some (1, 15) := by decide +kernel
theorem mr_1_134 : zMR 1 134 = some (1, 14) := by decide +kernel
theorem mr_1_139 : zMR 1 139 = some (2, 0) := by decide +kernel
theorem mr_1_142 : zMR 1 142 = some (1, 32) := by decide +kernel
theorem mr_1_148 : zMR 1 148 = some (0, 221) := by decide +kernel
theorem mr_1_154 : zMR 1 154 = some (1, 11) := by decide +kernel
theorem mr_1_160 : zMR 1 160 = some (0, 13) := by decide +kernel
theorem mr_1_164 : zMR 1 164 = some (1, 46) := by decide +kernel
theorem mr_2_3 : zMR 2 3 = some (3, 0) := by decide +kernel
theorem mr_2_35 : zMR 2 35 = some (0, 221) := by decide +kernel
theorem mr_2_41 : zMR 2 41 = some (6, 224) := by decide +kernel
theorem mr_2_47 : zMR 2 47 = some (1, 24) := by decide +kernel
theorem mr_2_51 : zMR 2 51 = some (1, 25) := by decide +kernel
theorem mr_2_54 : zMR 2 54 = some (5, 223) := by decide +kernel
theorem mr_2_68 : zMR 2 68 = some (1, 27) := by decide +kernel
theorem mr_2_72 : zMR 2 72 = some (1, 28) := by decide +kernel
theorem mr_2_76 : zMR 2 76 = some (0, 128) := by decide +kernel
theorem mr_2_80 : zMR 2 80 = some (7, 222) := by decide +kernel
theorem mr_2_84 : zMR 2 84 = some (4, 0) := by decide +kernel
theorem mr_3_3 : zMR 3 3 = some (3, 0) := by decide +kernel
theorem mr_3_39 : zMR 3 39 = some (0, 127) := by decide +kernel
theorem mr_4_3 : zMR 4 3 = some (3, 0) := by decide +kernel
theorem mr_4_28 : zMR 4 28 = some (5, 223) := by decide +kernel
theorem mr_4_34 : zMR 4 34 = some (1, 36) := by decide +kernel
theorem mr_4_38 : zMR 4 38 = some (1, 40) := by decide +kernel
theorem mr_4_42 : zMR 4 42 = some (4, 0) := by decide +kernel
theorem mr_5_3 : zMR 5 3 = some (3, 0) := by decide +kernel
theorem mr_5_33 : zMR 5 33 = some (1, 83) := by decide +kernel
theorem mr_5_37 : zMR 5 37 = some (0, 53) := by decide +kernel
theorem mr_5_41 : zMR 5 41 = some (0, 54) := by decide +kernel
theorem mr_5_44 : zMR 5 44 = some (1, 49) := by decide +kernel
theorem mr_5_47 : zMR 5 47 = some (0, 55) := by decide +kernel
theorem mr_5_50 : zMR 5 50 = some (1, 50) := by decide +kernel
theorem mr_5_53 : zMR 5 53 = some (0, 56) := by decide +kernel
theorem mr_5_56 : zMR 5 56 = some (0, 52) := by decide +kernel
theorem mr_5_62 : zMR 5 62 = some (1, 51) := by decide +kernel
theorem mr_5_70 : zMR 5 70 = some (1, 209) := by decide +kernel
theorem mr_5_75 : zMR 5 75 = some (1, 210) := by decide +kernel
theorem mr_6_3 : zMR 6 3 = some (3, 0) := by decide +kernel
theorem mr_6_49 : zMR 6 49 = some (2, 17) := by decide +kernel
theorem mr_6_66 : zMR 6 66 = some (1, 33) := by decide +kernel
theorem mr_6_72 : zMR 6 72 = some (1, 19) := by decide +kernel
theorem mr_6_75 : zMR 6 75 = some (1, 18) := by decide +kernel
theorem mr_6_84 : zMR 6 84 = some (1, 20) := by decide +kernel
theorem mr_6_87 : zMR 6 87 = some (1, 23) := by decide +kernel
theorem mr_6_90 : zMR 6 90 = some (1, 21) := by decide +kernel
theorem mr_6_93 : zMR 6 93 = some (1, 22) := by decide +kernel
theorem mr_6_100 : zMR 6 100 = some (1, 29) := by decide +kernel
theorem mr_6_104 : zMR 6 104 = some (1, 69) := by decide +kernel
theorem mr_6_119 : zMR 6 119 = some (1, 58) := by decide +kernel
theorem mr_6_123 : zMR 6 123 = some (1, 30) := by decide +kernel
theorem mr_6_127 : zMR 6 127 = some (1, 68) := by decide +kernel
theorem mr_7_3 : zMR 7 3 = some (3, 0) := by decide +kernel
theorem mr_7_24 : zMR 7 24 = some (2, 35) := by decide +kernel
theorem mr_7_25 : zMR 7 25 = some (1, 36) := by decide +kernel
theorem mr_7_35 : zMR 7 35 = some (1, 39) := by decide +kernel
theorem mr_7_39 : zMR 7 39 = some (1, 41) := by decide +kernel
theorem mr_7_43 : zMR 7 43 = some (1, 42) := by decide +kernel
theorem mr_7_50 : zMR 7 50 = some (0, 128) := by decide +kernel
theorem mr_7_54 : zMR 7 54 = some (1, 44) := by decide +kernel
theorem mr_8_3 : zMR 8 3 = some (3, 0) := by decide +kernel
theorem mr_9_3 : zMR 9 3 = some (3, 0) := by decide +kernel
theorem mr_9_17 : zMR 9 17 = some (2, 74) := by decide +kernel
theorem mr_9_49 : zMR 9 49 = some (2, 57) := by decide +kernel
theorem mr_9_50 : zMR 9 50 = some (1, 86) := by decide +kernel
theorem mr_9_57 : zMR 9 57 = some (1, 88) := by decide +kernel
theorem mr_9_61 : zMR 9 61 = some (1, 89) := by decide +kernel
theorem mr_9_65 : zMR 9 65 = some (1, 78) := by decide +kernel
theorem mr_9_68 : zMR 9 68 = some (1, 87) := by decide +kernel
theorem mr_9_75 : zMR 9 75 = some (0, 127) := by decide +kernel
theorem mr_9_79 : zMR 9 79 = some (1, 67) := by decide +kernel
theorem mr_9_86 : zMR 9 86 = some (1, 69) := by decide +kernel
theorem mr_9_90 : zMR 9 90 = some (1, 59) := by decide +kernel
theorem mr_9_102 : zMR 9 102 = some (1, 90) := by decide +kernel
theorem mr_9_106 : zMR 9 106 = some (1, 91) := by decide +kernel
theorem mr_9_112 : zMR 9 112 = some (1, 92) := by decide +kernel
theorem mr_9_120 : zMR 9 120 = some (1, 26) := by decide +kernel
theorem mr_9_126 : zMR 9 126 = some (1, 64) := by decide +kernel
theorem mr_9_130 : zMR 9 130 = some (1, 63) := by decide +kernel
theorem mr_9_133 : zMR 9 133 = some (1, 61) := by decide +kernel
theorem mr_9_136 : zMR 9 136 = some (1, 60) := by decide +kernel
theorem mr_9_139 : zMR 9 139 = some (1, 93) := by decide +kernel
theorem mr_9_142 : zMR 9 142 = some (1, 65) := by decide +kernel
theorem mr_9_146 : zMR 9 146 = some (1, 68) := by decide +kernel
theorem mr_9_150 : zMR 9 150 = some (1, 66) := by decide +kernel
theorem mr_9_153 : zMR 9 153 = some (1, 76) := by decide +kernel
theorem mr_9_166 : zMR 9 166 = some (1, 62) := by decide +kernel
theorem mr_9_169 : zMR 9 169 = some (1, 39) := by decide +kernel
theorem mr_9_172 : zMR 9 172 = some (1, 77) := by decide +kernel
theorem mr_9_191 : zMR 9 191 = some (6, 224) := by decide +kernel
theorem mr_9_196 : zMR 9 196 = some (1, 70) := by decide +kernel
theorem mr_9_199 : zMR 9 199 = some (1, 71) := by decide +kernel
theorem mr_9_202 : zMR 9 202 = some (1, 98) := by decide +kernel
theorem mr_9_208 : zMR 9 208 = some (1, 96) := by decide +kernel
theorem mr_9_211 : zMR 9 211 = some (1, 97) := by decide +kernel
theorem mr_9_217 : zMR 9 217 = some (1, 79) := by decide +kernel
theorem mr_9_220 : zMR 9 220 = some (1, 80) := by decide +kernel
theorem mr_9_224 : zMR 9 224 = some (4, 0) := by decide +kernel
theorem mr_9_230 : zMR 9 230 = some (1, 73) := by decide +kernel
theorem mr_10_1 : zMR 10 1 = some (3, 0) := by decide +kernel
theorem mr_10_9 : zMR 10 9 = some (2, 81) := by decide +kernel
theorem mr_10_18 : zMR 10 18 = some (2, 1) := by decide +kernel
theorem mr_10_33 : zMR 10 33 = some (2, 84) := by decide +kernel
theorem mr_10_41 : zMR 10 41 = some (2, 31) := by decide +kernel
theorem mr_10_53 : zMR 10 53 = some (1, 82) := by decide +kernel
theorem mr_10_62 : zMR 10 62 = some (0, 127) := by decide +kernel
theorem mr_10_71 : zMR 10 71 = some (1, 3) := by decide +kernel
theorem mr_10_75 : zMR 10 75 = some (1, 7) := by decide +kernel
theorem mr_10_84 : zMR 10 84 = some (1, 34) := by decide +kernel
theorem mr_10_101 : zMR 10 101 = some (1, 75) := by decide +kernel
theorem mr_10_119 : zMR 10 119 = some (1, 37) := by decide +kernel
theorem mr_10_125 : zMR 10 125 = some (1, 38) := by decide +kernel
theorem mr_10_130 : zMR 10 130 = some (1, 43) := by decide +kernel
theorem mr_10_133 : zMR 10 133 = some (1, 76) := by decide +kernel
theorem mr_10_137 : zMR 10 137 = some (1, 39) := by decide +kernel
theorem mr_10_153 : zMR 10 153 = some (1, 99) := by decide +kernel
theorem mr_10_183 : zMR 10 183 = some (1, 58) := by decide +kernel
theorem mr_10_187 : zMR 10 187 = some (1, 96) := by decide +kernel
theorem mr_10_192 : zMR 10 192 = some (1, 65) := by decide +kernel
theorem mr_10_203 : zMR 10 203 = some (1, 66) := by decide +kernel
theorem mr_10_206 : zMR 10 206 = some (1, 67) := by decide +kernel
theorem mr_10_209 : zMR 10 209 = some (1, 68) := by decide +kernel
theorem mr_10_213 : zMR 10 213 = some (1, 97) := by decide +kernel
theorem mr_10_218 : zMR 10 218 = some (1, 72) := by decide +kernel
theorem mr_10_233 : zMR 10 233 = some (1, 95) := by decide +kernel
theorem mr_10_241 : zMR 10 241 = some (1, 85) := by decide +kernel
theorem mr_10_246 : zMR 10 246 = some (1, 100) := by decide +kernel
theorem mr_10_249 : zMR 10 249 = some (1, 94) := by decide +kernel
theorem mr_10_258 : zMR 10 258 = some (1, 101) := by decide +kernel
theorem mr_10_269 : zMR 10 269 = some (0, 126) := by decide +kernel
theorem mr_10_273 : zMR 10 273 = some (7, 222) := by decide +kernel
theorem mr_11_3 : zMR 11 3 = some (3, 0) := by decide +kernel
theorem mr_11_103 : zMR 11 103 = some (4, 0) := by decide +kernel
theorem mr_11_128 : zMR 11 128 = some (0, 130) := by decide +kernel
theorem mr_11_132 : zMR 11 132 = some (0, 131) := by decide +kernel
theorem mr_11_135 : zMR 11 135 = some (1, 133) := by decide +kernel
theorem mr_11_139 : zMR 11 139 = some (5, 223) := by decide +kernel
theorem mr_11_145 : zMR 11 145 = some (1, 134) := by decide +kernel
theorem mr_11_148 : zMR 11 148 = some (1, 137) := by decide +kernel
theorem mr_11_152 : zMR 11 152 = some (1, 138) := by decide +kernel
theorem mr_11_156 : zMR 11 156 = some (1, 140) := by decide +kernel
theorem mr_11_160 : zMR 11 160 = some (1, 143) := by decide +kernel
theorem mr_11_164 : zMR 11 164 = some (1, 146) := by decide +kernel
theorem mr_11_167 : zMR 11 167 = some (1, 144) := by decide +kernel
theorem mr_11_170 : zMR 11 170 = some (1, 148) := by decide +kernel
theorem mr_11_173 : zMR 11 173 = some (0, 220) := by decide +kernel
theorem mr_11_178 : zMR 11 178 = some (1, 142) := by decide +kernel
theorem mr_11_182 : zMR 11 182 = some (1, 149) := by decide +kernel
theorem mr_11_186 : zMR 11 186 = some (1, 153) := by decide +kernel
theorem mr_11_189 : zMR 11 189 = some (1, 154) := by decide +kernel
theorem mr_11_193 : zMR 11 193 = some (1, 152) := by decide +kernel
theorem mr_11_196 : zMR 11 196 = some (1, 157) := by decide +kernel
theorem mr_11_199 : zMR 11 199 = some (1, 136) := by decide +kernel
theorem mr_11_202 : zMR 11 202 = some (1, 139) := by decide +kernel
theorem mr_11_206 : zMR 11 206 = some (6, 224) := by decide +kernel
theorem mr_11_209 : zMR 11 209 = some (1, 150) := by decide +kernel
theorem mr_11_212 : zMR 11 212 = some (1, 151) := by decide +kernel
theorem mr_11_215 : zMR 11 215 = some (1, 156) := by decide +kernel
theorem mr_11_221 : zMR 11 221 = some (7, 222) := by decide +kernel
theorem mr_11_224 : zMR 11 224 = some (1, 155) := by decide +kernel
theorem mr_11_227 : zMR 11 227 = some (1, 141) := by decide +kernel
theorem mr_12_1 : zMR 12 1 = some (3, 0) := by decide +kernel
theorem mr_12_37 : zMR 12 37 = some (2, 129) := by decide +kernel
theorem mr_12_51 : zMR 12 51 = some (1, 162) := by decide +kernel
theorem mr_12_55 : zMR 12 55 = some (0, 163) := by decide +kernel
theorem mr_12_59 : zMR 12 59 = some (1, 166) := by decide +kernel
theorem mr_12_62 : zMR 12 62 = some (1, 167) := by decide +kernel
theorem mr_12_66 : zMR 12 66 = some (1, 168) := by decide +kernel
theorem mr_12_69 : zMR 12 69 = some (1, 209) := by decide +kernel
theorem mr_12_74 : zMR 12 74 = some (1, 210) := by decide +kernel
theorem mr_12_78 : zMR 12 78 = some (1, 170) := by decide +kernel
theorem mr_12_85 : zMR 12 85 = some (1, 175) := by decide +kernel
theorem mr_12_95 : zMR 12 95 = some (1, 173) := by decide +kernel
theorem mr_12_99 : zMR 12 99 = some (1, 176) := by decide +kernel
theorem mr_12_108 : zMR 12 108 = some (1, 171) := by decide +kernel
theorem mr_12_124 : zMR 12 124 = some (1, 179) := by decide +kernel
theorem mr_12_127 : zMR 12 127 = some (1, 181) := by decide +kernel
theorem mr_12_130 : zMR 12 130 = some (1, 177) := by decide +kernel
theorem mr_12_134 : zMR 12 134 = some (1, 172) := by decide +kernel
theorem mr_12_137 : zMR 12 137 = some (1, 178) := by decide +kernel
theorem mr_12_150 : zMR 12 150 = some (1, 180) := by decide +kernel
theorem mr_12_162 : zMR 12 162 = some (1, 169) := by decide +kernel
theorem mr_12_165 : zMR 12 165 = some (1, 174) := by decide +kernel
theorem mr_12_168 : zMR 12 168 = some (4, 0) := by decide +kernel
theorem mr_12_174 : zMR 12 174 = some (1, 184) := by decide +kernel
theorem mr_12_181 : zMR 12 181 = some (1, 137) := by decide +kernel
theorem mr_12_185 : zMR 12 185 = some (1, 187) := by decide +kernel
theorem mr_12_191 : zMR 12 191 = some (1, 133) := by decide +kernel
theorem mr_12_197 : zMR 12 197 = some (1, 138) := by decide +kernel
theorem mr_12_207 : zMR 12 207 = some (1, 135) := by decide +kernel
theorem mr_12_210 : zMR 12 210 = some (1, 189) := by decide +kernel
theorem mr_12_213 : zMR 12 213 = some (1, 136) := by decide +kernel
theorem mr_12_216 : zMR 12 216 = some (1, 134) := by decide +kernel
theorem mr_12_222 : zMR 12 222 = some (1, 140) := by decide +kernel
theorem mr_12_225 : zMR 12 225 = some (1, 141) := by decide +kernel
theorem mr_12_228 : zMR 12 228 = some (1, 193) := by decide +kernel
theorem mr_12_234 : zMR 12 234 = some (1, 196) := by decide +kernel
theorem mr_12_274 : zMR 12 274 = some (1, 159) := by decide +kernel
theorem mr_12_286 : zMR 12 286 = some (1, 143) := by decide +kernel
theorem mr_12_290 : zMR 12 290 = some (1, 142) := by decide +kernel
theorem mr_12_294 : zMR 12 294 = some (1, 158) := by decide +kernel
theorem mr_12_303 : zMR 12 303 = some (1, 145) := by decide +kernel
theorem mr_12_309 : zMR 12 309 = some (1, 147) := by decide +kernel
theorem mr_12_312 : zMR 12 312 = some (6, 224) := by decide +kernel
theorem mr_12_317 : zMR 12 317 = some (1, 204) := by decide +kernel
theorem mr_12_323 : zMR 12 323 = some (1, 132) := by decide +kernel
theorem mr_13_7 : zMR 13 7 = some (1, 103) := by decide +kernel
theorem mr_13_15 : zMR 13 15 = some (1, 104) := by decide +kernel
theorem mr_13_21 : zMR 13 21 = some (1, 105) := by decide +kernel
theorem mr_13_26 : zMR 13 26 = some (1, 107) := by decide +kernel
theorem mr_13_30 : zMR 13 30 = some (1, 108) := by decide +kernel
theorem mr_13_34 : zMR 13 34 = some (1, 109) := by decide +kernel
theorem mr_13_37 : zMR 13 37 = some (1, 110) := by decide +kernel
theorem mr_13_40 : zMR 13 40 = some (1, 111) := by decide +kernel
theorem mr_13_44 : zMR 13 44 = some (1, 112) := by decide +kernel
theorem mr_13_47 : zMR 13 47 = some (1, 113) := by decide +kernel
theorem mr_13_50 : zMR 13 50 = some (1, 114) := by decide +kernel
theorem mr_13_54 : zMR 13 54 = some (1, 115) := by decide +kernel
theorem mr_13_57 : zMR 13 57 = some (1, 116) := by decide +kernel
theorem mr_13_60 : zMR 13 60 = some (1, 117) := by decide +kernel
theorem mr_13_63 : zMR 13 63 = some (1, 118) := by decide +kernel
theorem mr_13_66 : zMR 13 66 = some (1, 120) := by decide +kernel
theorem mr_13_69 : zMR 13 69 = some (1, 121) := by decide +kernel
theorem mr_13_72 : zMR 13 72 = some (1, 122) := by decide +kernel
theorem mr_13_75 : zMR 13 75 = some (1, 123) := by decide +kernel
theorem mr_13_78 : zMR 13 78 = some (2, 102) := by decide +kernel
theorem mr_13_81 : zMR 13 81 = some (2, 160) := by decide +kernel
theorem mr_13_82 : zMR 13 82 = some (0, 225) := by decide +kernel
theorem mr_13_87 : zMR 13 87 = some (1, 164) := by decide +kernel
theorem mr_13_88 : zMR 13 88 = some (1, 161) := by decide +kernel
theorem mr_13_91 : zMR 13 91 = some (0, 226) := by decide +kernel
theorem mr_13_94 : zMR 13 94 = some (1, 165) := by decide +kernel
theorem mr_13_95 : zMR 13 95 = some (0, 227) := by decide +kernel
theorem mr_13_97 : zMR 13 97 = some (1, 182) := by decide +kernel
theorem mr_13_98 : zMR 13 98 = some (1, 106) := by decide +kernel
theorem mr_13_101 : zMR 13 101 = some (1, 183) := by decide +kernel
theorem mr_13_102 : zMR 13 102 = some (0, 228) := by decide +kernel
theorem mr_13_105 : zMR 13 105 = some (1, 185) := by decide +kernel
theorem mr_13_106 : zMR 13 106 = some (0, 229) := by decide +kernel
theorem mr_13_109 : zMR 13 109 = some (1, 186) := by decide +kernel
theorem mr_13_110 : zMR 13 110 = some (0, 230) := by decide +kernel
theorem mr_13_112 : zMR 13 112 = some (1, 188) := by decide +kernel
theorem mr_13_113 : zMR 13 113 = some (0, 231) := by decide +kernel
theorem mr_13_115 : zMR 13 115 = some (1, 190) := by decide +kernel
theorem mr_13_116 : zMR 13 116 = some (0, 232) := by decide +kernel
theorem mr_13_119 : zMR 13 119 = some (1, 191) := by decide +kernel
theorem mr_13_120 : zMR 13 120 = some (0, 233) := by decide +kernel
theorem mr_13_122 : zMR 13 122 = some (1, 192) := by decide +kernel
theorem mr_13_123 : zMR 13 123 = some (0, 234) := by decide +kernel
theorem mr_13_125 : zMR 13 125 = some (1, 194) := by decide +kernel
theorem mr_13_126 : zMR 13 126 = some (0, 235) := by decide +kernel
theorem mr_13_129 : zMR 13 129 = some (1, 195) := by decide +kernel
theorem mr_13_130 : zMR 13 130 = some (0, 236) := by decide +kernel
theorem mr_13_132 : zMR 13 132 = some (1, 197) := by decide +kernel
theorem mr_13_133 : zMR 13 133 = some (0, 237) := by decide +kernel
theorem mr_13_135 : zMR 13 135 = some (1, 198) := by decide +kernel
theorem mr_13_136 : zMR 13 136 = some (0, 238) := by decide +kernel
theorem mr_13_138 : zMR 13 138 = some (1, 199) := by decide +kernel
theorem mr_13_139 : zMR 13 139 = some (0, 239) := by decide +kernel
theorem mr_13_141 : zMR 13 141 = some (1, 200) := by decide +kernel
theorem mr_13_142 : zMR 13 142 = some (1, 119) := by decide +kernel
theorem mr_13_145 : zMR 13 145 = some (1, 201) := by decide +kernel
theorem mr_13_146 : zMR 13 146 = some (0, 240) := by decide +kernel
theorem mr_13_148 : zMR 13 148 = some (1, 202) := by decide +kernel
theorem mr_13_149 : zMR 13 149 = some (0, 241) := by decide +kernel
theorem mr_13_151 : zMR 13 151 = some (1, 203) := by decide +kernel
theorem mr_13_152 : zMR 13 152 = some (0, 242) := by decide +kernel
theorem mr_13_154 : zMR 13 154 = some (1, 205) := by decide +kernel
theorem mr_13_155 : zMR 13 155 = some (0, 243) := by decide +kernel
theorem mr_13_157 : zMR 13 157 = some (1, 206) := by decide +kernel
theorem mr_13_158 : zMR 13 158 = some (1, 124) := by decide +kernel
theorem mr_13_162 : zMR 13 162 = some (1, 207) := by decide +kernel
theorem mr_13_163 : zMR 13 163 = some (1, 125) := by decide +kernel
theorem mr_13_167 : zMR 13 167 = some (1, 208) := by decide +kernel
theorem mr_14_335 : zMR 14 335 = some (1, 211) := by decide +kernel
theorem mr_14_492 : zMR 14 492 = some (1, 212) := by decide +kernel
theorem mr_14_495 : zMR 14 495 = some (0, 214) := by decide +kernel
theorem mr_14_498 : zMR 14 498 = some (0, 217) := by decide +kernel
theorem mr_14_1059 : zMR 14 1059 = some (0, 219) := by decide +kernel
theorem mr_15_9 : zMR 15 9 = some (0, 213) := by decide +kernel
theorem nw_1_45 : zNR 1 45 = some (5, 5) := by decide +kernel
theorem nw_1_137 : zNR 1 137 = some (0, 4) := by decide +kernel
theorem nw_3_9 : zNR 3 9 = some (0, 0) := by decide +kernel
theorem nw_6_47 : zNR 6 47 = some (2, 7) := by decide +kernel
theorem nw_7_9 : zNR 7 9 = some (4, 5) := by decide +kernel
theorem nw_9_15 : zNR 9 15 = some (7, 3) := by decide +kernel
theorem nw_9_29 : zNR 9 29 = some (6, 16) := by decide +kernel
theorem nw_10_7 : zNR 10 7 = some (8, 2) := by decide +kernel
theorem nw_10_16 : zNR 10 16 = some (1, 11) := by decide +kernel
theorem nw_10_25 : zNR 10 25 = some (3, 5) := by decide +kernel
theorem nw_10_31 : zNR 10 31 = some (9, 9) := by decide +kernel
theorem nw_12_35 : zNR 12 35 = some (11, 36) := by decide +kernel
theorem nw_13_8 : zNR 13 8 = some (10, 5) := by decide +kernel
theorem nw_13_79 : zNR 13 79 = some (12, 18) := by decide +kernel
theorem nx_10_46 : zNR 10 46 = none := by decide +kernel
theorem xr_10_46 : zXR 10 46 = some 0 := by decide +kernel
theorem nx_10_57 : zNR 10 57 = none := by decide +kernel
theorem xr_10_57 : zXR 10 57 = some 1 := by decide +kernel
theorem nx_10_66 : zNR 10 66 = none := by decide +kernel
theorem xr_10_66 : zXR 10 66 = some 2 := by decide +kernel
theorem sl_11_218 : zSR 11 218 = some (zE 4) := by rfl
theorem sl_12_104 : zSR 12 104 = some (zE 1) := by rfl
theorem sl_12_112 : zSR 12 112 = some (zE 2) := by rfl
theorem sl_12_115 : zSR 12 115 = some (zE 3) := by rfl
theorem sl_12_118 : zSR 12 118 = some (zE 5) := by rfl
theorem sl_12_156 : zSR 12 156 = some (zE 6) := by rfl
theorem sl_12_159 : zSR 12 159 = some (zE 7) := by rfl
theorem sl_14_38 : zSR 14 38 = some (zI 1) := by rfl
theorem sl_14_1053 : zSR 14 1053 = some (zE 8) := by rfl
section ZENT
variable {xs : Nat → Int} {xl d : Nat} {m : zM} {Q : zRes → zM → Prop}
theorem zk_0 {a0 : Nat} {a1 : Int} {a2 : Int} {a3 : Int} {a4 : Int} (h : zW xs xl d cX0_init 0 (none) true [] 0 [zR a0, zI a1, zI a2, zI a3, zI a4] [] m Q) : zC xs xl (d + 1) 0 [zR a0, zI a1, zI a2, zI a3, zI a4] m Q := (zC_in (K := 0) (by simp []) (Nat.le_of_ble_eq_true rfl)).mpr h
theorem zk_1 {a0 : Nat} {a1 : Nat} (h : zW xs xl d cX1_init 1 (none) true [] 0 [zR a0, zR a1] [] m Q) : zC xs xl (d + 1) 1 [zR a0, zR a1] m Q := (zC_in (K := 1) (by simp []) (Nat.le_of_ble_eq_true rfl)).mpr h
theorem zk_2 {a0 : Nat} {a1 : Int} {a2 : Int} (h : zW xs xl d cX1_fail 1 (some .int) false [] 0 [zR a0, zI a1, zI a2] [] m Q) : zC xs xl (d + 1) 2 [zR a0, zI a1, zI a2] m Q := (zC_in (K := 2) (by simp []) (Nat.le_of_ble_eq_true rfl)).mpr h
theorem zk_3 {a0 : Nat} (h : zW xs xl d cX1_formError 1 (some .int) false [] 0 [zR a0] [] m Q) : zC xs xl (d + 1) 3 [zR a0] m Q := (zC_in (K := 3) (by simp []) (Nat.le_of_ble_eq_true rfl)).mpr h
theorem zk_4 {a0 : Nat} (h : zW xs xl d cX1_isWellFormed 1 (some .boolean) false [] 0 [zR a0, zU, zU, zU, zU] [] m Q) : zC xs xl (d + 1) 4 [zR a0] m Q := (zC_in (K := 4) (by simp []) (Nat.le_of_ble_eq_true rfl)).mpr h
theorem zk_5 {a0 : Nat} {a1 : Int} (h : zW xs xl d cX1_hasRestOf 1 (some .boolean) false [] 0 [zR a0, zI a1, zU, zU] [] m Q) : zC xs xl (d + 1) 5 [zR a0, zI a1] m Q := (zC_in (K := 5) (by simp []) (Nat.le_of_ble_eq_true rfl)).mpr h
theorem zk_6 {a0 : Int} (h : zW xs xl d cX1_formOf 1 (some (.object "java/lang/String")) false [] 0 [zI a0] [] m Q) : zC xs xl (d + 1) 6 [zI a0] m Q := (zC_in (K := 6) (by simp []) (Nat.le_of_ble_eq_true rfl)).mpr h
theorem zk_7 {a0 : Nat} {a1 : Nat} (h : zW xs xl d cX1_goThrough 1 (some .int) false [] 0 [zR a0, zR a1, zU, zU] [] m Q) : zC xs xl (d + 1) 7 [zR a0, zR a1] m Q := (zC_in (K := 7) (by simp []) (Nat.le_of_ble_eq_true rfl)).mpr h
theorem zk_8 {a0 : Nat} {a1 : Nat} (h : zW xs xl d cX1_doStep 1 (some .int) false [] 0 [zR a0, zR a1, zU, zU, zU, zU] [] m Q) : zC xs xl (d + 1) 8 [zR a0, zR a1] m Q := (zC_in (K := 8) (by simp []) (Nat.le_of_ble_eq_true rfl)).mpr h
theorem zk_9 {a0 : Nat} {a1 : Int} (h : zW xs xl d cX1_readValues 1 (none) false [] 0 [zR a0, zI a1, zU, zU] [] m Q) : zC xs xl (d + 1) 9 [zR a0, zI a1] m Q := (zC_in (K := 9) (by simp []) (Nat.le_of_ble_eq_true rfl)).mpr h
theorem zk_10 {a0 : Nat} {a1 : Int} {a2 : Nat} (h : zW xs xl d cX1_errorAtWord 1 (some .int) false [] 0 [zR a0, zI a1, zR a2] [] m Q) : zC xs xl (d + 1) 10 [zR a0, zI a1, zR a2] m Q := (zC_in (K := 10) (by simp []) (Nat.le_of_ble_eq_true rfl)).mpr h
theorem zk_11 {a0 : Nat} {a1 : Int} (h : zW xs xl d cX1_isOutOfTurn 1 (some .boolean) false [] 0 [zR a0, zI a1, zU] [] m Q) : zC xs xl (d + 1) 11 [zR a0, zI a1] m Q := (zC_in (K := 11) (by simp []) (Nat.le_of_ble_eq_true rfl)).mpr h
theorem zk_12 {a0 : Nat} {a1 : Int} (h : zW xs xl d cX1_wrongNumber 1 (some .int) false [] 0 [zR a0, zI a1, zU, zU] [] m Q) : zC xs xl (d + 1) 12 [zR a0, zI a1] m Q := (zC_in (K := 12) (by simp []) (Nat.le_of_ble_eq_true rfl)).mpr h
theorem zk_13 {a0 : Int} {a1 : Int} (h : zW xs xl d cX1_isAllowed 1 (some .boolean) false [] 0 [zI a0, zI a1] [] m Q) : zC xs xl (d + 1) 13 [zI a0, zI a1] m Q := (zC_in (K := 13) (by simp []) (Nat.le_of_ble_eq_true rfl)).mpr h
theorem zk_14 {a0 : Nat} {a1 : Int} (h : zW xs xl d cX1_follow 1 (none) false [] 0 [zR a0, zI a1] [] m Q) : zC xs xl (d + 1) 14 [zR a0, zI a1] m Q := (zC_in (K := 14) (by simp []) (Nat.le_of_ble_eq_true rfl)).mpr h
theorem zk_15 {a0 : Nat} (h : zW xs xl d cX1_beginLoop 1 (none) false [] 0 [zR a0] [] m Q) : zC xs xl (d + 1) 15 [zR a0] m Q := (zC_in (K := 15) (by simp []) (Nat.le_of_ble_eq_true rfl)).mpr h
theorem zk_16 {a0 : Nat} (h : zW xs xl d cX1_endRound 1 (none) false [] 0 [zR a0, zU] [] m Q) : zC xs xl (d + 1) 16 [zR a0] m Q := (zC_in (K := 16) (by simp []) (Nat.le_of_ble_eq_true rfl)).mpr h
theorem zk_17 {a0 : Nat} (h : zW xs xl d cX2_init 2 (none) true [] 0 [zR a0] [] m Q) : zC xs xl (d + 1) 17 [zR a0] m Q := (zC_in (K := 17) (by simp []) (Nat.le_of_ble_eq_true rfl)).mpr h
theorem zk_18 {a0 : Nat} {a1 : Int} {a2 : Int} (h : zW xs xl d cX2_appear 2 (none) false [] 0 [zR a0, zI a1, zI a2] [] m Q) : zC xs xl (d + 1) 18 [zR a0, zI a1, zI a2] m Q := (zC_in (K := 18) (by simp []) (Nat.le_of_ble_eq_true rfl)).mpr h
theorem zk_19 {a0 : Nat} (h : zW xs xl d cX2_vanish 2 (none) false [] 0 [zR a0] [] m Q) : zC xs xl (d + 1) 19 [zR a0] m Q := (zC_in (K := 19) (by simp []) (Nat.le_of_ble_eq_true rfl)).mpr h
theorem zk_20 {a0 : Nat} (h : zW xs xl d cX2_soak 2 (none) false [] 0 [zR a0] [] m Q) : zC xs xl (d + 1) 20 [zR a0] m Q := (zC_in (K := 20) (by simp []) (Nat.le_of_ble_eq_true rfl)).mpr h
theorem zk_21 {a0 : Nat} (h : zW xs xl d cX2_warm 2 (none) false [] 0 [zR a0] [] m Q) : zC xs xl (d + 1) 21 [zR a0] m Q := (zC_in (K := 21) (by simp []) (Nat.le_of_ble_eq_true rfl)).mpr h
theorem zk_22 {a0 : Nat} (h : zW xs xl d cX2_isBurning 2 (some .boolean) false [] 0 [zR a0] [] m Q) : zC xs xl (d + 1) 22 [zR a0] m Q := (zC_in (K := 22) (by simp []) (Nat.le_of_ble_eq_true rfl)).mpr h
theorem zk_23 {a0 : Nat} (h : zW xs xl d cX2_settle 2 (none) false [] 0 [zR a0] [] m Q) : zC xs xl (d + 1) 23 [zR a0] m Q := (zC_in (K := 23) (by simp []) (Nat.le_of_ble_eq_true rfl)).mpr h
theorem zk_24 {a0 : Nat} {a1 : Int} (h : zW xs xl d cX2_cool 2 (none) false [] 0 [zR a0, zI a1] [] m Q) : zC xs xl (d + 1) 24 [zR a0, zI a1] m Q := (zC_in (K := 24) (by simp []) (Nat.le_of_ble_eq_true rfl)).mpr h
theorem zk_25 {a0 : Nat} {a1 : Int} (h : zW xs xl d cX2_dry 2 (none) false [] 0 [zR a0, zI a1] [] m Q) : zC xs xl (d + 1) 25 [zR a0, zI a1] m Q := (zC_in (K := 25) (by simp []) (Nat.le_of_ble_eq_true rfl)).mpr h
theorem zk_26 {a0 : Nat} {a1 : Nat} (h : zW xs xl d cX2_bendTowards 2 (some .int) false [] 0 [zR a0, zR a1, zU, zU] [] m Q) : zC xs xl (d + 1) 26 [zR a0, zR a1] m Q := (zC_in (K := 26) (by simp []) (Nat.le_of_ble_eq_true rfl)).mpr h
theorem zk_27 {a0 : Nat} (h : zW xs xl d cX2_stiffness 2 (some .int) false [] 0 [zR a0] [] m Q) : zC xs xl (d + 1) 27 [zR a0] m Q := (zC_in (K := 27) (by simp []) (Nat.le_of_ble_eq_true rfl)).mpr h
theorem zk_28 {a0 : Nat} (h : zW xs xl d cX2_isAsMeant 2 (some .boolean) false [] 0 [zR a0, zU] [] m Q) : zC xs xl (d + 1) 28 [zR a0] m Q := (zC_in (K := 28) (by simp []) (Nat.le_of_ble_eq_true rfl)).mpr h
theorem zk_29 {a0 : Nat} (h : zW xs xl d cX2_springBack 2 (some .int) false [] 0 [zR a0, zU, zU] [] m Q) : zC xs xl (d + 1) 29 [zR a0] m Q := (zC_in (K := 29) (by simp []) (Nat.le_of_ble_eq_true rfl)).mpr h
theorem zk_30 {a0 : Nat} {a1 : Nat} (h : zW xs xl d cX2_copyFrom 2 (none) false [] 0 [zR a0, zR a1] [] m Q) : zC xs xl (d + 1) 30 [zR a0, zR a1] m Q := (zC_in (K := 30) (by simp []) (Nat.le_of_ble_eq_true rfl)).mpr h
theorem zk_31 {a0 : Nat} (h : zW xs xl d cX3_init 3 (none) true [] 0 [zR a0] [] m Q) : zC xs xl (d + 1) 31 [zR a0] m Q := (zC_in (K := 31) (by simp []) (Nat.le_of_ble_eq_true rfl)).mpr h
theorem zk_32 {a0 : Nat} {a1 : Nat} (h : zW xs xl d cX3_append 3 (none) false [] 0 [zR a0, zR a1, zU] [] m Q) : zC xs xl (d + 1) 32 [zR a0, zR a1] m Q := (zC_in (K := 32) (by simp []) (Nat.le_of_ble_eq_true rfl)).mpr h
theorem zk_33 {a0 : Nat} {a1 : Int} (h : zW xs xl d cX3_at 3 (some (.object "BendYard$Action")) false [] 0 [zR a0, zI a1] [] m Q) : zC xs xl (d + 1) 33 [zR a0, zI a1] m Q := (zC_in (K := 33) (by simp []) (Nat.le_of_ble_eq_true rfl)).mpr h
theorem zk_34 {a0 : Nat} {a1 : Int} (h : zW xs xl d cX3_tell 3 (some .int) false [] 0 [zR a0, zI a1] [] m Q) : zC xs xl (d + 1) 34 [zR a0, zI a1] m Q := (zC_in (K := 34) (by simp []) (Nat.le_of_ble_eq_true rfl)).mpr h
theorem zk_35 {a0 : Nat} (h : zW xs xl d cX4_init 4 (none) true [] 0 [zR a0] [] m Q) : zC xs xl (d + 1) 35 [zR a0] m Q := (zC_in (K := 35) (by simp []) (Nat.le_of_ble_eq_true rfl)).mpr h
theorem zk_36 {a0 : Nat} {a1 : Int} {a2 : Int} {a3 : Int} (h : zW xs xl d cX4_become 4 (none) false [] 0 [zR a0, zI a1, zI a2, zI a3] [] m Q) : zC xs xl (d + 1) 36 [zR a0, zI a1, zI a2, zI a3] m Q := (zC_in (K := 36) (by simp []) (Nat.le_of_ble_eq_true rfl)).mpr h
theorem zk_37 {a0 : Nat} {a1 : Int} (h : zW xs xl d cX4_hasKnotAt 4 (some .boolean) false [] 0 [zR a0, zI a1, zU] [] m Q) : zC xs xl (d + 1) 37 [zR a0, zI a1] m Q := (zC_in (K := 37) (by simp []) (Nat.le_of_ble_eq_true rfl)).mpr h
theorem zk_38 {a0 : Nat} {a1 : Int} (h : zW xs xl d cX4_insertKnot 4 (none) false [] 0 [zR a0, zI a1, zU] [] m Q) : zC xs xl (d + 1) 38 [zR a0, zI a1] m Q := (zC_in (K := 38) (by simp []) (Nat.le_of_ble_eq_true rfl)).mpr h
theorem zk_39 {a0 : Nat} {a1 : Int} (h : zW xs xl d cX4_clearPlaceFor 4 (some .int) false [] 0 [zR a0, zI a1, zU, zU] [] m Q) : zC xs xl (d + 1) 39 [zR a0, zI a1] m Q := (zC_in (K := 39) (by simp []) (Nat.le_of_ble_eq_true rfl)).mpr h
theorem zk_40 {a0 : Nat} (h : zW xs xl d cX4_mostClear 4 (some .int) false [] 0 [zR a0, zU, zU, zU] [] m Q) : zC xs xl (d + 1) 40 [zR a0] m Q := (zC_in (K := 40) (by simp []) (Nat.le_of_ble_eq_true rfl)).mpr h
theorem zk_41 {a0 : Nat} {a1 : Nat} {a2 : Int} (h : zW xs xl d cX4_becomeEndOf 4 (none) false [] 0 [zR a0, zR a1, zI a2, zU] [] m Q) : zC xs xl (d + 1) 41 [zR a0, zR a1, zI a2] m Q := (zC_in (K := 41) (by simp []) (Nat.le_of_ble_eq_true rfl)).mpr h
theorem zk_42 {a0 : Nat} {a1 : Int} (h : zW xs xl d cX4_shorten 4 (none) false [] 0 [zR a0, zI a1, zU, zU] [] m Q) : zC xs xl (d + 1) 42 [zR a0, zI a1] m Q := (zC_in (K := 42) (by simp []) (Nat.le_of_ble_eq_true rfl)).mpr h
theorem zk_43 {a0 : Nat} {a1 : Int} (h : zW xs xl d cX4_tell 4 (some .int) false [] 0 [zR a0, zI a1] [] m Q) : zC xs xl (d + 1) 43 [zR a0, zI a1] m Q := (zC_in (K := 43) (by simp []) (Nat.le_of_ble_eq_true rfl)).mpr h
theorem zk_44 {a0 : Nat} {a1 : Nat} (h : zW xs xl d cX4_copyFrom 4 (none) false [] 0 [zR a0, zR a1] [] m Q) : zC xs xl (d + 1) 44 [zR a0, zR a1] m Q := (zC_in (K := 44) (by simp []) (Nat.le_of_ble_eq_true rfl)).mpr h
theorem zk_45 {a0 : Nat} {a1 : Nat} (h : zW xs xl d cX5_init 5 (none) true [] 0 [zR a0, zR a1] [] m Q) : zC xs xl (d + 1) 45 [zR a0, zR a1] m Q := (zC_in (K := 45) (by simp []) (Nat.le_of_ble_eq_true rfl)).mpr h
theorem zk_46 {a0 : Nat} (h : zW xs xl d cX5_placeBehind 5 (some .int) false [] 0 [zR a0] [] m Q) : zC xs xl (d + 1) 46 [zR a0] m Q := (zC_in (K := 46) (by simp []) (Nat.le_of_ble_eq_true rfl)).mpr h
theorem zk_47 {a0 : Nat} {a1 : Int} (h : zW xs xl d cX5_goTo 5 (none) false [] 0 [zR a0, zI a1] [] m Q) : zC xs xl (d + 1) 47 [zR a0, zI a1] m Q := (zC_in (K := 47) (by simp []) (Nat.le_of_ble_eq_true rfl)).mpr h
theorem zk_48 {a0 : Nat} (h : zW xs xl d cX5_next 5 (none) false [] 0 [zR a0, zU] [] m Q) : zC xs xl (d + 1) 48 [zR a0] m Q := (zC_in (K := 48) (by simp []) (Nat.le_of_ble_eq_true rfl)).mpr h
theorem zk_49 {a0 : Nat} (h : zW xs xl d cX5_readWord 5 (none) false [] 0 [zR a0, zU, zU] [] m Q) : zC xs xl (d + 1) 49 [zR a0] m Q := (zC_in (K := 49) (by simp []) (Nat.le_of_ble_eq_true rfl)).mpr h
theorem zk_50 {a0 : Nat} (h : zW xs xl d cX5_readNumber 5 (none) false [] 0 [zR a0] [] m Q) : zC xs xl (d + 1) 50 [zR a0] m Q := (zC_in (K := 50) (by simp []) (Nat.le_of_ble_eq_true rfl)).mpr h
theorem zk_51 {a0 : Nat} {a1 : Nat} {a2 : Int} (h : zW xs xl d cX5_isAmong 5 (some .boolean) false [] 0 [zR a0, zE a1, zL a2, zU, zU, zU, zU] [] m Q) : zC xs xl (d + 1) 51 [zR a0, zE a1, zL a2] m Q := (zC_in (K := 51) (by simp []) (Nat.le_of_ble_eq_true rfl)).mpr h
theorem zk_52 {a0 : Int} {a2 : Int} (h : zW xs xl d cX5_withLetter 5 (some .long) false [] 0 [zL a0, zU, zI a2] [] m Q) : zC xs xl (d + 1) 52 [zL a0, zI a2] m Q := (zC_in (K := 52) (by simp []) (Nat.le_of_ble_eq_true rfl)).mpr h
theorem zk_53 {a0 : Int} (h : zW xs xl d cX5_isBlank 5 (some .boolean) false [] 0 [zI a0] [] m Q) : zC xs xl (d + 1) 53 [zI a0] m Q := (zC_in (K := 53) (by simp []) (Nat.le_of_ble_eq_true rfl)).mpr h
theorem zk_54 {a0 : Int} (h : zW xs xl d cX5_isLetter 5 (some .boolean) false [] 0 [zI a0] [] m Q) : zC xs xl (d + 1) 54 [zI a0] m Q := (zC_in (K := 54) (by simp []) (Nat.le_of_ble_eq_true rfl)).mpr h
theorem zk_55 {a0 : Int} (h : zW xs xl d cX5_isDigit 5 (some .boolean) false [] 0 [zI a0] [] m Q) : zC xs xl (d + 1) 55 [zI a0] m Q := (zC_in (K := 55) (by simp []) (Nat.le_of_ble_eq_true rfl)).mpr h
theorem zk_56 {a0 : Int} (h : zW xs xl d cX5_isSymbol 5 (some .boolean) false [] 0 [zI a0] [] m Q) : zC xs xl (d + 1) 56 [zI a0] m Q := (zC_in (K := 56) (by simp []) (Nat.le_of_ble_eq_true rfl)).mpr h
theorem zk_57 {a0 : Nat} (h : zW xs xl d cX6_init 6 (none) true [] 0 [zR a0] [] m Q) : zC xs xl (d + 1) 57 [zR a0] m Q := (zC_in (K := 57) (by simp []) (Nat.le_of_ble_eq_true rfl)).mpr h
theorem zk_58 {a0 : Nat} {a1 : Nat} {a2 : Int} {a3 : Int} {a4 : Int} (h : zW xs xl d cX6_begin 6 (none) false [] 0 [zR a0, zR a1, zI a2, zI a3, zI a4] [] m Q) : zC xs xl (d + 1) 58 [zR a0, zR a1, zI a2, zI a3, zI a4] m Q := (zC_in (K := 58) (by simp []) (Nat.le_of_ble_eq_true rfl)).mpr h
theorem zk_59 {a0 : Nat} (h : zW xs xl d cX6_action 6 (some (.object "BendYard$Action")) false [] 0 [zR a0] [] m Q) : zC xs xl (d + 1) 59 [zR a0] m Q := (zC_in (K := 59) (by simp []) (Nat.le_of_ble_eq_true rfl)).mpr h
theorem zk_60 {a0 : Nat} (h : zW xs xl d cX6_goOn 6 (none) false [] 0 [zR a0] [] m Q) : zC xs xl (d + 1) 60 [zR a0] m Q := (zC_in (K := 60) (by simp []) (Nat.le_of_ble_eq_true rfl)).mpr h
theorem zk_61 {a0 : Nat} (h : zW xs xl d cX6_losePiece 6 (none) false [] 0 [zR a0] [] m Q) : zC xs xl (d + 1) 61 [zR a0] m Q := (zC_in (K := 61) (by simp []) (Nat.le_of_ble_eq_true rfl)).mpr h
theorem zk_62 {a0 : Nat} {a1 : Int} {a2 : Int} (h : zW xs xl d cX6_getPiece 6 (none) false [] 0 [zR a0, zI a1, zI a2] [] m Q) : zC xs xl (d + 1) 62 [zR a0, zI a1, zI a2] m Q := (zC_in (K := 62) (by simp []) (Nat.le_of_ble_eq_true rfl)).mpr h
theorem zk_63 {a0 : Nat} {a1 : Nat} (h : zW xs xl d cX6_treatPiece 6 (some .int) false [] 0 [zR a0, zR a1] [] m Q) : zC xs xl (d + 1) 63 [zR a0, zR a1] m Q := (zC_in (K := 63) (by simp []) (Nat.le_of_ble_eq_true rfl)).mpr h
theorem zk_64 {a0 : Nat} (h : zW xs xl d cX6_fitPiece 6 (some .int) false [] 0 [zR a0, zU] [] m Q) : zC xs xl (d + 1) 64 [zR a0] m Q := (zC_in (K := 64) (by simp []) (Nat.le_of_ble_eq_true rfl)).mpr h
theorem zk_65 {a0 : Nat} {a1 : Int} (h : zW xs xl d cX6_holds 6 (some .boolean) false [] 0 [zR a0, zI a1] [] m Q) : zC xs xl (d + 1) 65 [zR a0, zI a1] m Q := (zC_in (K := 65) (by simp []) (Nat.le_of_ble_eq_true rfl)).mpr h
theorem zk_66 {a0 : Nat} {a1 : Int} (h : zW xs xl d cX6_release 6 (none) false [] 0 [zR a0, zI a1] [] m Q) : zC xs xl (d + 1) 66 [zR a0, zI a1] m Q := (zC_in (K := 66) (by simp []) (Nat.le_of_ble_eq_true rfl)).mpr h
theorem zk_67 {a0 : Nat} {a1 : Int} (h : zW xs xl d cX6_receive 6 (none) false [] 0 [zR a0, zI a1] [] m Q) : zC xs xl (d + 1) 67 [zR a0, zI a1] m Q := (zC_in (K := 67) (by simp []) (Nat.le_of_ble_eq_true rfl)).mpr h
theorem zk_68 {a0 : Nat} {a1 : Int} {a2 : Int} {a3 : Int} (h : zW xs xl d cX6_await 6 (none) false [] 0 [zR a0, zI a1, zI a2, zI a3] [] m Q) : zC xs xl (d + 1) 68 [zR a0, zI a1, zI a2, zI a3] m Q := (zC_in (K := 68) (by simp []) (Nat.le_of_ble_eq_true rfl)).mpr h
theorem zk_69 {a0 : Nat} (h : zW xs xl d cX6_isWaiting 6 (some .boolean) false [] 0 [zR a0] [] m Q) : zC xs xl (d + 1) 69 [zR a0] m Q := (zC_in (K := 69) (by simp []) (Nat.le_of_ble_eq_true rfl)).mpr h
theorem zk_70 {a0 : Nat} {a1 : Int} (h : zW xs xl d cX6_couldEnd 6 (some .boolean) false [] 0 [zR a0, zI a1] [] m Q) : zC xs xl (d + 1) 70 [zR a0, zI a1] m Q := (zC_in (K := 70) (by simp []) (Nat.le_of_ble_eq_true rfl)).mpr h
theorem zk_71 {a0 : Nat} (h : zW xs xl d cX6_heldSorts 6 (some .int) false [] 0 [zR a0] [] m Q) : zC xs xl (d + 1) 71 [zR a0] m Q := (zC_in (K := 71) (by simp []) (Nat.le_of_ble_eq_true rfl)).mpr h
theorem zk_72 {a0 : Nat} {a1 : Int} (h : zW xs xl d cX6_tell 6 (some .int) false [] 0 [zR a0, zI a1] [] m Q) : zC xs xl (d + 1) 72 [zR a0, zI a1] m Q := (zC_in (K := 72) (by simp []) (Nat.le_of_ble_eq_true rfl)).mpr h
theorem zk_73 {a0 : Nat} {a1 : Nat} (h : zW xs xl d cX6_copyFrom 6 (none) false [] 0 [zR a0, zR a1] [] m Q) : zC xs xl (d + 1) 73 [zR a0, zR a1] m Q := (zC_in (K := 73) (by simp []) (Nat.le_of_ble_eq_true rfl)).mpr h
theorem zk_74 {a0 : Nat} (h : zW xs xl d cX7_init 7 (none) true [] 0 [zR a0, zU] [] m Q) : zC xs xl (d + 1) 74 [zR a0] m Q := (zC_in (K := 74) (by simp []) (Nat.le_of_ble_eq_true rfl)).mpr h
theorem zk_75 {a0 : Nat} {a1 : Int} {a2 : Int} {a3 : Int} (h : zW xs xl d cX7_add 7 (some .int) false [] 0 [zR a0, zI a1, zI a2, zI a3] [] m Q) : zC xs xl (d + 1) 75 [zR a0, zI a1, zI a2, zI a3] m Q := (zC_in (K := 75) (by simp []) (Nat.le_of_ble_eq_true rfl)).mpr h
theorem zk_76 {a0 : Nat} {a1 : Int} {a2 : Int} (h : zW xs xl d cX7_plankFor 7 (some .int) false [] 0 [zR a0, zI a1, zI a2, zU, zU, zU, zU] [] m Q) : zC xs xl (d + 1) 76 [zR a0, zI a1, zI a2] m Q := (zC_in (K := 76) (by simp []) (Nat.le_of_ble_eq_true rfl)).mpr h
theorem zk_77 {a0 : Nat} {a1 : Nat} {a2 : Int} {a3 : Int} (h : zW xs xl d cX7_cutAway 7 (none) false [] 0 [zR a0, zR a1, zI a2, zI a3, zU, zU] [] m Q) : zC xs xl (d + 1) 77 [zR a0, zR a1, zI a2, zI a3] m Q := (zC_in (K := 77) (by simp []) (Nat.le_of_ble_eq_true rfl)).mpr h
theorem zk_78 {a0 : Nat} (h : zW xs xl d cX7_moveWetness 7 (none) false [] 0 [zR a0, zU] [] m Q) : zC xs xl (d + 1) 78 [zR a0] m Q := (zC_in (K := 78) (by simp []) (Nat.le_of_ble_eq_true rfl)).mpr h
theorem zk_79 {a0 : Nat} (h : zW xs xl d cX7_lengthOfAll 7 (some .int) false [] 0 [zR a0, zU, zU] [] m Q) : zC xs xl (d + 1) 79 [zR a0] m Q := (zC_in (K := 79) (by simp []) (Nat.le_of_ble_eq_true rfl)).mpr h
theorem zk_80 {a0 : Nat} {a1 : Nat} (h : zW xs xl d cX7_copyFrom 7 (none) false [] 0 [zR a0, zR a1, zU] [] m Q) : zC xs xl (d + 1) 80 [zR a0, zR a1] m Q := (zC_in (K := 80) (by simp []) (Nat.le_of_ble_eq_true rfl)).mpr h
theorem zk_81 {a0 : Nat} (h : zW xs xl d cX8_init 8 (none) true [] 0 [zR a0] [] m Q) : zC xs xl (d + 1) 81 [zR a0] m Q := (zC_in (K := 81) (by simp []) (Nat.le_of_ble_eq_true rfl)).mpr h
theorem zk_82 {a0 : Nat} {a1 : Int} (h : zW xs xl d cX8_append 8 (none) false [] 0 [zR a0, zI a1, zU] [] m Q) : zC xs xl (d + 1) 82 [zR a0, zI a1] m Q := (zC_in (K := 82) (by simp []) (Nat.le_of_ble_eq_true rfl)).mpr h
theorem zk_83 {a0 : Nat} {a1 : Int} (h : zW xs xl d cX8_at 8 (some .int) false [] 0 [zR a0, zI a1] [] m Q) : zC xs xl (d + 1) 83 [zR a0, zI a1] m Q := (zC_in (K := 83) (by simp []) (Nat.le_of_ble_eq_true rfl)).mpr h
theorem zk_84 {a0 : Nat} (h : zW xs xl d cX9_init 9 (none) true [] 0 [zR a0, zU] [] m Q) : zC xs xl (d + 1) 84 [zR a0] m Q := (zC_in (K := 84) (by simp []) (Nat.le_of_ble_eq_true rfl)).mpr h
theorem zk_85 {a0 : Nat} (h : zW xs xl d cX9_passTick 9 (none) false [] 0 [zR a0, zU] [] m Q) : zC xs xl (d + 1) 85 [zR a0] m Q := (zC_in (K := 85) (by simp []) (Nat.le_of_ble_eq_true rfl)).mpr h
theorem zk_86 {a0 : Nat} (h : zW xs xl d cX9_grantFrames 9 (none) false [] 0 [zR a0, zU, zU, zU, zU] [] m Q) : zC xs xl (d + 1) 86 [zR a0] m Q := (zC_in (K := 86) (by simp []) (Nat.le_of_ble_eq_true rfl)).mpr h
theorem zk_87 {a0 : Nat} {a1 : Int} (h : zW xs xl d cX9_longestWaiting 9 (some .int) false [] 0 [zR a0, zI a1, zU, zU, zU] [] m Q) : zC xs xl (d + 1) 87 [zR a0, zI a1] m Q := (zC_in (K := 87) (by simp []) (Nat.le_of_ble_eq_true rfl)).mpr h
theorem zk_88 {a0 : Nat} {a1 : Nat} (h : zW xs xl d cX9_work 9 (some .int) false [] 0 [zR a0, zR a1, zU] [] m Q) : zC xs xl (d + 1) 88 [zR a0, zR a1] m Q := (zC_in (K := 88) (by simp []) (Nat.le_of_ble_eq_true rfl)).mpr h
theorem zk_89 {a0 : Nat} {a1 : Int} {a2 : Int} (h : zW xs xl d cX9_settle 9 (none) false [] 0 [zR a0, zI a1, zI a2, zU] [] m Q) : zC xs xl (d + 1) 89 [zR a0, zI a1, zI a2] m Q := (zC_in (K := 89) (by simp []) (Nat.le_of_ble_eq_true rfl)).mpr h
theorem zk_90 {a0 : Nat} {a1 : Nat} {a2 : Int} (h : zW xs xl d cX9_takeFrame 9 (some .int) false [] 0 [zR a0, zR a1, zI a2] [] m Q) : zC xs xl (d + 1) 90 [zR a0, zR a1, zI a2] m Q := (zC_in (K := 90) (by simp []) (Nat.le_of_ble_eq_true rfl)).mpr h
theorem zk_91 {a0 : Nat} {a1 : Nat} {a2 : Int} (h : zW xs xl d cX9_giveFrame 9 (some .int) false [] 0 [zR a0, zR a1, zI a2] [] m Q) : zC xs xl (d + 1) 91 [zR a0, zR a1, zI a2] m Q := (zC_in (K := 91) (by simp []) (Nat.le_of_ble_eq_true rfl)).mpr h
theorem zk_92 {a0 : Nat} {a1 : Nat} {a2 : Int} {a3 : Int} (h : zW xs xl d cX9_cutPiece 9 (some .int) false [] 0 [zR a0, zR a1, zI a2, zI a3, zU, zU] [] m Q) : zC xs xl (d + 1) 92 [zR a0, zR a1, zI a2, zI a3] m Q := (zC_in (K := 92) (by simp []) (Nat.le_of_ble_eq_true rfl)).mpr h
theorem zk_93 {a0 : Nat} {a1 : Int} (h : zW xs xl d cX9_finishHull 9 (none) false [] 0 [zR a0, zI a1, zU, zU] [] m Q) : zC xs xl (d + 1) 93 [zR a0, zI a1] m Q := (zC_in (K := 93) (by simp []) (Nat.le_of_ble_eq_true rfl)).mpr h
theorem zk_94 {a0 : Nat} (h : zW xs xl d cX9_keptHulls 9 (some .int) false [] 0 [zR a0] [] m Q) : zC xs xl (d + 1) 94 [zR a0] m Q := (zC_in (K := 94) (by simp []) (Nat.le_of_ble_eq_true rfl)).mpr h
theorem zk_95 {a0 : Nat} (h : zW xs xl d cX9_stuckSlips 9 (some .int) false [] 0 [zR a0, zU, zU, zU] [] m Q) : zC xs xl (d + 1) 95 [zR a0] m Q := (zC_in (K := 95) (by simp []) (Nat.le_of_ble_eq_true rfl)).mpr h
theorem zk_96 {a0 : Nat} (h : zW xs xl d cX9_buildingSlips 9 (some .int) false [] 0 [zR a0, zU, zU] [] m Q) : zC xs xl (d + 1) 96 [zR a0] m Q := (zC_in (K := 96) (by simp []) (Nat.le_of_ble_eq_true rfl)).mpr h
theorem zk_97 {a0 : Nat} (h : zW xs xl d cX9_waitingSlips 9 (some .int) false [] 0 [zR a0, zU, zU] [] m Q) : zC xs xl (d + 1) 97 [zR a0] m Q := (zC_in (K := 97) (by simp []) (Nat.le_of_ble_eq_true rfl)).mpr h
theorem zk_98 {a0 : Nat} {a1 : Int} (h : zW xs xl d cX9_slipsWaitingFor 9 (some .int) false [] 0 [zR a0, zI a1, zU, zU] [] m Q) : zC xs xl (d + 1) 98 [zR a0, zI a1] m Q := (zC_in (K := 98) (by simp []) (Nat.le_of_ble_eq_true rfl)).mpr h
theorem zk_99 {a0 : Nat} {a1 : Int} {a2 : Int} (h : zW xs xl d cX9_tellFrames 9 (some .int) false [] 0 [zR a0, zI a1, zI a2] [] m Q) : zC xs xl (d + 1) 99 [zR a0, zI a1, zI a2] m Q := (zC_in (K := 99) (by simp []) (Nat.le_of_ble_eq_true rfl)).mpr h
theorem zk_100 {a0 : Nat} {a1 : Int} (h : zW xs xl d cX9_tellCount 9 (some .int) false [] 0 [zR a0, zI a1] [] m Q) : zC xs xl (d + 1) 100 [zR a0, zI a1] m Q := (zC_in (K := 100) (by simp []) (Nat.le_of_ble_eq_true rfl)).mpr h
theorem zk_101 {a0 : Nat} {a1 : Nat} (h : zW xs xl d cX9_copyFrom 9 (none) false [] 0 [zR a0, zR a1, zU] [] m Q) : zC xs xl (d + 1) 101 [zR a0, zR a1] m Q := (zC_in (K := 101) (by simp []) (Nat.le_of_ble_eq_true rfl)).mpr h
theorem zk_102 {a0 : Nat} (h : zW xs xl d cX10_init 10 (none) true [] 0 [zR a0, zU] [] m Q) : zC xs xl (d + 1) 102 [zR a0] m Q := (zC_in (K := 102) (by simp []) (Nat.le_of_ble_eq_true rfl)).mpr h
theorem zk_103 {a0 : Nat} {a1 : Int} {a2 : Int} {a3 : Int} {a4 : Int} {a5 : Int} (h : zW xs xl d cX10_feed 10 (some .int) false [] 0 [zR a0, zI a1, zI a2, zI a3, zI a4, zI a5] [] m Q) : zC xs xl (d + 1) 103 [zR a0, zI a1, zI a2, zI a3, zI a4, zI a5] m Q := (zC_in (K := 103) (by simp []) (Nat.le_of_ble_eq_true rfl)).mpr h
theorem zk_104 {a0 : Nat} {a1 : Int} (h : zW xs xl d cX10_trim 10 (some .int) false [] 0 [zR a0, zI a1] [] m Q) : zC xs xl (d + 1) 104 [zR a0, zI a1] m Q := (zC_in (K := 104) (by simp []) (Nat.le_of_ble_eq_true rfl)).mpr h
theorem zk_105 {a0 : Nat} {a1 : Int} (h : zW xs xl d cX10_compile 10 (some .int) false [] 0 [zR a0, zI a1, zU, zU] [] m Q) : zC xs xl (d + 1) 105 [zR a0, zI a1] m Q := (zC_in (K := 105) (by simp []) (Nat.le_of_ble_eq_true rfl)).mpr h
theorem zk_106 {a0 : Nat} (h : zW xs xl d cX10_errorAt 10 (some .int) false [] 0 [zR a0] [] m Q) : zC xs xl (d + 1) 106 [zR a0] m Q := (zC_in (K := 106) (by simp []) (Nat.le_of_ble_eq_true rfl)).mpr h
theorem zk_107 {a0 : Nat} {a1 : Int} {a2 : Int} (h : zW xs xl d cX10_plan 10 (some .int) false [] 0 [zR a0, zI a1, zI a2] [] m Q) : zC xs xl (d + 1) 107 [zR a0, zI a1, zI a2] m Q := (zC_in (K := 107) (by simp []) (Nat.le_of_ble_eq_true rfl)).mpr h
theorem zk_108 {a0 : Nat} {a1 : Int} {a2 : Int} {a3 : Int} (h : zW xs xl d cX10_addPlank 10 (some .int) false [] 0 [zR a0, zI a1, zI a2, zI a3] [] m Q) : zC xs xl (d + 1) 108 [zR a0, zI a1, zI a2, zI a3] m Q := (zC_in (K := 108) (by simp []) (Nat.le_of_ble_eq_true rfl)).mpr h
theorem zk_109 {a0 : Nat} {a1 : Int} {a2 : Int} (h : zW xs xl d cX10_addKnot 10 (some .int) false [] 0 [zR a0, zI a1, zI a2, zU] [] m Q) : zC xs xl (d + 1) 109 [zR a0, zI a1, zI a2] m Q := (zC_in (K := 109) (by simp []) (Nat.le_of_ble_eq_true rfl)).mpr h
theorem zk_110 {a0 : Nat} {a1 : Int} {a2 : Int} (h : zW xs xl d cX10_plank 10 (some .int) false [] 0 [zR a0, zI a1, zI a2] [] m Q) : zC xs xl (d + 1) 110 [zR a0, zI a1, zI a2] m Q := (zC_in (K := 110) (by simp []) (Nat.le_of_ble_eq_true rfl)).mpr h
theorem zk_111 {a0 : Nat} {a1 : Int} {a2 : Int} {a3 : Int} (h : zW xs xl d cX10_find 10 (some .int) false [] 0 [zR a0, zI a1, zI a2, zI a3, zU] [] m Q) : zC xs xl (d + 1) 111 [zR a0, zI a1, zI a2, zI a3] m Q := (zC_in (K := 111) (by simp []) (Nat.le_of_ble_eq_true rfl)).mpr h
theorem zk_112 {a0 : Nat} {a1 : Int} (h : zW xs xl d cX10_addFrame 10 (some .int) false [] 0 [zR a0, zI a1] [] m Q) : zC xs xl (d + 1) 112 [zR a0, zI a1] m Q := (zC_in (K := 112) (by simp []) (Nat.le_of_ble_eq_true rfl)).mpr h
theorem zk_113 {a0 : Nat} {a1 : Int} {a2 : Int} (h : zW xs xl d cX10_frames 10 (some .int) false [] 0 [zR a0, zI a1, zI a2] [] m Q) : zC xs xl (d + 1) 113 [zR a0, zI a1, zI a2] m Q := (zC_in (K := 113) (by simp []) (Nat.le_of_ble_eq_true rfl)).mpr h
theorem zk_114 {a0 : Nat} (h : zW xs xl d cX10_addSlip 10 (some .int) false [] 0 [zR a0] [] m Q) : zC xs xl (d + 1) 114 [zR a0] m Q := (zC_in (K := 114) (by simp []) (Nat.le_of_ble_eq_true rfl)).mpr h
theorem zk_115 {a0 : Nat} {a1 : Int} {a2 : Int} {a3 : Int} (h : zW xs xl d cX10_start 10 (some .int) false [] 0 [zR a0, zI a1, zI a2, zI a3] [] m Q) : zC xs xl (d + 1) 115 [zR a0, zI a1, zI a2, zI a3] m Q := (zC_in (K := 115) (by simp []) (Nat.le_of_ble_eq_true rfl)).mpr h
theorem zk_116 {a0 : Nat} {a1 : Int} {a2 : Int} {a3 : Int} (h : zW xs xl d cX10_lend 10 (some .int) false [] 0 [zR a0, zI a1, zI a2, zI a3, zU, zU] [] m Q) : zC xs xl (d + 1) 116 [zR a0, zI a1, zI a2, zI a3] m Q := (zC_in (K := 116) (by simp []) (Nat.le_of_ble_eq_true rfl)).mpr h
theorem zk_117 {a0 : Nat} {a1 : Int} {a2 : Int} (h : zW xs xl d cX10_slip 10 (some .int) false [] 0 [zR a0, zI a1, zI a2] [] m Q) : zC xs xl (d + 1) 117 [zR a0, zI a1, zI a2] m Q := (zC_in (K := 117) (by simp []) (Nat.le_of_ble_eq_true rfl)).mpr h
theorem zk_118 {a0 : Nat} {a1 : Int} {a2 : Int} {a3 : Int} (h : zW xs xl d cX10_bend 10 (some .int) false [] 0 [zR a0, zI a1, zI a2, zI a3, zU] [] m Q) : zC xs xl (d + 1) 118 [zR a0, zI a1, zI a2, zI a3] m Q := (zC_in (K := 118) (by simp []) (Nat.le_of_ble_eq_true rfl)).mpr h
theorem zk_119 {a0 : Nat} (h : zW xs xl d cX10_stuck 10 (some .int) false [] 0 [zR a0] [] m Q) : zC xs xl (d + 1) 119 [zR a0] m Q := (zC_in (K := 119) (by simp []) (Nat.le_of_ble_eq_true rfl)).mpr h
theorem zk_120 {a0 : Nat} {a1 : Int} (h : zW xs xl d cX10_run 10 (some .int) false [] 0 [zR a0, zI a1, zU, zU] [] m Q) : zC xs xl (d + 1) 120 [zR a0, zI a1] m Q := (zC_in (K := 120) (by simp []) (Nat.le_of_ble_eq_true rfl)).mpr h
theorem zk_121 {a0 : Nat} {a1 : Int} (h : zW xs xl d cX10_count 10 (some .int) false [] 0 [zR a0, zI a1] [] m Q) : zC xs xl (d + 1) 121 [zR a0, zI a1] m Q := (zC_in (K := 121) (by simp []) (Nat.le_of_ble_eq_true rfl)).mpr h
theorem zk_122 {a0 : Nat} {a1 : Int} {a2 : Int} (h : zW xs xl d cX10_hull 10 (some .int) false [] 0 [zR a0, zI a1, zI a2] [] m Q) : zC xs xl (d + 1) 122 [zR a0, zI a1, zI a2] m Q := (zC_in (K := 122) (by simp []) (Nat.le_of_ble_eq_true rfl)).mpr h
theorem zk_123 {a0 : Nat} {a1 : Int} {a2 : Int} (h : zW xs xl d cX10_foresee 10 (some .int) false [] 0 [zR a0, zI a1, zI a2, zU, zU] [] m Q) : zC xs xl (d + 1) 123 [zR a0, zI a1, zI a2] m Q := (zC_in (K := 123) (by simp []) (Nat.le_of_ble_eq_true rfl)).mpr h
theorem zk_124 {a0 : Nat} (h : zW xs xl d cX10_flaw 10 (some .double) false [] 0 [zR a0, zU, zU, zU] [] m Q) : zC xs xl (d + 1) 124 [zR a0] m Q := (zC_in (K := 124) (by simp []) (Nat.le_of_ble_eq_true rfl)).mpr h
theorem zk_125 {a0 : Nat} (h : zW xs xl d cX10_digest 10 (some .long) false [] 0 [zR a0, zU, zU, zU, zU] [] m Q) : zC xs xl (d + 1) 125 [zR a0] m Q := (zC_in (K := 125) (by simp []) (Nat.le_of_ble_eq_true rfl)).mpr h
theorem zk_126 {a0 : Int} {a2 : Nat} (h : zW xs xl d cX10_digestOfSlip 10 (some .long) false [] 0 [zL a0, zU, zR a2, zU, zU, zU] [] m Q) : zC xs xl (d + 1) 126 [zL a0, zR a2] m Q := (zC_in (K := 126) (by simp []) (Nat.le_of_ble_eq_true rfl)).mpr h
theorem zk_127 {a0 : Int} {a1 : Int} (h : zW xs xl d cX10_isBelow 10 (some .boolean) false [] 0 [zI a0, zI a1] [] m Q) : zC xs xl (d + 1) 127 [zI a0, zI a1] m Q := (zC_in (K := 127) (by simp []) (Nat.le_of_ble_eq_true rfl)).mpr h
theorem zk_128 {a0 : Int} {a1 : Int} {a2 : Int} (h : zW xs xl d cX10_nearer 10 (some .int) false [] 0 [zI a0, zI a1, zI a2] [] m Q) : zC xs xl (d + 1) 128 [zI a0, zI a1, zI a2] m Q := (zC_in (K := 128) (by simp []) (Nat.le_of_ble_eq_true rfl)).mpr h
theorem zk_129 {a0 : Nat} (h : zW xs xl d cX11_init 11 (none) true [] 0 [zR a0] [] m Q) : zC xs xl (d + 1) 129 [zR a0] m Q := (zC_in (K := 129) (by simp []) (Nat.le_of_ble_eq_true rfl)).mpr h
theorem zk_130 {a0 : Nat} {a1 : Nat} (h : zW xs xl d cX11_copy 11 (none) false [] 0 [zR a0, zR a1] [] m Q) : zC xs xl (d + 1) 130 [zR a0, zR a1] m Q := (zC_in (K := 130) (by simp []) (Nat.le_of_ble_eq_true rfl)).mpr h
theorem zk_131 {a0 : Nat} {a1 : Nat} (h : zW xs xl d cX11_copy_ 11 (none) false [] 0 [zR a0, zR a1] [] m Q) : zC xs xl (d + 1) 131 [zR a0, zR a1] m Q := (zC_in (K := 131) (by simp []) (Nat.le_of_ble_eq_true rfl)).mpr h
theorem zk_132 {a0 : Nat} {a1 : Nat} (h : zW xs xl d cX11_become 11 (none) false [] 0 [zR a0, zR a1] [] m Q) : zC xs xl (d + 1) 132 [zR a0, zR a1] m Q := (zC_in (K := 132) (by simp []) (Nat.le_of_ble_eq_true rfl)).mpr h
theorem zk_133 {a0 : Nat} {a1 : Int} {a2 : Int} (h : zW xs xl d cX11_isKnot 11 (some .boolean) false [] 0 [zR a0, zI a1, zI a2, zU, zU] [] m Q) : zC xs xl (d + 1) 133 [zR a0, zI a1, zI a2] m Q := (zC_in (K := 133) (by simp []) (Nat.le_of_ble_eq_true rfl)).mpr h
theorem zk_134 {a0 : Nat} {a1 : Int} {a2 : Int} (h : zW xs xl d cX11_place 11 (some .int) false [] 0 [zR a0, zI a1, zI a2, zU, zU] [] m Q) : zC xs xl (d + 1) 134 [zR a0, zI a1, zI a2] m Q := (zC_in (K := 134) (by simp []) (Nat.le_of_ble_eq_true rfl)).mpr h
theorem zk_135 {a0 : Nat} {a1 : Int} (h : zW xs xl d cX11_clear 11 (some .int) false [] 0 [zR a0, zI a1, zU, zU, zU] [] m Q) : zC xs xl (d + 1) 135 [zR a0, zI a1] m Q := (zC_in (K := 135) (by simp []) (Nat.le_of_ble_eq_true rfl)).mpr h
theorem zk_136 {a0 : Nat} {a1 : Int} {a2 : Int} (h : zW xs xl d cX11_find 11 (some .int) false [] 0 [zR a0, zI a1, zI a2, zU, zU] [] m Q) : zC xs xl (d + 1) 136 [zR a0, zI a1, zI a2] m Q := (zC_in (K := 136) (by simp []) (Nat.le_of_ble_eq_true rfl)).mpr h
theorem zk_137 {a0 : Nat} {a1 : Int} {a2 : Int} {a3 : Int} (h : zW xs xl d cX11_add 11 (some .int) false [] 0 [zR a0, zI a1, zI a2, zI a3] [] m Q) : zC xs xl (d + 1) 137 [zR a0, zI a1, zI a2, zI a3] m Q := (zC_in (K := 137) (by simp []) (Nat.le_of_ble_eq_true rfl)).mpr h
theorem zk_138 {a0 : Nat} {a1 : Int} {a2 : Int} (h : zW xs xl d cX11_addKnot 11 (none) false [] 0 [zR a0, zI a1, zI a2] [] m Q) : zC xs xl (d + 1) 138 [zR a0, zI a1, zI a2] m Q := (zC_in (K := 138) (by simp []) (Nat.le_of_ble_eq_true rfl)).mpr h
theorem zk_139 {a0 : Nat} {a1 : Int} {a2 : Int} {a3 : Int} (h : zW xs xl d cX11_cutOut 11 (none) false [] 0 [zR a0, zI a1, zI a2, zI a3, zU, zU, zU, zU] [] m Q) : zC xs xl (d + 1) 139 [zR a0, zI a1, zI a2, zI a3] m Q := (zC_in (K := 139) (by simp []) (Nat.le_of_ble_eq_true rfl)).mpr h
theorem zk_140 {a0 : Nat} {a1 : Int} (h : zW xs xl d cX11_free 11 (some .int) false [] 0 [zR a0, zI a1, zU, zU] [] m Q) : zC xs xl (d + 1) 140 [zR a0, zI a1] m Q := (zC_in (K := 140) (by simp []) (Nat.le_of_ble_eq_true rfl)).mpr h
theorem zk_141 {a0 : Nat} {a1 : Int} (h : zW xs xl d cX11_waiting 11 (some .int) false [] 0 [zR a0, zI a1, zU, zU] [] m Q) : zC xs xl (d + 1) 141 [zR a0, zI a1] m Q := (zC_in (K := 141) (by simp []) (Nat.le_of_ble_eq_true rfl)).mpr h
theorem zk_142 {a0 : Nat} {a1 : Int} {a2 : Int} {a3 : Int} (h : zW xs xl d cX11_await 11 (none) false [] 0 [zR a0, zI a1, zI a2, zI a3] [] m Q) : zC xs xl (d + 1) 142 [zR a0, zI a1, zI a2, zI a3] m Q := (zC_in (K := 142) (by simp []) (Nat.le_of_ble_eq_true rfl)).mpr h
theorem zk_143 {a0 : Nat} {a1 : Int} (h : zW xs xl d cX11_get 11 (none) false [] 0 [zR a0, zI a1] [] m Q) : zC xs xl (d + 1) 143 [zR a0, zI a1] m Q := (zC_in (K := 143) (by simp []) (Nat.le_of_ble_eq_true rfl)).mpr h
theorem zk_144 {a0 : Nat} (h : zW xs xl d cX11_giveOut 11 (none) false [] 0 [zR a0, zU, zU, zU, zU] [] m Q) : zC xs xl (d + 1) 144 [zR a0] m Q := (zC_in (K := 144) (by simp []) (Nat.le_of_ble_eq_true rfl)).mpr h
theorem zk_145 {a0 : Nat} (h : zW xs xl d cX11_stuck 11 (some .int) false [] 0 [zR a0, zU, zU, zU] [] m Q) : zC xs xl (d + 1) 145 [zR a0] m Q := (zC_in (K := 145) (by simp []) (Nat.le_of_ble_eq_true rfl)).mpr h
theorem zk_146 {a0 : Nat} {a1 : Int} {a2 : Int} (h : zW xs xl d cX11_heldBy 11 (some .int) false [] 0 [zR a0, zI a1, zI a2, zU, zU] [] m Q) : zC xs xl (d + 1) 146 [zR a0, zI a1, zI a2] m Q := (zC_in (K := 146) (by simp []) (Nat.le_of_ble_eq_true rfl)).mpr h
theorem zk_147 {a0 : Nat} (h : zW xs xl d cX11_pass 11 (none) false [] 0 [zR a0, zU] [] m Q) : zC xs xl (d + 1) 147 [zR a0] m Q := (zC_in (K := 147) (by simp []) (Nat.le_of_ble_eq_true rfl)).mpr h
theorem zk_148 {a0 : Nat} {a1 : Int} (h : zW xs xl d cX11_act 11 (none) false [] 0 [zR a0, zI a1, zU, zU, zU, zU] [] m Q) : zC xs xl (d + 1) 148 [zR a0, zI a1] m Q := (zC_in (K := 148) (by simp []) (Nat.le_of_ble_eq_true rfl)).mpr h
theorem zk_149 {a0 : Nat} {a1 : Int} {a2 : Int} {a3 : Int} (h : zW xs xl d cX11_cut 11 (some .boolean) false [] 0 [zR a0, zI a1, zI a2, zI a3, zU, zU] [] m Q) : zC xs xl (d + 1) 149 [zR a0, zI a1, zI a2, zI a3] m Q := (zC_in (K := 149) (by simp []) (Nat.le_of_ble_eq_true rfl)).mpr h
theorem zk_150 {a0 : Nat} {a1 : Int} {a2 : Int} (h : zW xs xl d cX11_warm 11 (none) false [] 0 [zR a0, zI a1, zI a2] [] m Q) : zC xs xl (d + 1) 150 [zR a0, zI a1, zI a2] m Q := (zC_in (K := 150) (by simp []) (Nat.le_of_ble_eq_true rfl)).mpr h
theorem zk_151 {a0 : Nat} {a1 : Int} {a2 : Int} (h : zW xs xl d cX11_moisten 11 (none) false [] 0 [zR a0, zI a1, zI a2] [] m Q) : zC xs xl (d + 1) 151 [zR a0, zI a1, zI a2] m Q := (zC_in (K := 151) (by simp []) (Nat.le_of_ble_eq_true rfl)).mpr h
theorem zk_152 {a0 : Nat} {a1 : Int} {a2 : Int} {a3 : Int} (h : zW xs xl d cX11_treat 11 (some .boolean) false [] 0 [zR a0, zI a1, zI a2, zI a3] [] m Q) : zC xs xl (d + 1) 152 [zR a0, zI a1, zI a2, zI a3] m Q := (zC_in (K := 152) (by simp []) (Nat.le_of_ble_eq_true rfl)).mpr h
theorem zk_153 {a0 : Nat} {a1 : Int} {a2 : Int} (h : zW xs xl d cX11_bend 11 (some .boolean) false [] 0 [zR a0, zI a1, zI a2, zU, zU, zU, zU] [] m Q) : zC xs xl (d + 1) 153 [zR a0, zI a1, zI a2] m Q := (zC_in (K := 153) (by simp []) (Nat.le_of_ble_eq_true rfl)).mpr h
theorem zk_154 {a0 : Nat} {a1 : Int} (h : zW xs xl d cX11_fit 11 (some .boolean) false [] 0 [zR a0, zI a1, zU, zU] [] m Q) : zC xs xl (d + 1) 154 [zR a0, zI a1] m Q := (zC_in (K := 154) (by simp []) (Nat.le_of_ble_eq_true rfl)).mpr h
theorem zk_155 {a0 : Nat} {a1 : Int} (h : zW xs xl d cX11_clearPiece 11 (none) false [] 0 [zR a0, zI a1, zU] [] m Q) : zC xs xl (d + 1) 155 [zR a0, zI a1] m Q := (zC_in (K := 155) (by simp []) (Nat.le_of_ble_eq_true rfl)).mpr h
theorem zk_156 {a0 : Nat} {a1 : Int} (h : zW xs xl d cX11_lose 11 (some .boolean) false [] 0 [zR a0, zI a1] [] m Q) : zC xs xl (d + 1) 156 [zR a0, zI a1] m Q := (zC_in (K := 156) (by simp []) (Nat.le_of_ble_eq_true rfl)).mpr h
theorem zk_157 {a0 : Nat} {a1 : Int} (h : zW xs xl d cX11_finish 11 (none) false [] 0 [zR a0, zI a1, zU] [] m Q) : zC xs xl (d + 1) 157 [zR a0, zI a1] m Q := (zC_in (K := 157) (by simp []) (Nat.le_of_ble_eq_true rfl)).mpr h
theorem zk_158 {a0 : Nat} {a1 : Int} {a2 : Int} (h : zW xs xl d cX11_slip 11 (some .int) false [] 0 [zR a0, zI a1, zI a2, zU] [] m Q) : zC xs xl (d + 1) 158 [zR a0, zI a1, zI a2] m Q := (zC_in (K := 158) (by simp []) (Nat.le_of_ble_eq_true rfl)).mpr h
theorem zk_159 {a0 : Nat} {a1 : Int} (h : zW xs xl d cX11_counted 11 (some .int) false [] 0 [zR a0, zI a1, zU, zU, zU] [] m Q) : zC xs xl (d + 1) 159 [zR a0, zI a1] m Q := (zC_in (K := 159) (by simp []) (Nat.le_of_ble_eq_true rfl)).mpr h
theorem zk_160 {a0 : Nat} (h : zW xs xl d cX12_init 12 (none) true [] 0 [zR a0] [] m Q) : zC xs xl (d + 1) 160 [zR a0] m Q := (zC_in (K := 160) (by simp []) (Nat.le_of_ble_eq_true rfl)).mpr h
theorem zk_161 {a0 : Nat} (h : zW xs xl d cX12_thrown 12 (some .int) false [] 0 [zR a0] [] m Q) : zC xs xl (d + 1) 161 [zR a0] m Q := (zC_in (K := 161) (by simp []) (Nat.le_of_ble_eq_true rfl)).mpr h
theorem zk_162 {a0 : Nat} {a1 : Int} (h : zW xs xl d cX12_no 12 (some .int) false [] 0 [zR a0, zI a1] [] m Q) : zC xs xl (d + 1) 162 [zR a0, zI a1] m Q := (zC_in (K := 162) (by simp []) (Nat.le_of_ble_eq_true rfl)).mpr h
theorem zk_163 {a0 : Int} {a1 : Int} {a2 : Int} (h : zW xs xl d cX12_isIn 12 (some .boolean) false [] 0 [zI a0, zI a1, zI a2] [] m Q) : zC xs xl (d + 1) 163 [zI a0, zI a1, zI a2] m Q := (zC_in (K := 163) (by simp []) (Nat.le_of_ble_eq_true rfl)).mpr h
theorem zk_164 {a0 : Nat} {a1 : Int} {a2 : Int} {a3 : Int} {a4 : Int} {a5 : Int} (h : zW xs xl d cX12_feed 12 (some .int) false [] 0 [zR a0, zI a1, zI a2, zI a3, zI a4, zI a5, zU, zU, zU, zU, zU, zU] [] m Q) : zC xs xl (d + 1) 164 [zR a0, zI a1, zI a2, zI a3, zI a4, zI a5] m Q := (zC_in (K := 164) (by simp []) (Nat.le_of_ble_eq_true rfl)).mpr h
theorem zk_165 {a0 : Nat} {a1 : Int} (h : zW xs xl d cX12_trim 12 (some .int) false [] 0 [zR a0, zI a1] [] m Q) : zC xs xl (d + 1) 165 [zR a0, zI a1] m Q := (zC_in (K := 165) (by simp []) (Nat.le_of_ble_eq_true rfl)).mpr h
theorem zk_166 {a0 : Nat} {a1 : Int} (h : zW xs xl d cX12_tapeAt 12 (some .int) false [] 0 [zR a0, zI a1] [] m Q) : zC xs xl (d + 1) 166 [zR a0, zI a1] m Q := (zC_in (K := 166) (by simp []) (Nat.le_of_ble_eq_true rfl)).mpr h
theorem zk_167 {a0 : Nat} {a1 : Int} (h : zW xs xl d cX12_isLetter 12 (some .boolean) false [] 0 [zR a0, zI a1] [] m Q) : zC xs xl (d + 1) 167 [zR a0, zI a1] m Q := (zC_in (K := 167) (by simp []) (Nat.le_of_ble_eq_true rfl)).mpr h
theorem zk_168 {a0 : Nat} {a1 : Int} (h : zW xs xl d cX12_isDigit 12 (some .boolean) false [] 0 [zR a0, zI a1] [] m Q) : zC xs xl (d + 1) 168 [zR a0, zI a1] m Q := (zC_in (K := 168) (by simp []) (Nat.le_of_ble_eq_true rfl)).mpr h
theorem zk_169 {a0 : Nat} (h : zW xs xl d cX12_scan 12 (none) false [] 0 [zR a0, zU, zU, zU, zU, zU] [] m Q) : zC xs xl (d + 1) 169 [zR a0] m Q := (zC_in (K := 169) (by simp []) (Nat.le_of_ble_eq_true rfl)).mpr h
theorem zk_170 {a0 : Nat} {a1 : Int} {a2 : Nat} (h : zW xs xl d cX12_is 12 (some .boolean) false [] 0 [zR a0, zI a1, zE a2, zU, zU] [] m Q) : zC xs xl (d + 1) 170 [zR a0, zI a1, zE a2] m Q := (zC_in (K := 170) (by simp []) (Nat.le_of_ble_eq_true rfl)).mpr h
theorem zk_171 {a0 : Nat} {a1 : Int} {a2 : Nat} (h : zW xs xl d cX12_which 12 (some .int) false [] 0 [zR a0, zI a1, zE a2, zU, zU] [] m Q) : zC xs xl (d + 1) 171 [zR a0, zI a1, zE a2] m Q := (zC_in (K := 171) (by simp []) (Nat.le_of_ble_eq_true rfl)).mpr h
theorem zk_172 {a0 : Nat} {a1 : Int} (h : zW xs xl d cX12_numberAt 12 (some .int) false [] 0 [zR a0, zI a1, zU, zU] [] m Q) : zC xs xl (d + 1) 172 [zR a0, zI a1] m Q := (zC_in (K := 172) (by simp []) (Nat.le_of_ble_eq_true rfl)).mpr h
theorem zk_173 {a0 : Nat} {a1 : Int} (h : zW xs xl d cX12_takes 12 (some .boolean) false [] 0 [zR a0, zI a1] [] m Q) : zC xs xl (d + 1) 173 [zR a0, zI a1] m Q := (zC_in (K := 173) (by simp []) (Nat.le_of_ble_eq_true rfl)).mpr h
theorem zk_174 {a0 : Nat} (h : zW xs xl d cX12_planForm 12 (some .boolean) false [] 0 [zR a0] [] m Q) : zC xs xl (d + 1) 174 [zR a0] m Q := (zC_in (K := 174) (by simp []) (Nat.le_of_ble_eq_true rfl)).mpr h
theorem zk_175 {a0 : Nat} (h : zW xs xl d cX12_stepForm 12 (some .boolean) false [] 0 [zR a0, zU] [] m Q) : zC xs xl (d + 1) 175 [zR a0] m Q := (zC_in (K := 175) (by simp []) (Nat.le_of_ble_eq_true rfl)).mpr h
theorem zk_176 {a0 : Nat} (h : zW xs xl d cX12_actionForm 12 (some .boolean) false [] 0 [zR a0, zU, zU] [] m Q) : zC xs xl (d + 1) 176 [zR a0] m Q := (zC_in (K := 176) (by simp []) (Nat.le_of_ble_eq_true rfl)).mpr h
theorem zk_177 {a0 : Nat} {a1 : Int} {a2 : Int} (h : zW xs xl d cX12_wrong 12 (some .boolean) false [] 0 [zR a0, zI a1, zI a2] [] m Q) : zC xs xl (d + 1) 177 [zR a0, zI a1, zI a2] m Q := (zC_in (K := 177) (by simp []) (Nat.le_of_ble_eq_true rfl)).mpr h
theorem zk_178 {a0 : Nat} {a1 : Int} {a2 : Int} (h : zW xs xl d cX12_go 12 (some .boolean) false [] 0 [zR a0, zI a1, zI a2] [] m Q) : zC xs xl (d + 1) 178 [zR a0, zI a1, zI a2] m Q := (zC_in (K := 178) (by simp []) (Nat.le_of_ble_eq_true rfl)).mpr h
theorem zk_179 {a0 : Nat} {a1 : Int} (h : zW xs xl d cX12_goTimes 12 (some .boolean) false [] 0 [zR a0, zI a1, zU, zU, zU] [] m Q) : zC xs xl (d + 1) 179 [zR a0, zI a1] m Q := (zC_in (K := 179) (by simp []) (Nat.le_of_ble_eq_true rfl)).mpr h
theorem zk_180 {a0 : Nat} {a1 : Int} {a2 : Int} (h : zW xs xl d cX12_isMisplaced 12 (some .boolean) false [] 0 [zR a0, zI a1, zI a2] [] m Q) : zC xs xl (d + 1) 180 [zR a0, zI a1, zI a2] m Q := (zC_in (K := 180) (by simp []) (Nat.le_of_ble_eq_true rfl)).mpr h
theorem zk_181 {a0 : Nat} (h : zW xs xl d cX12_goAction 12 (some .boolean) false [] 0 [zR a0, zU, zU, zU, zU, zU] [] m Q) : zC xs xl (d + 1) 181 [zR a0] m Q := (zC_in (K := 181) (by simp []) (Nat.le_of_ble_eq_true rfl)).mpr h
theorem zk_182 {a0 : Nat} {a1 : Int} (h : zW xs xl d cX12_compile 12 (some .int) false [] 0 [zR a0, zI a1] [] m Q) : zC xs xl (d + 1) 182 [zR a0, zI a1] m Q := (zC_in (K := 182) (by simp []) (Nat.le_of_ble_eq_true rfl)).mpr h
theorem zk_183 {a0 : Nat} (h : zW xs xl d cX12_errorAt 12 (some .int) false [] 0 [zR a0] [] m Q) : zC xs xl (d + 1) 183 [zR a0] m Q := (zC_in (K := 183) (by simp []) (Nat.le_of_ble_eq_true rfl)).mpr h
theorem zk_184 {a0 : Nat} {a1 : Int} {a2 : Int} (h : zW xs xl d cX12_planTold 12 (some .int) false [] 0 [zR a0, zI a1, zI a2, zU, zU, zU, zU, zU] [] m Q) : zC xs xl (d + 1) 184 [zR a0, zI a1, zI a2] m Q := (zC_in (K := 184) (by simp []) (Nat.le_of_ble_eq_true rfl)).mpr h
theorem zk_185 {a0 : Nat} {a1 : Int} {a2 : Int} (h : zW xs xl d cX12_plan 12 (some .int) false [] 0 [zR a0, zI a1, zI a2] [] m Q) : zC xs xl (d + 1) 185 [zR a0, zI a1, zI a2] m Q := (zC_in (K := 185) (by simp []) (Nat.le_of_ble_eq_true rfl)).mpr h
theorem zk_186 {a0 : Nat} {a1 : Int} {a2 : Int} {a3 : Int} (h : zW xs xl d cX12_addPlank 12 (some .int) false [] 0 [zR a0, zI a1, zI a2, zI a3] [] m Q) : zC xs xl (d + 1) 186 [zR a0, zI a1, zI a2, zI a3] m Q := (zC_in (K := 186) (by simp []) (Nat.le_of_ble_eq_true rfl)).mpr h
theorem zk_187 {a0 : Nat} {a1 : Int} (h : zW xs xl d cX12_isPlank 12 (some .boolean) false [] 0 [zR a0, zI a1] [] m Q) : zC xs xl (d + 1) 187 [zR a0, zI a1] m Q := (zC_in (K := 187) (by simp []) (Nat.le_of_ble_eq_true rfl)).mpr h
theorem zk_188 {a0 : Nat} {a1 : Int} {a2 : Int} (h : zW xs xl d cX12_addKnot 12 (some .int) false [] 0 [zR a0, zI a1, zI a2] [] m Q) : zC xs xl (d + 1) 188 [zR a0, zI a1, zI a2] m Q := (zC_in (K := 188) (by simp []) (Nat.le_of_ble_eq_true rfl)).mpr h
theorem zk_189 {a0 : Nat} {a1 : Int} {a2 : Int} (h : zW xs xl d cX12_plankTold 12 (some .int) false [] 0 [zR a0, zI a1, zI a2] [] m Q) : zC xs xl (d + 1) 189 [zR a0, zI a1, zI a2] m Q := (zC_in (K := 189) (by simp []) (Nat.le_of_ble_eq_true rfl)).mpr h
theorem zk_190 {a0 : Nat} {a1 : Int} {a2 : Int} (h : zW xs xl d cX12_plank 12 (some .int) false [] 0 [zR a0, zI a1, zI a2] [] m Q) : zC xs xl (d + 1) 190 [zR a0, zI a1, zI a2] m Q := (zC_in (K := 190) (by simp []) (Nat.le_of_ble_eq_true rfl)).mpr h
theorem zk_191 {a0 : Nat} {a1 : Int} {a2 : Int} {a3 : Int} (h : zW xs xl d cX12_find 12 (some .int) false [] 0 [zR a0, zI a1, zI a2, zI a3, zU] [] m Q) : zC xs xl (d + 1) 191 [zR a0, zI a1, zI a2, zI a3] m Q := (zC_in (K := 191) (by simp []) (Nat.le_of_ble_eq_true rfl)).mpr h
theorem zk_192 {a0 : Nat} {a1 : Int} (h : zW xs xl d cX12_addFrame 12 (some .int) false [] 0 [zR a0, zI a1] [] m Q) : zC xs xl (d + 1) 192 [zR a0, zI a1] m Q := (zC_in (K := 192) (by simp []) (Nat.le_of_ble_eq_true rfl)).mpr h
theorem zk_193 {a0 : Nat} {a1 : Int} {a2 : Int} (h : zW xs xl d cX12_frameTold 12 (some .int) false [] 0 [zR a0, zI a1, zI a2] [] m Q) : zC xs xl (d + 1) 193 [zR a0, zI a1, zI a2] m Q := (zC_in (K := 193) (by simp []) (Nat.le_of_ble_eq_true rfl)).mpr h
theorem zk_194 {a0 : Nat} {a1 : Int} {a2 : Int} (h : zW xs xl d cX12_frames 12 (some .int) false [] 0 [zR a0, zI a1, zI a2] [] m Q) : zC xs xl (d + 1) 194 [zR a0, zI a1, zI a2] m Q := (zC_in (K := 194) (by simp []) (Nat.le_of_ble_eq_true rfl)).mpr h
theorem zk_195 {a0 : Nat} (h : zW xs xl d cX12_addSlip 12 (some .int) false [] 0 [zR a0] [] m Q) : zC xs xl (d + 1) 195 [zR a0] m Q := (zC_in (K := 195) (by simp []) (Nat.le_of_ble_eq_true rfl)).mpr h
theorem zk_196 {a0 : Nat} {a1 : Int} (h : zW xs xl d cX12_isSlip 12 (some .boolean) false [] 0 [zR a0, zI a1] [] m Q) : zC xs xl (d + 1) 196 [zR a0, zI a1] m Q := (zC_in (K := 196) (by simp []) (Nat.le_of_ble_eq_true rfl)).mpr h
theorem zk_197 {a0 : Nat} {a1 : Int} {a2 : Int} {a3 : Int} (h : zW xs xl d cX12_start 12 (some .int) false [] 0 [zR a0, zI a1, zI a2, zI a3] [] m Q) : zC xs xl (d + 1) 197 [zR a0, zI a1, zI a2, zI a3] m Q := (zC_in (K := 197) (by simp []) (Nat.le_of_ble_eq_true rfl)).mpr h
theorem zk_198 {a0 : Nat} {a1 : Int} {a2 : Int} {a3 : Int} (h : zW xs xl d cX12_lend 12 (some .int) false [] 0 [zR a0, zI a1, zI a2, zI a3] [] m Q) : zC xs xl (d + 1) 198 [zR a0, zI a1, zI a2, zI a3] m Q := (zC_in (K := 198) (by simp []) (Nat.le_of_ble_eq_true rfl)).mpr h
theorem zk_199 {a0 : Nat} {a1 : Int} {a2 : Int} (h : zW xs xl d cX12_slip 12 (some .int) false [] 0 [zR a0, zI a1, zI a2] [] m Q) : zC xs xl (d + 1) 199 [zR a0, zI a1, zI a2] m Q := (zC_in (K := 199) (by simp []) (Nat.le_of_ble_eq_true rfl)).mpr h
theorem zk_200 {a0 : Nat} {a1 : Int} {a2 : Int} {a3 : Int} (h : zW xs xl d cX12_bend 12 (some .int) false [] 0 [zR a0, zI a1, zI a2, zI a3] [] m Q) : zC xs xl (d + 1) 200 [zR a0, zI a1, zI a2, zI a3] m Q := (zC_in (K := 200) (by simp []) (Nat.le_of_ble_eq_true rfl)).mpr h
theorem zk_201 {a0 : Nat} (h : zW xs xl d cX12_stuck 12 (some .int) false [] 0 [zR a0] [] m Q) : zC xs xl (d + 1) 201 [zR a0] m Q := (zC_in (K := 201) (by simp []) (Nat.le_of_ble_eq_true rfl)).mpr h
theorem zk_202 {a0 : Nat} {a1 : Int} (h : zW xs xl d cX12_run 12 (some .int) false [] 0 [zR a0, zI a1, zU, zU] [] m Q) : zC xs xl (d + 1) 202 [zR a0, zI a1] m Q := (zC_in (K := 202) (by simp []) (Nat.le_of_ble_eq_true rfl)).mpr h
theorem zk_203 {a0 : Nat} {a1 : Int} (h : zW xs xl d cX12_count 12 (some .int) false [] 0 [zR a0, zI a1] [] m Q) : zC xs xl (d + 1) 203 [zR a0, zI a1] m Q := (zC_in (K := 203) (by simp []) (Nat.le_of_ble_eq_true rfl)).mpr h
theorem zk_204 {a0 : Nat} (h : zW xs xl d cX12_kept 12 (some .int) false [] 0 [zR a0] [] m Q) : zC xs xl (d + 1) 204 [zR a0] m Q := (zC_in (K := 204) (by simp []) (Nat.le_of_ble_eq_true rfl)).mpr h
theorem zk_205 {a0 : Nat} {a1 : Int} {a2 : Int} (h : zW xs xl d cX12_hull 12 (some .int) false [] 0 [zR a0, zI a1, zI a2] [] m Q) : zC xs xl (d + 1) 205 [zR a0, zI a1, zI a2] m Q := (zC_in (K := 205) (by simp []) (Nat.le_of_ble_eq_true rfl)).mpr h
theorem zk_206 {a0 : Nat} {a1 : Int} {a2 : Int} (h : zW xs xl d cX12_foresee 12 (some .int) false [] 0 [zR a0, zI a1, zI a2, zU, zU] [] m Q) : zC xs xl (d + 1) 206 [zR a0, zI a1, zI a2] m Q := (zC_in (K := 206) (by simp []) (Nat.le_of_ble_eq_true rfl)).mpr h
theorem zk_207 {a0 : Nat} (h : zW xs xl d cX12_flaw 12 (some .double) false [] 0 [zR a0, zU, zU, zU] [] m Q) : zC xs xl (d + 1) 207 [zR a0] m Q := (zC_in (K := 207) (by simp []) (Nat.le_of_ble_eq_true rfl)).mpr h
theorem zk_208 {a0 : Nat} (h : zW xs xl d cX12_digest 12 (some .long) false [] 0 [zR a0, zU, zU, zU, zU] [] m Q) : zC xs xl (d + 1) 208 [zR a0] m Q := (zC_in (K := 208) (by simp []) (Nat.le_of_ble_eq_true rfl)).mpr h
theorem zk_209 {a0 : Nat} (h : zW xs xl d cJ0_length_8abf5 14 (some .int) false [] 0 [zE a0] [] m Q) : zC xs xl (d + 1) 209 [zE a0] m Q := (zC_in (K := 209) (by simp []) (Nat.le_of_ble_eq_true rfl)).mpr h
theorem zk_210 {a0 : Nat} {a1 : Int} (h : zW xs xl d cJ0_charAt_5068e 14 (some .char) false [] 0 [zE a0, zI a1] [] m Q) : zC xs xl (d + 1) 210 [zE a0, zI a1] m Q := (zC_in (K := 210) (by simp []) (Nat.le_of_ble_eq_true rfl)).mpr h
theorem zk_211 {a0 : Nat} (h : zW xs xl d cJ0_coder_7d493 14 (some .byte) false [] 0 [zE a0] [] m Q) : zC xs xl (d + 1) 211 [zE a0] m Q := (zC_in (K := 211) (by simp []) (Nat.le_of_ble_eq_true rfl)).mpr h
theorem zk_212 {a0 : Nat} (h : zW xs xl d cJ0_isLatin1_aae02 14 (some .boolean) false [] 0 [zE a0] [] m Q) : zC xs xl (d + 1) 212 [zE a0] m Q := (zC_in (K := 212) (by simp []) (Nat.le_of_ble_eq_true rfl)).mpr h
theorem zk_213 {a0 : Int} {a1 : Int} (h : zW xs xl d cJ0_checkIndex_df160 14 (none) false [] 0 [zI a0, zI a1] [] m Q) : zC xs xl (d + 1) 213 [zI a0, zI a1] m Q := (zC_in (K := 213) (by simp []) (Nat.le_of_ble_eq_true rfl)).mpr h
theorem zk_214 {a0 : Nat} {a1 : Int} (h : zW xs xl d cJ1_charAt_3b067 15 (some .char) false [] 0 [zE a0, zI a1] [] m Q) : zC xs xl (d + 1) 214 [zE a0, zI a1] m Q := (zC_in (K := 214) (by simp []) (Nat.le_of_ble_eq_true rfl)).mpr h
theorem zk_219 {a0 : Int} {a1 : Int} {a2 : Nat} (h : zW xs xl d cJ3_checkIndex_8e157 17 (some .int) false [] 0 [zI a0, zI a1, zE a2] [] m Q) : zC xs xl (d + 1) 219 [zI a0, zI a1, zE a2] m Q := (zC_in (K := 219) (by simp []) (Nat.le_of_ble_eq_true rfl)).mpr h
theorem zk_220 {a0 : Int} (h : zW xs xl d cJ6_signum_0f7a4 18 (some .int) false [] 0 [zI a0] [] m Q) : zC xs xl (d + 1) 220 [zI a0] m Q := (zC_in (K := 220) (by simp []) (Nat.le_of_ble_eq_true rfl)).mpr h
theorem zk_221 {a0 : Nat} {a1 : Int} (h : zW xs xl d cJ7_fill_53178 19 (none) false [] 0 [zR a0, zI a1, zU, zU] [] m Q) : zC xs xl (d + 1) 221 [zR a0, zI a1] m Q := (zC_in (K := 221) (by simp []) (Nat.le_of_ble_eq_true rfl)).mpr h
theorem zk_225 {a0 : Nat} {a1 : Int} {a2 : Int} {a3 : Int} {a4 : Int} {a5 : Int} {a6 : Nat} (h : zW xs xl d cL_feed 13 (some .int) false [(0, 16, 19, 0, 13)] 0 [zR a0, zI a1, zI a2, zI a3, zI a4, zI a5, zR a6, zU] [] m Q) : zC xs xl (d + 1) 225 [zR a0, zI a1, zI a2, zI a3, zI a4, zI a5, zR a6] m Q := (zC_in (K := 225) (by simp []) (Nat.le_of_ble_eq_true rfl)).mpr h
theorem zk_226 {a0 : Nat} {a1 : Int} {a2 : Nat} (h : zW xs xl d cL_trim 13 (some .int) false [(0, 9, 12, 1, 19)] 0 [zR a0, zI a1, zR a2, zU] [] m Q) : zC xs xl (d + 1) 226 [zR a0, zI a1, zR a2] m Q := (zC_in (K := 226) (by simp []) (Nat.le_of_ble_eq_true rfl)).mpr h
theorem zk_227 {a0 : Nat} {a1 : Int} {a2 : Nat} (h : zW xs xl d cL_compile 13 (some .int) false [(0, 9, 12, 2, 24)] 0 [zR a0, zI a1, zR a2, zU] [] m Q) : zC xs xl (d + 1) 227 [zR a0, zI a1, zR a2] m Q := (zC_in (K := 227) (by simp []) (Nat.le_of_ble_eq_true rfl)).mpr h
theorem zk_228 {a0 : Nat} {a1 : Int} {a2 : Int} {a3 : Nat} (h : zW xs xl d cL_plan 13 (some .int) false [(0, 10, 13, 2, 24)] 0 [zR a0, zI a1, zI a2, zR a3, zU] [] m Q) : zC xs xl (d + 1) 228 [zR a0, zI a1, zI a2, zR a3] m Q := (zC_in (K := 228) (by simp []) (Nat.le_of_ble_eq_true rfl)).mpr h
theorem zk_229 {a0 : Nat} {a1 : Int} {a2 : Int} {a3 : Int} {a4 : Nat} (h : zW xs xl d cL_addPlank 13 (some .int) false [(0, 12, 15, 1, 19), (0, 12, 19, 0, 13)] 0 [zR a0, zI a1, zI a2, zI a3, zR a4, zU] [] m Q) : zC xs xl (d + 1) 229 [zR a0, zI a1, zI a2, zI a3, zR a4] m Q := (zC_in (K := 229) (by simp []) (Nat.le_of_ble_eq_true rfl)).mpr h
theorem zk_230 {a0 : Nat} {a1 : Int} {a2 : Int} {a3 : Nat} (h : zW xs xl d cL_addKnot 13 (some .int) false [(0, 10, 13, 2, 24), (0, 10, 17, 1, 19), (0, 10, 21, 0, 13)] 0 [zR a0, zI a1, zI a2, zR a3, zU] [] m Q) : zC xs xl (d + 1) 230 [zR a0, zI a1, zI a2, zR a3] m Q := (zC_in (K := 230) (by simp []) (Nat.le_of_ble_eq_true rfl)).mpr h
theorem zk_231 {a0 : Nat} {a1 : Int} {a2 : Int} {a3 : Nat} (h : zW xs xl d cL_plank 13 (some .int) false [(0, 10, 13, 2, 24)] 0 [zR a0, zI a1, zI a2, zR a3, zU] [] m Q) : zC xs xl (d + 1) 231 [zR a0, zI a1, zI a2, zR a3] m Q := (zC_in (K := 231) (by simp []) (Nat.le_of_ble_eq_true rfl)).mpr h
theorem zk_232 {a0 : Nat} {a1 : Int} {a2 : Int} {a3 : Int} {a4 : Nat} (h : zW xs xl d cL_find 13 (some .int) false [(0, 12, 15, 1, 19)] 0 [zR a0, zI a1, zI a2, zI a3, zR a4, zU] [] m Q) : zC xs xl (d + 1) 232 [zR a0, zI a1, zI a2, zI a3, zR a4] m Q := (zC_in (K := 232) (by simp []) (Nat.le_of_ble_eq_true rfl)).mpr h
theorem zk_233 {a0 : Nat} {a1 : Int} {a2 : Nat} (h : zW xs xl d cL_addFrame 13 (some .int) false [(0, 9, 12, 1, 19), (0, 9, 15, 0, 13)] 0 [zR a0, zI a1, zR a2, zU] [] m Q) : zC xs xl (d + 1) 233 [zR a0, zI a1, zR a2] m Q := (zC_in (K := 233) (by simp []) (Nat.le_of_ble_eq_true rfl)).mpr h
theorem zk_234 {a0 : Nat} {a1 : Int} {a2 : Int} {a3 : Nat} (h : zW xs xl d cL_frames 13 (some .int) false [(0, 10, 13, 2, 24)] 0 [zR a0, zI a1, zI a2, zR a3, zU] [] m Q) : zC xs xl (d + 1) 234 [zR a0, zI a1, zI a2, zR a3] m Q := (zC_in (K := 234) (by simp []) (Nat.le_of_ble_eq_true rfl)).mpr h
theorem zk_235 {a0 : Nat} {a1 : Nat} (h : zW xs xl d cL_addSlip 13 (some .int) false [(0, 8, 11, 0, 13)] 0 [zR a0, zR a1, zU] [] m Q) : zC xs xl (d + 1) 235 [zR a0, zR a1] m Q := (zC_in (K := 235) (by simp []) (Nat.le_of_ble_eq_true rfl)).mpr h
theorem zk_236 {a0 : Nat} {a1 : Int} {a2 : Int} {a3 : Int} {a4 : Nat} (h : zW xs xl d cL_start 13 (some .int) false [(0, 12, 15, 2, 24), (0, 12, 19, 1, 19), (0, 12, 23, 0, 13)] 0 [zR a0, zI a1, zI a2, zI a3, zR a4, zU] [] m Q) : zC xs xl (d + 1) 236 [zR a0, zI a1, zI a2, zI a3, zR a4] m Q := (zC_in (K := 236) (by simp []) (Nat.le_of_ble_eq_true rfl)).mpr h
theorem zk_237 {a0 : Nat} {a1 : Int} {a2 : Int} {a3 : Int} {a4 : Nat} (h : zW xs xl d cL_lend 13 (some .int) false [(0, 12, 15, 2, 24), (0, 12, 19, 1, 19), (0, 12, 23, 0, 13)] 0 [zR a0, zI a1, zI a2, zI a3, zR a4, zU] [] m Q) : zC xs xl (d + 1) 237 [zR a0, zI a1, zI a2, zI a3, zR a4] m Q := (zC_in (K := 237) (by simp []) (Nat.le_of_ble_eq_true rfl)).mpr h
theorem zk_238 {a0 : Nat} {a1 : Int} {a2 : Int} {a3 : Nat} (h : zW xs xl d cL_slip 13 (some .int) false [(0, 10, 13, 2, 24)] 0 [zR a0, zI a1, zI a2, zR a3, zU] [] m Q) : zC xs xl (d + 1) 238 [zR a0, zI a1, zI a2, zR a3] m Q := (zC_in (K := 238) (by simp []) (Nat.le_of_ble_eq_true rfl)).mpr h
theorem zk_239 {a0 : Nat} {a1 : Int} {a2 : Int} {a3 : Int} {a4 : Nat} (h : zW xs xl d cL_bend 13 (some .int) false [(0, 12, 15, 2, 24)] 0 [zR a0, zI a1, zI a2, zI a3, zR a4, zU] [] m Q) : zC xs xl (d + 1) 239 [zR a0, zI a1, zI a2, zI a3, zR a4] m Q := (zC_in (K := 239) (by simp []) (Nat.le_of_ble_eq_true rfl)).mpr h
theorem zk_240 {a0 : Nat} {a1 : Int} {a2 : Nat} (h : zW xs xl d cL_run 13 (some .int) false [(0, 9, 12, 1, 19)] 0 [zR a0, zI a1, zR a2, zU] [] m Q) : zC xs xl (d + 1) 240 [zR a0, zI a1, zR a2] m Q := (zC_in (K := 240) (by simp []) (Nat.le_of_ble_eq_true rfl)).mpr h
theorem zk_241 {a0 : Nat} {a1 : Int} {a2 : Nat} (h : zW xs xl d cL_count 13 (some .int) false [(0, 9, 12, 2, 24)] 0 [zR a0, zI a1, zR a2, zU] [] m Q) : zC xs xl (d + 1) 241 [zR a0, zI a1, zR a2] m Q := (zC_in (K := 241) (by simp []) (Nat.le_of_ble_eq_true rfl)).mpr h
theorem zk_242 {a0 : Nat} {a1 : Int} {a2 : Int} {a3 : Nat} (h : zW xs xl d cL_hull 13 (some .int) false [(0, 10, 13, 2, 24)] 0 [zR a0, zI a1, zI a2, zR a3, zU] [] m Q) : zC xs xl (d + 1) 242 [zR a0, zI a1, zI a2, zR a3] m Q := (zC_in (K := 242) (by simp []) (Nat.le_of_ble_eq_true rfl)).mpr h
theorem zk_243 {a0 : Nat} {a1 : Int} {a2 : Int} {a3 : Nat} (h : zW xs xl d cL_foresee 13 (some .int) false [(0, 10, 13, 1, 19), (0, 10, 17, 2, 24)] 0 [zR a0, zI a1, zI a2, zR a3, zU] [] m Q) : zC xs xl (d + 1) 243 [zR a0, zI a1, zI a2, zR a3] m Q := (zC_in (K := 243) (by simp []) (Nat.le_of_ble_eq_true rfl)).mpr h
theorem zk_244 {a0 : Nat} (h : zW xs xl d cL_law 13 (some .boolean) false [] 0 [zE a0, zU, zU, zU, zU, zU, zU, zU, zU] [] m Q) : zC xs xl (d + 1) 244 [zE a0] m Q := (zC_in (K := 244) (by simp []) (Nat.le_of_ble_eq_true rfl)).mpr h
end ZENT
