/-! the counts only grow -/
theorem pI_inv {st : List zV} {k : Int → List zV → zK} {r : zRes} {M : zM} (h : pI st k r M) : ∃ a s, st = zI a :: s ∧ k a s r M := by
  unfold pI at h
  split at h
  · exact ⟨_, _, rfl, h⟩
  · exact h.elim
theorem pII_inv {st : List zV} {k : Int → Int → List zV → zK} {r : zRes} {M : zM} (h : pII st k r M) : ∃ a b s, st = zI b :: zI a :: s ∧ k a b s r M := by
  unfold pII at h
  split at h
  · exact ⟨_, _, _, rfl, h⟩
  · exact h.elim
theorem pLL_inv {st : List zV} {k : Int → Int → List zV → zK} {r : zRes} {M : zM} (h : pLL st k r M) : ∃ a b s, st = zL b :: zL a :: s ∧ k a b s r M := by
  unfold pLL at h
  split at h
  · exact ⟨_, _, _, rfl, h⟩
  · exact h.elim
theorem pDD_inv {st : List zV} {k : UInt64 → UInt64 → List zV → zK} {r : zRes} {M : zM} (h : pDD st k r M) : ∃ a b s, st = zD b :: zD a :: s ∧ k a b s r M := by
  unfold pDD at h
  split at h
  · exact ⟨_, _, _, rfl, h⟩
  · exact h.elim
theorem pR_inv {st : List zV} {k : Nat → List zV → zK} {r : zRes} {M : zM} (h : pR st k r M) : ∃ a s, st = zR a :: s ∧ k a s r M := by
  unfold pR at h
  split at h
  · exact ⟨_, _, rfl, h⟩
  · exact h.elim
theorem pCopy_inv {st : List zV} {k : Int → Int → Nat → Int → Nat → List zV → zK} {r : zRes} {M : zM} (h : pCopy st k r M) : ∃ n dp b sp a s, st = zI n :: zI dp :: zR b :: zI sp :: zR a :: s ∧ k n dp b sp a s r M := by
  unfold pCopy at h
  split at h
  · exact ⟨_, _, _, _, _, _, rfl, h⟩
  · exact h.elim
def zle (M M' : zM) : Prop := mc M ≤ mc M' ∧ mu M ≤ mu M'
theorem zle.rf {M : zM} : zle M M := ⟨Nat.le_refl _, Nat.le_refl _⟩
theorem zle.tr {a b c : zM} (h1 : zle a b) (h2 : zle b c) : zle a c := ⟨Nat.le_trans h1.1 h2.1, Nat.le_trans h1.2 h2.2⟩
/-- whatever a continuation ends with, it made no cell less than M -/
def zmo (k : zK) (M : zM) : Prop := ∀ r M', k r M' → zle M M'
theorem zmo_no {M : zM} : zmo zno M := fun _ _ h => h.elim
theorem zmo_g {c : Prop} {k : zK} {M : zM} (h : c → zmo k M) : zmo (zg c k) M := fun r M' g => h g.1 r M' g.2
theorem zmo_br {c : Prop} {k1 k2 : zK} {M : zM} (h1 : zmo k1 M) (h2 : zmo k2 M) : zmo (zbr c k1 k2) M := fun r M' g => g.elim (fun g => h1 r M' g.2) (fun g => h2 r M' g.2)
theorem zmo_jmp {pc : Nat} {off : Int} {k : Nat → zK} {M : zM} (h : ∀ t, zmo (k t) M) : zmo (zjmp pc off k) M := fun r M' ⟨t, _, g⟩ => h t r M' g
theorem zmo_end {v : Option zV} {M : zM} : zmo (zend v M) M := fun r M' g => by rw [g.2]; exact zle.rf
theorem zmo_I {st : List zV} {k : Int → List zV → zK} {M : zM} (h : ∀ a s, zmo (k a s) M) : zmo (pI st k) M := fun r M' g => by
  obtain ⟨a, s, -, g⟩ := pI_inv g
  exact h a s r M' g
theorem zmo_II {st : List zV} {k : Int → Int → List zV → zK} {M : zM} (h : ∀ a b s, zmo (k a b s) M) : zmo (pII st k) M := fun r M' g => by
  obtain ⟨a, b, s, -, g⟩ := pII_inv g
  exact h a b s r M' g
theorem zmo_LL {st : List zV} {k : Int → Int → List zV → zK} {M : zM} (h : ∀ a b s, zmo (k a b s) M) : zmo (pLL st k) M := fun r M' g => by
  obtain ⟨a, b, s, -, g⟩ := pLL_inv g
  exact h a b s r M' g
theorem zmo_DD {st : List zV} {k : UInt64 → UInt64 → List zV → zK} {M : zM} (h : ∀ a b s, zmo (k a b s) M) : zmo (pDD st k) M := fun r M' g => by
  obtain ⟨a, b, s, -, g⟩ := pDD_inv g
  exact h a b s r M' g
theorem zmo_R {st : List zV} {k : Nat → List zV → zK} {M : zM} (h : ∀ a s, zmo (k a s) M) : zmo (pR st k) M := fun r M' g => by
  obtain ⟨a, s, -, g⟩ := pR_inv g
  exact h a s r M' g
theorem zmo_C {st : List zV} {k : Int → Int → Nat → Int → Nat → List zV → zK} {M : zM} (h : ∀ n dp b sp a s, zmo (k n dp b sp a s) M) : zmo (pCopy st k) M := fun r M' g => by
  obtain ⟨n, dp, b, sp, a, s, -, g⟩ := pCopy_inv g
  exact h n dp b sp a s r M' g
theorem zmo_exe {cr : Nat → List zV → zM → zK} {xs : Nat → Int} {xl : Nat} {cc : ByteArray} {oc : Nat} {rt : Option FieldType} {ini : Bool} {hh : List (Nat × Nat × Nat × Nat × Nat)} {nx : Nat → List zV → List zV → zM → zK} (hc : ∀ K a M, zmo (cr K a M) M) (hn : ∀ pc ls st M, zmo (nx pc ls st M) M) (i : Instr) (pc : Nat) (ls st : List zV) (M : zM) : zmo (zexe cr xs xl cc oc rt ini hh nx i pc ls st M) M := by
  have hs : ∀ pc ls st M', zle M M' → zmo (nx pc ls st M') M := fun pc ls st M' h r M'' g => h.tr (hn pc ls st M' r M'' g)
  cases i
  case invokestatic k =>
    simp only [zexe]
    split
    · rintro r M' ⟨rv, m1, h1, -, -, h2⟩
      exact (hc _ _ _ _ _ h1).tr (hn _ _ _ _ _ _ h2)
    · exact zmo_C (fun _ _ _ _ _ _ => zmo_g (fun _ => hs _ _ _ _ zle.rf))
    · exact zmo_II (fun _ _ _ => zmo_g (fun _ => hn _ _ _ _))
    · exact zmo_II (fun _ _ _ => zmo_g (fun _ => hn _ _ _ _))
    · exact zmo_I (fun _ _ => zmo_g (fun _ => hn _ _ _ _))
    · exact zmo_no
  case invokevirtual k =>
    simp only [zexe]
    split
    · rintro r M' ⟨v, rest, r1, m1, -, -, h1, -, h2⟩
      refine (hc _ _ _ _ _ h1).tr ?_
      cases r1 with
      | inl rv => exact hn _ _ _ _ _ _ h2
      | inr E =>
        obtain ⟨t, -, h2⟩ := h2
        exact hn _ _ _ _ _ _ h2
    · exact zmo_no
  case invokespecial k =>
    simp only [zexe]
    split
    · rintro r M' ⟨a, rest, m1, -, -, h1, -, h2⟩
      exact (hc _ _ _ _ _ h1).tr (hn _ _ _ _ _ _ h2)
    · exact zmo_R (fun _ _ => zmo_g (fun _ => hn _ _ _ _))
    · exact zmo_no
  case new k =>
    simp only [zexe]
    split
    · exact zmo_g (fun _ => hs _ _ _ _ ⟨Nat.le_succ _, Nat.le_add_right _ _⟩)
    · split
      · rintro r M' ⟨-, -, -, h⟩
        rw [h]
        exact ⟨Nat.le_succ _, Nat.le_add_right _ _⟩
      · exact zmo_no
  case newarray ty => exact zmo_I (fun _ _ => zmo_g (fun _ => hs _ _ _ _ ⟨Nat.le_succ _, Nat.le_add_right _ _⟩))
  case anewarray k =>
    simp only [zexe]
    split
    · exact zmo_I (fun _ _ => zmo_g (fun _ => hs _ _ _ _ ⟨Nat.le_succ _, Nat.le_add_right _ _⟩))
    · exact zmo_no
  case multianewarray k d =>
    by_cases hd : d = 2
    · subst hd
      exact zmo_II (fun _ _ _ => zmo_g (fun _ => hs _ _ _ _ ⟨by show _ ≤ _ + 1 + _; omega, by show _ ≤ _ + _ + _; omega⟩))
    · match d, hd with
      | 0, _ => exact zmo_no
      | 1, _ => exact zmo_no
      | 2, hd => exact absurd rfl hd
      | _ + 3, _ => exact zmo_no
  all_goals simp only [zexe]
  all_goals (repeat' first | exact zmo_no | exact hn _ _ _ _ | exact hs _ _ _ _ zle.rf | exact zmo_end | (refine zmo_g (fun _ => ?_)) | (refine zmo_jmp (fun _ => ?_)) | (refine zmo_br ?_ ?_) | (refine zmo_I (fun _ _ => ?_)) | (refine zmo_II (fun _ _ _ => ?_)) | (refine zmo_LL (fun _ _ _ => ?_)) | (refine zmo_DD (fun _ _ _ => ?_)) | (refine zmo_R (fun _ _ => ?_)) | split)
theorem zmo_run {cr : Nat → List zV → zM → zK} {xs : Nat → Int} {xl : Nat} {cc : ByteArray} {oc : Nat} {rt : Option FieldType} {ini : Bool} {hh : List (Nat × Nat × Nat × Nat × Nat)} (hc : ∀ K a M, zmo (cr K a M) M) : ∀ (n pc : Nat) (ls st : List zV) (M : zM), zmo (zrun cr xs xl cc oc rt ini hh n pc ls st M) M
  | 0, _, _, _, _ => zmo_no
  | n + 1, pc, ls, st, M => by
    unfold zrun
    split
    · exact zmo_g (fun _ => zmo_exe hc (zmo_run hc n) _ _ _ _ _)
    · exact zmo_no
theorem zmo_call {xs : Nat → Int} {xl : Nat} : ∀ (d K : Nat) (a : List zV) (M : zM), zmo (zcall xs xl d K a M) M
  | 0, _, _, _ => zmo_no
  | d + 1, K, a, M => fun r M' ⟨_, n, h⟩ => zmo_run (zmo_call d) n _ _ _ _ r M' h
