/-! what the plain machine does, as weakest preconditions -/
section ZWP
variable {xs : Nat → Int} {xl d : Nat} {cc : ByteArray} {oc : Nat} {rt : Option FieldType} {ini : Bool} {hh : List (Nat × Nat × Nat × Nat × Nat)} {pc : Nat} {ls st : List zV} {m : zM} {Q : zRes → zM → Prop}
def zW (xs : Nat → Int) (xl d : Nat) (cc : ByteArray) (oc : Nat) (rt : Option FieldType) (ini : Bool) (hh : List (Nat × Nat × Nat × Nat × Nat)) (pc : Nat) (ls st : List zV) (m : zM) (Q : zRes → zM → Prop) : Prop := ∃ (n : Nat) (r : zRes) (m' : zM), zrun (zcall xs xl d) xs xl cc oc rt ini hh n pc ls st m r m' ∧ Q r m'
def zC (xs : Nat → Int) (xl d K : Nat) (a : List zV) (m : zM) (Q : zRes → zM → Prop) : Prop := ∃ (r : zRes) (m' : zM), zcall xs xl d K a m r m' ∧ Q r m'
theorem zW.mono {Q' : zRes → zM → Prop} (h : zW xs xl d cc oc rt ini hh pc ls st m Q) (hq : ∀ r m', Q r m' → Q' r m') : zW xs xl d cc oc rt ini hh pc ls st m Q' := by
  obtain ⟨n, r, m', h1, h2⟩ := h
  exact ⟨n, r, m', h1, hq _ _ h2⟩
theorem zC.mono {K : Nat} {a : List zV} {Q' : zRes → zM → Prop} (h : zC xs xl d K a m Q) (hq : ∀ r m', Q r m' → Q' r m') : zC xs xl d K a m Q' := by
  obtain ⟨r, m', h1, h2⟩ := h
  exact ⟨r, m', h1, hq _ _ h2⟩
theorem zC_in {K : Nat} {a : List zV} (hu : ∀ v ∈ a, v ≠ zU) (hn : (zargs a).length ≤ zMl K) : zC xs xl (d + 1) K a m Q ↔ zW xs xl d (zMc K) (zMo K) (zMr K) (zMi K) (zMh K) 0 (zent (zMl K) a) [] m Q := by
  constructor
  · rintro ⟨r, m', ⟨-, n, h⟩, hq⟩
    exact ⟨n, r, m', h, hq⟩
  · rintro ⟨n, r, m', h, hq⟩
    exact ⟨r, m', ⟨⟨hu, hn⟩, n, h⟩, hq⟩
theorem zq {i : Instr} {len : Nat} (hd : decode cc pc = .ok (i, len)) (hl : zlen i len = true) : zW xs xl d cc oc rt ini hh pc ls st m Q ↔ ∃ (n : Nat) (r : zRes) (m' : zM), zexe (zcall xs xl d) xs xl cc oc rt ini hh (zrun (zcall xs xl d) xs xl cc oc rt ini hh n) i pc ls st m r m' ∧ Q r m' := by
  constructor
  · rintro ⟨n, r, m', h, hq⟩
    cases n with
    | zero => exact h.elim
    | succ n =>
      unfold zrun at h
      rw [hd] at h
      exact ⟨n, r, m', h.2, hq⟩
  · rintro ⟨n, r, m', h, hq⟩
    refine ⟨n + 1, r, m', ?_, hq⟩
    unfold zrun
    rw [hd]
    exact ⟨hl, h⟩
theorem zq_g {c : Prop} {k : Nat → zK} : (∃ (n : Nat) (r : zRes) (m' : zM), zg c (k n) r m' ∧ Q r m') ↔ c ∧ ∃ (n : Nat) (r : zRes) (m' : zM), k n r m' ∧ Q r m' := by
  constructor
  · rintro ⟨n, r, m', ⟨hc, h⟩, hq⟩; exact ⟨hc, n, r, m', h, hq⟩
  · rintro ⟨hc, n, r, m', h, hq⟩; exact ⟨n, r, m', ⟨hc, h⟩, hq⟩
theorem zq_j {off : Int} {t : Nat} {k : Nat → Nat → zK} (ht : (pc : Int) + off = t) : (∃ (n : Nat) (r : zRes) (m' : zM), zjmp pc off (k n) r m' ∧ Q r m') ↔ ∃ (n : Nat) (r : zRes) (m' : zM), k n t r m' ∧ Q r m' := by
  constructor
  · rintro ⟨n, r, m', ⟨t', ht', h⟩, hq⟩
    have : t' = t := by omega
    subst this
    exact ⟨n, r, m', h, hq⟩
  · rintro ⟨n, r, m', h, hq⟩; exact ⟨n, r, m', ⟨t, ht, h⟩, hq⟩
theorem zq_b {c : Prop} {k1 k2 : Nat → zK} : (∃ (n : Nat) (r : zRes) (m' : zM), zbr c (k1 n) (k2 n) r m' ∧ Q r m') ↔ (c → ∃ (n : Nat) (r : zRes) (m' : zM), k1 n r m' ∧ Q r m') ∧ (¬ c → ∃ (n : Nat) (r : zRes) (m' : zM), k2 n r m' ∧ Q r m') := by
  constructor
  · rintro ⟨n, r, m', h, hq⟩
    rcases h with ⟨hc, h⟩ | ⟨hc, h⟩
    · exact ⟨fun _ => ⟨n, r, m', h, hq⟩, fun q => absurd hc q⟩
    · exact ⟨fun q => absurd q hc, fun _ => ⟨n, r, m', h, hq⟩⟩
  · rintro ⟨h1, h2⟩
    by_cases hc : c
    · obtain ⟨n, r, m', h, hq⟩ := h1 hc; exact ⟨n, r, m', Or.inl ⟨hc, h⟩, hq⟩
    · obtain ⟨n, r, m', h, hq⟩ := h2 hc; exact ⟨n, r, m', Or.inr ⟨hc, h⟩, hq⟩
theorem zq_e {v : Option zV} : (∃ (n : Nat) (r : zRes) (m' : zM), zend v m r m' ∧ Q r m') ↔ Q (.inl v) m := by
  constructor
  · rintro ⟨n, r, m', ⟨rfl, rfl⟩, hq⟩; exact hq
  · intro h; exact ⟨0, _, _, ⟨rfl, rfl⟩, h⟩
/-- a switch, case by case -/
def zsw (a : Int) : List (Int × Nat) → Nat → (Nat → Prop) → Prop
  | [], t, W => W t
  | q :: l, t, W => (a = q.1 → W q.2) ∧ (a ≠ q.1 → zsw a l t W)
def zlook (a : Int) : List (Int × Nat) → Nat → Nat
  | [], t => t
  | q :: l, t => if a = q.1 then q.2 else zlook a l t
theorem zsw_iff {a : Int} {W : Nat → Prop} : ∀ {l : List (Int × Nat)} {t : Nat}, zsw a l t W ↔ W (zlook a l t)
  | [], t => Iff.rfl
  | q :: l, t => by
    unfold zsw zlook
    by_cases h : a = q.1
    · rw [if_pos h]; exact ⟨fun g => g.1 h, fun g => ⟨fun _ => g, fun n => absurd h n⟩⟩
    · rw [if_neg h]; exact ⟨fun g => zsw_iff.mp (g.2 h), fun g => ⟨fun n => absurd n h, fun _ => zsw_iff.mpr g⟩⟩
def ztab (pc : Nat) (td : Nat) : List Int → List Nat → Bool
  | [], [] => true
  | o :: l, t :: r => decide ((pc : Int) + o = t) && ztab pc td l r
  | _, _ => false
def zcase (lo : Int) : List Nat → List (Int × Nat)
  | [] => []
  | t :: r => (lo, t) :: zcase (lo + 1) r
theorem ztab_look {pc td : Nat} : ∀ {l : List Int} {r : List Nat} {lo a : Int}, ztab pc td l r = true → (∀ (i : Nat) (off : Int), l[i]? = some off → a = lo + i → (pc : Int) + off = zlook a (zcase lo r) td) ∧ ((a < lo ∨ lo + l.length ≤ a) → zlook a (zcase lo r) td = td)
  | [], [], lo, a, _ => ⟨fun i off h => by simp at h, fun _ => rfl⟩
  | o :: l, t :: r, lo, a, h => by
    simp only [ztab, Bool.and_eq_true, decide_eq_true_eq] at h
    obtain ⟨h1, h2⟩ := h
    obtain ⟨i1, i2⟩ := ztab_look (lo := lo + 1) (a := a) h2
    refine ⟨fun i off hi ha => ?_, fun ha => ?_⟩
    · cases i with
      | zero =>
        cases hi
        unfold zcase zlook
        rw [if_pos (by simpa using ha)]; exact h1
      | succ i =>
        unfold zcase zlook
        have hne : ¬ a = lo := by omega
        rw [if_neg hne]
        exact i1 i off hi (by omega)
    · unfold zcase zlook
      simp only [List.length_cons] at ha
      have hne : ¬ a = lo := by omega
      rw [if_neg hne]
      exact i2 (by omega)
  | [], _ :: _, _, _, h => by cases h
  | _ :: _, [], _, _, h => by cases h
theorem zq_tab {dd lo hi : Int} {offs : Array Int} {len td : Nat} {r : List Nat} {a : Int} (hd : decode cc pc = .ok (.tableswitch dd lo hi offs, len)) (htd : (pc : Int) + dd = td) (ht : ztab pc td offs.toList r = true) (hhi : hi + 1 = lo + offs.toList.length) : zW xs xl d cc oc rt ini hh pc ls (zI a :: st) m Q ↔ zsw a (zcase lo r) td (fun t => zW xs xl d cc oc rt ini hh t ls st m Q) := by
  refine (zq hd rfl).trans (Iff.trans ?_ zsw_iff.symm)
  obtain ⟨l1, l2⟩ := ztab_look (a := a) (lo := lo) ht
  refine zq_b.trans ?_
  by_cases hc : a < lo ∨ hi < a
  · rw [l2 (by omega)]
    refine ⟨fun g => (zq_j htd).mp (g.1 hc), fun g => ⟨fun _ => (zq_j htd).mpr g, fun n => absurd hc n⟩⟩
  · have hlt : (a - lo).toNat < offs.toList.length := by omega
    have ho : offs[(a - lo).toNat]? = some (offs.toList[(a - lo).toNat]) := by rw [← Array.getElem?_toList]; exact List.getElem?_eq_getElem hlt
    have hj := l1 (a - lo).toNat _ (List.getElem?_eq_getElem hlt) (by omega)
    refine ⟨fun g => ?_, fun g => ⟨fun n => absurd n hc, fun _ => ?_⟩⟩
    · have g2 := g.2 hc
      rw [ho] at g2
      exact (zq_j hj).mp g2
    · rw [ho]
      exact (zq_j hj).mpr g
def zlks (pc : Nat) : List (Int × Int) → List (Int × Nat) → Bool
  | [], [] => true
  | o :: l, t :: r => decide (o.1 = t.1) && decide ((pc : Int) + o.2 = t.2) && zlks pc l r
  | _, _ => false
theorem zlks_look {pc td : Nat} {dd a : Int} (hd : (pc : Int) + dd = td) : ∀ {l : List (Int × Int)} {r : List (Int × Nat)}, zlks pc l r = true → (pc : Int) + Op.lookupswitch.offset l dd a = zlook a r td
  | [], [], _ => hd
  | o :: l, t :: r, h => by
    simp only [zlks, Bool.and_eq_true, decide_eq_true_eq] at h
    obtain ⟨⟨h1, h2⟩, h3⟩ := h
    have ih := zlks_look (a := a) hd h3
    obtain ⟨ok, oo⟩ := o
    rw [Op.lookupswitch.offset_cons]
    unfold zlook
    have h1 : ok = t.1 := h1
    by_cases e : a = t.1
    · rw [if_pos e, if_pos (by rw [e, h1])]; exact h2
    · rw [if_neg e, if_neg (by rw [h1]; exact fun q => e q.symm)]; exact ih
  | [], _ :: _, h => by cases h
  | _ :: _, [], h => by cases h
theorem zq_look {dd : Int} {ps : Array (Int × Int)} {len td : Nat} {r : List (Int × Nat)} {a : Int} (hd : decode cc pc = .ok (.lookupswitch dd ps, len)) (htd : (pc : Int) + dd = td) (ht : zlks pc ps.toList r = true) (hp : (ps.toList.zip (ps.toList.drop 1)).all (fun (a, next) => a.1 < next.1) = true) : zW xs xl d cc oc rt ini hh pc ls (zI a :: st) m Q ↔ zsw a r td (fun t => zW xs xl d cc oc rt ini hh t ls st m Q) := by
  refine (zq hd rfl).trans (Iff.trans ?_ zsw_iff.symm)
  refine zq_g.trans ?_
  rw [and_iff_right hp]
  exact zq_j (zlks_look htd ht)
theorem zq_iconst {n v : Int} (hd : decode cc pc = .ok (.iconst n, 1)) (hv : wr n = v) : zW xs xl d cc oc rt ini hh pc ls st m Q ↔ zW xs xl d cc oc rt ini hh (pc + 1) ls (zI v :: st) m Q := by rw [← hv]; exact zq hd rfl
theorem zq_bipush {n v : Int} (hd : decode cc pc = .ok (.bipush n, 2)) (hv : w8 n = v) : zW xs xl d cc oc rt ini hh pc ls st m Q ↔ zW xs xl d cc oc rt ini hh (pc + 2) ls (zI v :: st) m Q := by rw [← hv]; exact zq hd rfl
theorem zq_sipush {n v : Int} (hd : decode cc pc = .ok (.sipush n, 3)) (hv : w16 n = v) : zW xs xl d cc oc rt ini hh pc ls st m Q ↔ zW xs xl d cc oc rt ini hh (pc + 3) ls (zI v :: st) m Q := by rw [← hv]; exact zq hd rfl
theorem zq_lconst {n : Fin 2} {v : Int} (hd : decode cc pc = .ok (.lconst n, 1)) (hv : ((n : Nat) : Int) = v) : zW xs xl d cc oc rt ini hh pc ls st m Q ↔ zW xs xl d cc oc rt ini hh (pc + 1) ls (zL v :: st) m Q := by rw [← hv]; exact zq hd rfl
theorem zq_dconst  (hd : decode cc pc = .ok (.dconst 0, 1)) : zW xs xl d cc oc rt ini hh pc ls st m Q ↔ zW xs xl d cc oc rt ini hh (pc + 1) ls (zD FP.dconst0 :: st) m Q := (zq hd rfl).trans (zq_g.trans (and_iff_right rfl))
theorem zq_null  (hd : decode cc pc = .ok (.aconst_null, 1)) : zW xs xl d cc oc rt ini hh pc ls st m Q ↔ zW xs xl d cc oc rt ini hh (pc + 1) ls (zR 0 :: st) m Q := zq hd rfl
theorem zq_ldc {k : Nat} {v : zV} (hd : decode cc pc = .ok (.ldc k, 2)) (hv : zCK oc k = some v) : zW xs xl d cc oc rt ini hh pc ls st m Q ↔ zW xs xl d cc oc rt ini hh (pc + 2) ls (v :: st) m Q := by
  refine (zq hd rfl).trans ?_
  simp only [zexe, hv]
  exact Iff.rfl
theorem zq_ldc2 {k : Nat} {v : Int} (hd : decode cc pc = .ok (.ldc2_w k, 3)) (hv : zCL oc k = some v) : zW xs xl d cc oc rt ini hh pc ls st m Q ↔ zW xs xl d cc oc rt ini hh (pc + 3) ls (zL v :: st) m Q := by
  refine (zq hd rfl).trans ?_
  simp only [zexe, hv]
  exact Iff.rfl
theorem zq_gets {k : Nat} {v : zV} (hd : decode cc pc = .ok (.getstatic k, 3)) (hv : zSR oc k = some v) : zW xs xl d cc oc rt ini hh pc ls st m Q ↔ zW xs xl d cc oc rt ini hh (pc + 3) ls (v :: st) m Q := by
  refine (zq hd rfl).trans ?_
  simp only [zexe, hv]
  exact Iff.rfl
theorem zq_iload {k : Nat} {x : Int} (hd : decode cc pc = .ok (.iload k, 2)) (hl : ls[k]? = some (zI x)) : zW xs xl d cc oc rt ini hh pc ls st m Q ↔ zW xs xl d cc oc rt ini hh (pc + 2) ls (zI x :: st) m Q := by
  refine (zq hd rfl).trans ?_
  simp only [zexe, hl]
  exact Iff.rfl
theorem zq_iload_n {k : Fin 4} {x : Int} (hd : decode cc pc = .ok (.iload_n k, 1)) (hl : ls[(k : Nat)]? = some (zI x)) : zW xs xl d cc oc rt ini hh pc ls st m Q ↔ zW xs xl d cc oc rt ini hh (pc + 1) ls (zI x :: st) m Q := by
  refine (zq hd rfl).trans ?_
  simp only [zexe, hl]
  exact Iff.rfl
theorem zq_lload {k : Nat} {x : Int} (hd : decode cc pc = .ok (.lload k, 2)) (hl : ls[k]? = some (zL x)) : zW xs xl d cc oc rt ini hh pc ls st m Q ↔ zW xs xl d cc oc rt ini hh (pc + 2) ls (zL x :: st) m Q := by
  refine (zq hd rfl).trans ?_
  simp only [zexe, hl]
  exact Iff.rfl
theorem zq_lload_n {k : Fin 4} {x : Int} (hd : decode cc pc = .ok (.lload_n k, 1)) (hl : ls[(k : Nat)]? = some (zL x)) : zW xs xl d cc oc rt ini hh pc ls st m Q ↔ zW xs xl d cc oc rt ini hh (pc + 1) ls (zL x :: st) m Q := by
  refine (zq hd rfl).trans ?_
  simp only [zexe, hl]
  exact Iff.rfl
theorem zq_dload {k : Nat} {x : UInt64} (hd : decode cc pc = .ok (.dload k, 2)) (hl : ls[k]? = some (zD x)) : zW xs xl d cc oc rt ini hh pc ls st m Q ↔ zW xs xl d cc oc rt ini hh (pc + 2) ls (zD x :: st) m Q := by
  refine (zq hd rfl).trans ?_
  simp only [zexe, hl]
  exact Iff.rfl
theorem zq_aload {k : Nat} {x : Nat} (hd : decode cc pc = .ok (.aload k, 2)) (hl : ls[k]? = some (zR x)) : zW xs xl d cc oc rt ini hh pc ls st m Q ↔ zW xs xl d cc oc rt ini hh (pc + 2) ls (zR x :: st) m Q := by
  refine (zq hd rfl).trans ?_
  simp only [zexe, hl]
  exact Iff.rfl
theorem zq_aload_n {k : Fin 4} {x : Nat} (hd : decode cc pc = .ok (.aload_n k, 1)) (hl : ls[(k : Nat)]? = some (zR x)) : zW xs xl d cc oc rt ini hh pc ls st m Q ↔ zW xs xl d cc oc rt ini hh (pc + 1) ls (zR x :: st) m Q := by
  refine (zq hd rfl).trans ?_
  simp only [zexe, hl]
  exact Iff.rfl
theorem zq_aloadE {k : Nat} {x : Nat} (hd : decode cc pc = .ok (.aload k, 2)) (hl : ls[k]? = some (zE x)) : zW xs xl d cc oc rt ini hh pc ls st m Q ↔ zW xs xl d cc oc rt ini hh (pc + 2) ls (zE x :: st) m Q := by
  refine (zq hd rfl).trans ?_
  simp only [zexe, hl]
  exact Iff.rfl
theorem zq_aload_nE {k : Fin 4} {x : Nat} (hd : decode cc pc = .ok (.aload_n k, 1)) (hl : ls[(k : Nat)]? = some (zE x)) : zW xs xl d cc oc rt ini hh pc ls st m Q ↔ zW xs xl d cc oc rt ini hh (pc + 1) ls (zE x :: st) m Q := by
  refine (zq hd rfl).trans ?_
  simp only [zexe, hl]
  exact Iff.rfl
theorem zq_istore {k : Nat} {x : Int} {l : List zV} (hd : decode cc pc = .ok (.istore k, 2)) (hk : k < ls.length) (hl : zst1 k (zI x) ls = l) : zW xs xl d cc oc rt ini hh pc ls (zI x :: st) m Q ↔ zW xs xl d cc oc rt ini hh (pc + 2) l st m Q := by rw [← hl]; exact (zq hd rfl).trans (zq_g.trans (and_iff_right hk))
theorem zq_istore_n {k : Fin 4} {x : Int} {l : List zV} (hd : decode cc pc = .ok (.istore_n k, 1)) (hk : (k : Nat) < ls.length) (hl : zst1 (k : Nat) (zI x) ls = l) : zW xs xl d cc oc rt ini hh pc ls (zI x :: st) m Q ↔ zW xs xl d cc oc rt ini hh (pc + 1) l st m Q := by rw [← hl]; exact (zq hd rfl).trans (zq_g.trans (and_iff_right hk))
theorem zq_astore {k : Nat} {x : Nat} {l : List zV} (hd : decode cc pc = .ok (.astore k, 2)) (hk : k < ls.length) (hl : zst1 k (zR x) ls = l) : zW xs xl d cc oc rt ini hh pc ls (zR x :: st) m Q ↔ zW xs xl d cc oc rt ini hh (pc + 2) l st m Q := by rw [← hl]; exact (zq hd rfl).trans (zq_g.trans (and_iff_right hk))
theorem zq_astore_n {k : Fin 4} {x : Nat} {l : List zV} (hd : decode cc pc = .ok (.astore_n k, 1)) (hk : (k : Nat) < ls.length) (hl : zst1 (k : Nat) (zR x) ls = l) : zW xs xl d cc oc rt ini hh pc ls (zR x :: st) m Q ↔ zW xs xl d cc oc rt ini hh (pc + 1) l st m Q := by rw [← hl]; exact (zq hd rfl).trans (zq_g.trans (and_iff_right hk))
theorem zq_astoreE {k : Nat} {x : Nat} {l : List zV} (hd : decode cc pc = .ok (.astore k, 2)) (hk : k < ls.length) (hl : zst1 k (zE x) ls = l) : zW xs xl d cc oc rt ini hh pc ls (zE x :: st) m Q ↔ zW xs xl d cc oc rt ini hh (pc + 2) l st m Q := by rw [← hl]; exact (zq hd rfl).trans (zq_g.trans (and_iff_right hk))
theorem zq_astore_nE {k : Fin 4} {x : Nat} {l : List zV} (hd : decode cc pc = .ok (.astore_n k, 1)) (hk : (k : Nat) < ls.length) (hl : zst1 (k : Nat) (zE x) ls = l) : zW xs xl d cc oc rt ini hh pc ls (zE x :: st) m Q ↔ zW xs xl d cc oc rt ini hh (pc + 1) l st m Q := by rw [← hl]; exact (zq hd rfl).trans (zq_g.trans (and_iff_right hk))
theorem zq_lstore {k : Nat} {x : Int} {l : List zV} (hd : decode cc pc = .ok (.lstore k, 2)) (hk : k + 1 < ls.length) (hl : zst2 k (zL x) ls = l) : zW xs xl d cc oc rt ini hh pc ls (zL x :: st) m Q ↔ zW xs xl d cc oc rt ini hh (pc + 2) l st m Q := by rw [← hl]; exact (zq hd rfl).trans (zq_g.trans (and_iff_right hk))
theorem zq_lstore_n {k : Fin 4} {x : Int} {l : List zV} (hd : decode cc pc = .ok (.lstore_n k, 1)) (hk : (k : Nat) + 1 < ls.length) (hl : zst2 (k : Nat) (zL x) ls = l) : zW xs xl d cc oc rt ini hh pc ls (zL x :: st) m Q ↔ zW xs xl d cc oc rt ini hh (pc + 1) l st m Q := by rw [← hl]; exact (zq hd rfl).trans (zq_g.trans (and_iff_right hk))
theorem zq_dstore {k : Nat} {x : UInt64} {l : List zV} (hd : decode cc pc = .ok (.dstore k, 2)) (hk : k + 1 < ls.length) (hl : zst2 k (zD x) ls = l) : zW xs xl d cc oc rt ini hh pc ls (zD x :: st) m Q ↔ zW xs xl d cc oc rt ini hh (pc + 2) l st m Q := by rw [← hl]; exact (zq hd rfl).trans (zq_g.trans (and_iff_right hk))
theorem zq_iinc {k : Nat} {n x : Int} {l : List zV} (hd : decode cc pc = .ok (.iinc k n, 3)) (hl : ls[k]? = some (zI x)) (hl2 : zst1 k (zI (wr (x + n))) ls = l) : zW xs xl d cc oc rt ini hh pc ls st m Q ↔ zW xs xl d cc oc rt ini hh (pc + 3) l st m Q := by
  rw [← hl2]
  refine (zq hd rfl).trans ?_
  simp only [zexe, hl]
  exact Iff.rfl
theorem zq_dupI {x : Int} (hd : decode cc pc = .ok (.dup, 1)) : zW xs xl d cc oc rt ini hh pc ls (zI x :: st) m Q ↔ zW xs xl d cc oc rt ini hh (pc + 1) ls (zI x :: zI x :: st) m Q := (zq hd rfl).trans (zq_g.trans (and_iff_right trivial))
theorem zq_popI {x : Int} (hd : decode cc pc = .ok (.pop, 1)) : zW xs xl d cc oc rt ini hh pc ls (zI x :: st) m Q ↔ zW xs xl d cc oc rt ini hh (pc + 1) ls st m Q := (zq hd rfl).trans (zq_g.trans (and_iff_right trivial))
theorem zq_dupR {x : Nat} (hd : decode cc pc = .ok (.dup, 1)) : zW xs xl d cc oc rt ini hh pc ls (zR x :: st) m Q ↔ zW xs xl d cc oc rt ini hh (pc + 1) ls (zR x :: zR x :: st) m Q := (zq hd rfl).trans (zq_g.trans (and_iff_right trivial))
theorem zq_popR {x : Nat} (hd : decode cc pc = .ok (.pop, 1)) : zW xs xl d cc oc rt ini hh pc ls (zR x :: st) m Q ↔ zW xs xl d cc oc rt ini hh (pc + 1) ls st m Q := (zq hd rfl).trans (zq_g.trans (and_iff_right trivial))
theorem zq_dup2IR {x : Int} {y : Nat} (hd : decode cc pc = .ok (.dup2, 1)) : zW xs xl d cc oc rt ini hh pc ls (zI x :: zR y :: st) m Q ↔ zW xs xl d cc oc rt ini hh (pc + 1) ls (zI x :: zR y :: zI x :: zR y :: st) m Q := (zq hd rfl).trans (zq_g.trans (and_iff_right ⟨trivial, trivial⟩))
theorem zq_iadd {a b : Int} (hd : decode cc pc = .ok (.iadd, 1)) : zW xs xl d cc oc rt ini hh pc ls (zI b :: zI a :: st) m Q ↔ zW xs xl d cc oc rt ini hh (pc + 1) ls (zI (wr (a + b)) :: st) m Q := zq hd rfl
theorem zq_isub {a b : Int} (hd : decode cc pc = .ok (.isub, 1)) : zW xs xl d cc oc rt ini hh pc ls (zI b :: zI a :: st) m Q ↔ zW xs xl d cc oc rt ini hh (pc + 1) ls (zI (wr (a - b)) :: st) m Q := zq hd rfl
theorem zq_imul {a b : Int} (hd : decode cc pc = .ok (.imul, 1)) : zW xs xl d cc oc rt ini hh pc ls (zI b :: zI a :: st) m Q ↔ zW xs xl d cc oc rt ini hh (pc + 1) ls (zI (wr (a * b)) :: st) m Q := zq hd rfl
theorem zq_iand {a b : Int} (hd : decode cc pc = .ok (.iand, 1)) : zW xs xl d cc oc rt ini hh pc ls (zI b :: zI a :: st) m Q ↔ zW xs xl d cc oc rt ini hh (pc + 1) ls (zI (bAnd a b) :: st) m Q := zq hd rfl
theorem zq_ior {a b : Int} (hd : decode cc pc = .ok (.ior, 1)) : zW xs xl d cc oc rt ini hh pc ls (zI b :: zI a :: st) m Q ↔ zW xs xl d cc oc rt ini hh (pc + 1) ls (zI (bOr a b) :: st) m Q := zq hd rfl
theorem zq_ixor {a b : Int} (hd : decode cc pc = .ok (.ixor, 1)) : zW xs xl d cc oc rt ini hh pc ls (zI b :: zI a :: st) m Q ↔ zW xs xl d cc oc rt ini hh (pc + 1) ls (zI (bXor a b) :: st) m Q := zq hd rfl
theorem zq_ishl {a b : Int} (hd : decode cc pc = .ok (.ishl, 1)) : zW xs xl d cc oc rt ini hh pc ls (zI b :: zI a :: st) m Q ↔ zW xs xl d cc oc rt ini hh (pc + 1) ls (zI (bShl a b) :: st) m Q := zq hd rfl
theorem zq_ishr {a b : Int} (hd : decode cc pc = .ok (.ishr, 1)) : zW xs xl d cc oc rt ini hh pc ls (zI b :: zI a :: st) m Q ↔ zW xs xl d cc oc rt ini hh (pc + 1) ls (zI (bShr a b) :: st) m Q := zq hd rfl
theorem zq_iushr {a b : Int} (hd : decode cc pc = .ok (.iushr, 1)) : zW xs xl d cc oc rt ini hh pc ls (zI b :: zI a :: st) m Q ↔ zW xs xl d cc oc rt ini hh (pc + 1) ls (zI (bUsh a b) :: st) m Q := zq hd rfl
theorem zq_idiv {a b : Int} (hd : decode cc pc = .ok (.idiv, 1)) : zW xs xl d cc oc rt ini hh pc ls (zI b :: zI a :: st) m Q ↔ b ≠ 0 ∧ zW xs xl d cc oc rt ini hh (pc + 1) ls (zI (wr (a.tdiv b)) :: st) m Q := (zq hd rfl).trans zq_g
theorem zq_irem {a b : Int} (hd : decode cc pc = .ok (.irem, 1)) : zW xs xl d cc oc rt ini hh pc ls (zI b :: zI a :: st) m Q ↔ b ≠ 0 ∧ zW xs xl d cc oc rt ini hh (pc + 1) ls (zI (wr (a - wr (wr (a.tdiv b) * b))) :: st) m Q := (zq hd rfl).trans zq_g
theorem zq_ladd {a b : Int} (hd : decode cc pc = .ok (.ladd, 1)) : zW xs xl d cc oc rt ini hh pc ls (zL b :: zL a :: st) m Q ↔ zW xs xl d cc oc rt ini hh (pc + 1) ls (zL (wl (a + b)) :: st) m Q := zq hd rfl
theorem zq_lsub {a b : Int} (hd : decode cc pc = .ok (.lsub, 1)) : zW xs xl d cc oc rt ini hh pc ls (zL b :: zL a :: st) m Q ↔ zW xs xl d cc oc rt ini hh (pc + 1) ls (zL (wl (a - b)) :: st) m Q := zq hd rfl
theorem zq_lmul {a b : Int} (hd : decode cc pc = .ok (.lmul, 1)) : zW xs xl d cc oc rt ini hh pc ls (zL b :: zL a :: st) m Q ↔ zW xs xl d cc oc rt ini hh (pc + 1) ls (zL (wl (a * b)) :: st) m Q := zq hd rfl
theorem zq_lcmp {a b : Int} (hd : decode cc pc = .ok (.lcmp, 1)) : zW xs xl d cc oc rt ini hh pc ls (zL b :: zL a :: st) m Q ↔ zW xs xl d cc oc rt ini hh (pc + 1) ls (zI (bCmp a b) :: st) m Q := zq hd rfl
theorem zq_ineg {a : Int} (hd : decode cc pc = .ok (.ineg, 1)) : zW xs xl d cc oc rt ini hh pc ls (zI a :: st) m Q ↔ zW xs xl d cc oc rt ini hh (pc + 1) ls (zI (wr (-a)) :: st) m Q := zq hd rfl
theorem zq_i2l {a : Int} (hd : decode cc pc = .ok (.i2l, 1)) : zW xs xl d cc oc rt ini hh pc ls (zI a :: st) m Q ↔ zW xs xl d cc oc rt ini hh (pc + 1) ls (zL a :: st) m Q := zq hd rfl
theorem zq_i2c {a : Int} (hd : decode cc pc = .ok (.i2c, 1)) : zW xs xl d cc oc rt ini hh pc ls (zI a :: st) m Q ↔ zW xs xl d cc oc rt ini hh (pc + 1) ls (zI (bI2c a) :: st) m Q := zq hd rfl
theorem zq_i2b {a : Int} (hd : decode cc pc = .ok (.i2b, 1)) : zW xs xl d cc oc rt ini hh pc ls (zI a :: st) m Q ↔ zW xs xl d cc oc rt ini hh (pc + 1) ls (zI (bI2b a) :: st) m Q := zq hd rfl
theorem zq_i2d {a : Int} (hd : decode cc pc = .ok (.i2d, 1)) : zW xs xl d cc oc rt ini hh pc ls (zI a :: st) m Q ↔ zW xs xl d cc oc rt ini hh (pc + 1) ls (zD (FP.i2d (Int32.ofInt a)) :: st) m Q := zq hd rfl
theorem zq_ddiv {a b : UInt64} (hd : decode cc pc = .ok (.ddiv, 1)) : zW xs xl d cc oc rt ini hh pc ls (zD b :: zD a :: st) m Q ↔ vf_n64 (FP.ddiv a b) ∧ zW xs xl d cc oc rt ini hh (pc + 1) ls (zD (FP.ddiv a b) :: st) m Q := (zq hd rfl).trans zq_g
theorem zq_dcmp {a b : UInt64} {op : ClassFile.CmpOp} (hd : decode cc pc = .ok (.dcmp op, 1)) : zW xs xl d cc oc rt ini hh pc ls (zD b :: zD a :: st) m Q ↔ zW xs xl d cc oc rt ini hh (pc + 1) ls (zI (bDcmp a b op) :: st) m Q := zq hd rfl
theorem zq_if_eq {a off : Int} {t : Nat} (hd : decode cc pc = .ok (.ifCond .eq off, 3)) (ht : (pc : Int) + off = t) : zW xs xl d cc oc rt ini hh pc ls (zI a :: st) m Q ↔ (a = 0 → zW xs xl d cc oc rt ini hh t ls st m Q) ∧ (¬ (a = 0) → zW xs xl d cc oc rt ini hh (pc + 3) ls st m Q) := (zq hd rfl).trans ((zq_j ht).trans zq_b)
theorem zq_icmp_eq {a b off : Int} {t : Nat} (hd : decode cc pc = .ok (.if_icmp .eq off, 3)) (ht : (pc : Int) + off = t) : zW xs xl d cc oc rt ini hh pc ls (zI b :: zI a :: st) m Q ↔ (a = b → zW xs xl d cc oc rt ini hh t ls st m Q) ∧ (¬ (a = b) → zW xs xl d cc oc rt ini hh (pc + 3) ls st m Q) := (zq hd rfl).trans ((zq_j ht).trans zq_b)
theorem zq_if_ne {a off : Int} {t : Nat} (hd : decode cc pc = .ok (.ifCond .ne off, 3)) (ht : (pc : Int) + off = t) : zW xs xl d cc oc rt ini hh pc ls (zI a :: st) m Q ↔ (a ≠ 0 → zW xs xl d cc oc rt ini hh t ls st m Q) ∧ (¬ (a ≠ 0) → zW xs xl d cc oc rt ini hh (pc + 3) ls st m Q) := (zq hd rfl).trans ((zq_j ht).trans zq_b)
theorem zq_icmp_ne {a b off : Int} {t : Nat} (hd : decode cc pc = .ok (.if_icmp .ne off, 3)) (ht : (pc : Int) + off = t) : zW xs xl d cc oc rt ini hh pc ls (zI b :: zI a :: st) m Q ↔ (a ≠ b → zW xs xl d cc oc rt ini hh t ls st m Q) ∧ (¬ (a ≠ b) → zW xs xl d cc oc rt ini hh (pc + 3) ls st m Q) := (zq hd rfl).trans ((zq_j ht).trans zq_b)
theorem zq_if_lt {a off : Int} {t : Nat} (hd : decode cc pc = .ok (.ifCond .lt off, 3)) (ht : (pc : Int) + off = t) : zW xs xl d cc oc rt ini hh pc ls (zI a :: st) m Q ↔ (a < 0 → zW xs xl d cc oc rt ini hh t ls st m Q) ∧ (¬ (a < 0) → zW xs xl d cc oc rt ini hh (pc + 3) ls st m Q) := (zq hd rfl).trans ((zq_j ht).trans zq_b)
theorem zq_icmp_lt {a b off : Int} {t : Nat} (hd : decode cc pc = .ok (.if_icmp .lt off, 3)) (ht : (pc : Int) + off = t) : zW xs xl d cc oc rt ini hh pc ls (zI b :: zI a :: st) m Q ↔ (a < b → zW xs xl d cc oc rt ini hh t ls st m Q) ∧ (¬ (a < b) → zW xs xl d cc oc rt ini hh (pc + 3) ls st m Q) := (zq hd rfl).trans ((zq_j ht).trans zq_b)
theorem zq_if_ge {a off : Int} {t : Nat} (hd : decode cc pc = .ok (.ifCond .ge off, 3)) (ht : (pc : Int) + off = t) : zW xs xl d cc oc rt ini hh pc ls (zI a :: st) m Q ↔ (0 ≤ a → zW xs xl d cc oc rt ini hh t ls st m Q) ∧ (¬ (0 ≤ a) → zW xs xl d cc oc rt ini hh (pc + 3) ls st m Q) := (zq hd rfl).trans ((zq_j ht).trans zq_b)
theorem zq_icmp_ge {a b off : Int} {t : Nat} (hd : decode cc pc = .ok (.if_icmp .ge off, 3)) (ht : (pc : Int) + off = t) : zW xs xl d cc oc rt ini hh pc ls (zI b :: zI a :: st) m Q ↔ (b ≤ a → zW xs xl d cc oc rt ini hh t ls st m Q) ∧ (¬ (b ≤ a) → zW xs xl d cc oc rt ini hh (pc + 3) ls st m Q) := (zq hd rfl).trans ((zq_j ht).trans zq_b)
theorem zq_if_gt {a off : Int} {t : Nat} (hd : decode cc pc = .ok (.ifCond .gt off, 3)) (ht : (pc : Int) + off = t) : zW xs xl d cc oc rt ini hh pc ls (zI a :: st) m Q ↔ (0 < a → zW xs xl d cc oc rt ini hh t ls st m Q) ∧ (¬ (0 < a) → zW xs xl d cc oc rt ini hh (pc + 3) ls st m Q) := (zq hd rfl).trans ((zq_j ht).trans zq_b)
theorem zq_icmp_gt {a b off : Int} {t : Nat} (hd : decode cc pc = .ok (.if_icmp .gt off, 3)) (ht : (pc : Int) + off = t) : zW xs xl d cc oc rt ini hh pc ls (zI b :: zI a :: st) m Q ↔ (b < a → zW xs xl d cc oc rt ini hh t ls st m Q) ∧ (¬ (b < a) → zW xs xl d cc oc rt ini hh (pc + 3) ls st m Q) := (zq hd rfl).trans ((zq_j ht).trans zq_b)
theorem zq_if_le {a off : Int} {t : Nat} (hd : decode cc pc = .ok (.ifCond .le off, 3)) (ht : (pc : Int) + off = t) : zW xs xl d cc oc rt ini hh pc ls (zI a :: st) m Q ↔ (a ≤ 0 → zW xs xl d cc oc rt ini hh t ls st m Q) ∧ (¬ (a ≤ 0) → zW xs xl d cc oc rt ini hh (pc + 3) ls st m Q) := (zq hd rfl).trans ((zq_j ht).trans zq_b)
theorem zq_icmp_le {a b off : Int} {t : Nat} (hd : decode cc pc = .ok (.if_icmp .le off, 3)) (ht : (pc : Int) + off = t) : zW xs xl d cc oc rt ini hh pc ls (zI b :: zI a :: st) m Q ↔ (a ≤ b → zW xs xl d cc oc rt ini hh t ls st m Q) ∧ (¬ (a ≤ b) → zW xs xl d cc oc rt ini hh (pc + 3) ls st m Q) := (zq hd rfl).trans ((zq_j ht).trans zq_b)
theorem zq_ifnull {a : Nat} {off : Int} {t : Nat} (hd : decode cc pc = .ok (.ifnull off, 3)) (ht : (pc : Int) + off = t) : zW xs xl d cc oc rt ini hh pc ls (zR a :: st) m Q ↔ (a = 0 → zW xs xl d cc oc rt ini hh t ls st m Q) ∧ (¬ (a = 0) → zW xs xl d cc oc rt ini hh (pc + 3) ls st m Q) := (zq hd rfl).trans ((zq_j ht).trans zq_b)
theorem zq_ifnonnull {a : Nat} {off : Int} {t : Nat} (hd : decode cc pc = .ok (.ifnonnull off, 3)) (ht : (pc : Int) + off = t) : zW xs xl d cc oc rt ini hh pc ls (zR a :: st) m Q ↔ (a ≠ 0 → zW xs xl d cc oc rt ini hh t ls st m Q) ∧ (¬ (a ≠ 0) → zW xs xl d cc oc rt ini hh (pc + 3) ls st m Q) := (zq hd rfl).trans ((zq_j ht).trans zq_b)
theorem zq_goto {off : Int} {t : Nat} (hd : decode cc pc = .ok (.goto off, 3)) (ht : (pc : Int) + off = t) : zW xs xl d cc oc rt ini hh pc ls st m Q ↔ zW xs xl d cc oc rt ini hh t ls st m Q := (zq hd rfl).trans (zq_j ht)
theorem zq_getI {k ci j f a : Nat} (hd : decode cc pc = .ok (.getfield k, 3)) (hf : zFR oc k = some (ci, j)) (hc : ci < 13) (hq : zisq (zty ci j) = false) (hff : 64 * ci + j = f) : zW xs xl d cc oc rt ini hh pc ls (zR a :: st) m Q ↔ mC m a = ci + 1 ∧ zW xs xl d cc oc rt ini hh (pc + 3) ls (zI (mI m f a) :: st) m Q := by
  subst hff
  refine (zq hd rfl).trans ?_
  simp only [zexe, hf, hq]
  refine zq_g.trans ?_
  rw [and_iff_left hc]
  exact Iff.rfl
theorem zq_getR {k ci j f a : Nat} (hd : decode cc pc = .ok (.getfield k, 3)) (hf : zFR oc k = some (ci, j)) (hc : ci < 13) (hq : zisq (zty ci j) = true) (hff : 64 * ci + j = f) : zW xs xl d cc oc rt ini hh pc ls (zR a :: st) m Q ↔ mC m a = ci + 1 ∧ zW xs xl d cc oc rt ini hh (pc + 3) ls (zR (mR m f a) :: st) m Q := by
  subst hff
  refine (zq hd rfl).trans ?_
  simp only [zexe, hf, hq]
  refine zq_g.trans ?_
  rw [and_iff_left hc]
  exact Iff.rfl
theorem zq_getX {k j x : Nat} {v : zV} (hd : decode cc pc = .ok (.getfield k, 3)) (hf : zFR oc k = some (14, j)) (hv : (if j = 0 then zE (x + 100) else zI 0) = v) : zW xs xl d cc oc rt ini hh pc ls (zE x :: st) m Q ↔ (20 ≤ x ∧ x < 50) ∧ zW xs xl d cc oc rt ini hh (pc + 3) ls (v :: st) m Q := by
  subst hv
  refine (zq hd rfl).trans ?_
  simp only [zexe, hf]
  refine zq_g.trans ?_
  have e : (True ∧ 20 ≤ x ∧ x < 20 + zSN) ↔ (20 ≤ x ∧ x < 50) := ⟨fun h => ⟨h.2.1, h.2.2⟩, fun h => ⟨trivial, h.1, h.2⟩⟩
  rw [e]
  exact Iff.rfl
theorem zq_putI {k ci j f a : Nat} {v : Int} (hd : decode cc pc = .ok (.putfield k, 3)) (hf : zFR oc k = some (ci, j)) (hc : ci < 13) (hq : zty ci j = .int) (hok : zfok oc ini ci j = true) (hff : 64 * ci + j = f) : zW xs xl d cc oc rt ini hh pc ls (zI v :: zR a :: st) m Q ↔ mC m a = ci + 1 ∧ zW xs xl d cc oc rt ini hh (pc + 3) ls st (sI m f a v) Q := by
  subst hff
  refine (zq hd rfl).trans ?_
  simp only [zexe, hf]
  refine zq_g.trans ?_
  have e : (mC m a = ci + 1 ∧ ci < 13 ∧ zisq (zty ci j) = false ∧ zfit (zty ci j) v ∧ zfok oc ini ci j = true) ↔ mC m a = ci + 1 := ⟨fun h => h.1, fun h => ⟨h, hc, by rw [hq]; rfl, by rw [hq]; trivial, hok⟩⟩
  rw [e]
  exact Iff.rfl
theorem zq_putZ {k ci j f a : Nat} {v : Int} (hd : decode cc pc = .ok (.putfield k, 3)) (hf : zFR oc k = some (ci, j)) (hc : ci < 13) (hq : zty ci j = .boolean) (hok : zfok oc ini ci j = true) (hff : 64 * ci + j = f) : zW xs xl d cc oc rt ini hh pc ls (zI v :: zR a :: st) m Q ↔ (mC m a = ci + 1 ∧ (v = 0 ∨ v = 1)) ∧ zW xs xl d cc oc rt ini hh (pc + 3) ls st (sI m f a v) Q := by
  subst hff
  refine (zq hd rfl).trans ?_
  simp only [zexe, hf]
  refine zq_g.trans ?_
  have e : (mC m a = ci + 1 ∧ ci < 13 ∧ zisq (zty ci j) = false ∧ zfit (zty ci j) v ∧ zfok oc ini ci j = true) ↔ (mC m a = ci + 1 ∧ (v = 0 ∨ v = 1)) := ⟨fun h => ⟨h.1, by have := h.2.2.2.1; rw [hq] at this; exact this⟩, fun h => ⟨h.1, hc, by rw [hq]; rfl, by rw [hq]; exact h.2, hok⟩⟩
  rw [e]
  exact Iff.rfl
theorem zq_putR {k ci j f a v : Nat} (hd : decode cc pc = .ok (.putfield k, 3)) (hf : zFR oc k = some (ci, j)) (hc : ci < 13) (hq : zisq (zty ci j) = true) (hok : zfok oc ini ci j = true) (hff : 64 * ci + j = f) : zW xs xl d cc oc rt ini hh pc ls (zR v :: zR a :: st) m Q ↔ mC m a = ci + 1 ∧ zW xs xl d cc oc rt ini hh (pc + 3) ls st (sR m f a v) Q := by
  subst hff
  refine (zq hd rfl).trans ?_
  simp only [zexe, hf]
  refine zq_g.trans ?_
  have e : (mC m a = ci + 1 ∧ ci < 13 ∧ zisq (zty ci j) = true ∧ zfok oc ini ci j = true) ↔ mC m a = ci + 1 := ⟨fun h => h.1, fun h => ⟨h, hc, hq, hok⟩⟩
  rw [e]
  exact Iff.rfl
theorem zq_iald {a : Nat} {j : Int} (hd : decode cc pc = .ok (.iaload, 1)) : zW xs xl d cc oc rt ini hh pc ls (zI j :: zR a :: st) m Q ↔ (mC m a = 20 ∧ 0 ≤ j ∧ j < mN m a) ∧ zW xs xl d cc oc rt ini hh (pc + 1) ls (zI (mA m a j.toNat) :: st) m Q := (zq hd rfl).trans zq_g
theorem zq_ialdE {k : Nat} {j : Int} (hd : decode cc pc = .ok (.iaload, 1)) : zW xs xl d cc oc rt ini hh pc ls (zI j :: zE k :: st) m Q ↔ (zXk k = 1 ∧ 0 ≤ j ∧ j < zXN xl k) ∧ zW xs xl d cc oc rt ini hh (pc + 1) ls (zI (zXI xs k j.toNat) :: st) m Q := (zq hd rfl).trans zq_g
theorem zq_bald {a : Nat} {j : Int} (hd : decode cc pc = .ok (.baload, 1)) : zW xs xl d cc oc rt ini hh pc ls (zI j :: zR a :: st) m Q ↔ ((mC m a = 21 ∨ mC m a = 22) ∧ 0 ≤ j ∧ j < mN m a) ∧ zW xs xl d cc oc rt ini hh (pc + 1) ls (zI (mA m a j.toNat) :: st) m Q := (zq hd rfl).trans zq_g
theorem zq_baldE {k : Nat} {j : Int} (hd : decode cc pc = .ok (.baload, 1)) : zW xs xl d cc oc rt ini hh pc ls (zI j :: zE k :: st) m Q ↔ (zXk k = 2 ∧ 0 ≤ j ∧ j < zXN xl k) ∧ zW xs xl d cc oc rt ini hh (pc + 1) ls (zI (zXI xs k j.toNat) :: st) m Q := (zq hd rfl).trans zq_g
theorem zq_lald {a : Nat} {j : Int} (hd : decode cc pc = .ok (.laload, 1)) : zW xs xl d cc oc rt ini hh pc ls (zI j :: zR a :: st) m Q ↔ (mC m a = 23 ∧ 0 ≤ j ∧ j < mN m a) ∧ zW xs xl d cc oc rt ini hh (pc + 1) ls (zL (mA m a j.toNat) :: st) m Q := (zq hd rfl).trans zq_g
theorem zq_aald {a : Nat} {j : Int} (hd : decode cc pc = .ok (.aaload, 1)) : zW xs xl d cc oc rt ini hh pc ls (zI j :: zR a :: st) m Q ↔ (29 ≤ mC m a ∧ mC m a < 43 ∧ 0 ≤ j ∧ j < mN m a) ∧ zW xs xl d cc oc rt ini hh (pc + 1) ls (zR (mO m a j.toNat) :: st) m Q := (zq hd rfl).trans zq_g
theorem zq_aaldE {k : Nat} {j : Int} (hd : decode cc pc = .ok (.aaload, 1)) : zW xs xl d cc oc rt ini hh pc ls (zI j :: zE k :: st) m Q ↔ (zXk k = 3 ∧ 0 ≤ j ∧ j < zXN xl k) ∧ zW xs xl d cc oc rt ini hh (pc + 1) ls (zE (zXQ k j.toNat) :: st) m Q := (zq hd rfl).trans zq_g
theorem zq_iast {a : Nat} {j v : Int} (hd : decode cc pc = .ok (.iastore, 1)) : zW xs xl d cc oc rt ini hh pc ls (zI v :: zI j :: zR a :: st) m Q ↔ (mC m a = 20 ∧ 0 ≤ j ∧ j < mN m a) ∧ zW xs xl d cc oc rt ini hh (pc + 1) ls st (sA m a j.toNat v) Q := (zq hd rfl).trans zq_g
theorem zq_bast {a : Nat} {j v : Int} (hd : decode cc pc = .ok (.bastore, 1)) : zW xs xl d cc oc rt ini hh pc ls (zI v :: zI j :: zR a :: st) m Q ↔ (((mC m a = 21 ∧ (v = 0 ∨ v = 1)) ∨ (mC m a = 22 ∧ -128 ≤ v ∧ v ≤ 127)) ∧ 0 ≤ j ∧ j < mN m a) ∧ zW xs xl d cc oc rt ini hh (pc + 1) ls st (sA m a j.toNat v) Q := (zq hd rfl).trans zq_g
theorem zq_last {a : Nat} {j v : Int} (hd : decode cc pc = .ok (.lastore, 1)) : zW xs xl d cc oc rt ini hh pc ls (zL v :: zI j :: zR a :: st) m Q ↔ (mC m a = 23 ∧ 0 ≤ j ∧ j < mN m a) ∧ zW xs xl d cc oc rt ini hh (pc + 1) ls st (sA m a j.toNat v) Q := (zq hd rfl).trans zq_g
theorem zq_aast {a v : Nat} {j : Int} (hd : decode cc pc = .ok (.aastore, 1)) : zW xs xl d cc oc rt ini hh pc ls (zR v :: zI j :: zR a :: st) m Q ↔ (30 ≤ mC m a ∧ mC m a < 43 ∧ mC m v + 29 = mC m a ∧ 0 ≤ j ∧ j < mN m a) ∧ zW xs xl d cc oc rt ini hh (pc + 1) ls st (sO m a j.toNat v) Q := (zq hd rfl).trans zq_g
theorem zq_alen {a : Nat} (hd : decode cc pc = .ok (.arraylength, 1)) : zW xs xl d cc oc rt ini hh pc ls (zR a :: st) m Q ↔ (20 ≤ mC m a ∧ mC m a < 43) ∧ zW xs xl d cc oc rt ini hh (pc + 1) ls (zI (wr (mN m a)) :: st) m Q := (zq hd rfl).trans zq_g
theorem zq_alenE {k : Nat} (hd : decode cc pc = .ok (.arraylength, 1)) : zW xs xl d cc oc rt ini hh pc ls (zE k :: st) m Q ↔ zXk k ≠ 0 ∧ zW xs xl d cc oc rt ini hh (pc + 1) ls (zI (wr (zXN xl k)) :: st) m Q := (zq hd rfl).trans zq_g
theorem zq_newarray {ty : ClassFile.ArrayType} {n : Int} {kd : Nat} (hd : decode cc pc = .ok (.newarray ty, 2)) (hk : zak ty = kd) (h0 : kd ≠ 0) : zW xs xl d cc oc rt ini hh pc ls (zI n :: st) m Q ↔ (0 ≤ n ∧ n ≤ 60000000) ∧ zW xs xl d cc oc rt ini hh (pc + 2) ls (zR (mz m) :: st) (nwA m kd n.toNat) Q := by
  subst hk
  refine (zq hd rfl).trans (zq_g.trans ?_)
  have e : (0 ≤ n ∧ n ≤ 60000000 ∧ zak ty ≠ 0) ↔ (0 ≤ n ∧ n ≤ 60000000) := ⟨fun h => ⟨h.1, h.2.1⟩, fun h => ⟨h.1, h.2, h0⟩⟩
  rw [e]
  exact Iff.rfl
theorem zq_anew {k ci nf kd : Nat} {n : Int} (hd : decode cc pc = .ok (.anewarray k, 3)) (hf : zNR oc k = some (ci, nf)) (hok : zaok ci = true) (hk : 30 + ci = kd) : zW xs xl d cc oc rt ini hh pc ls (zI n :: st) m Q ↔ (0 ≤ n ∧ n ≤ 60000000) ∧ zW xs xl d cc oc rt ini hh (pc + 3) ls (zR (mz m) :: st) (nwA m kd n.toNat) Q := by
  subst hk
  refine (zq hd rfl).trans ?_
  simp only [zexe, hf]
  refine zq_g.trans ?_
  have e : (0 ≤ n ∧ n ≤ 60000000 ∧ zaok ci = true) ↔ (0 ≤ n ∧ n ≤ 60000000) := ⟨fun h => ⟨h.1, h.2.1⟩, fun h => ⟨h.1, h.2, hok⟩⟩
  rw [e]
  exact Iff.rfl
theorem zq_mna {n j : Int} (hd : decode cc pc = .ok (.multianewarray zmk 2, 4)) (ho : oc = 9) : zW xs xl d cc oc rt ini hh pc ls (zI j :: zI n :: st) m Q ↔ (0 ≤ n ∧ n ≤ 60000 ∧ 0 ≤ j ∧ j ≤ 60000) ∧ zW xs xl d cc oc rt ini hh (pc + 4) ls (zR (mz m) :: st) (nwB m n.toNat j.toNat) Q := by
  refine (zq hd rfl).trans (zq_g.trans ?_)
  have e : (0 ≤ n ∧ n ≤ 60000 ∧ 0 ≤ j ∧ j ≤ 60000 ∧ oc = 9 ∧ zmk = zmk) ↔ (0 ≤ n ∧ n ≤ 60000 ∧ 0 ≤ j ∧ j ≤ 60000) := ⟨fun h => ⟨h.1, h.2.1, h.2.2.1, h.2.2.2.1⟩, fun h => ⟨h.1, h.2.1, h.2.2.1, h.2.2.2, ho, rfl⟩⟩
  rw [e]
  exact Iff.rfl
theorem zq_new {k ci nf : Nat} (hd : decode cc pc = .ok (.new k, 3)) (hf : zNR oc k = some (ci, nf)) (hn : nf = zN ci) : zW xs xl d cc oc rt ini hh pc ls st m Q ↔ zW xs xl d cc oc rt ini hh (pc + 3) ls (zR (mz m) :: st) (nwO m ci nf) Q := by
  refine (zq hd rfl).trans ?_
  simp only [zexe, hf]
  exact zq_g.trans (and_iff_right hn)
theorem zq_throw {k E is ic : Nat} (hd : decode cc pc = .ok (.new k, 3)) (hf : zNR oc k = none) (hE : zXR oc k = some E) (h3 : decode cc (pc + 3) = .ok (.dup, 1)) (h4 : decode cc (pc + 4) = .ok (.ldc is, 2)) (h6 : decode cc (pc + 6) = .ok (.invokespecial ic, 3)) (h9 : decode cc (pc + 9) = .ok (.athrow, 1)) (hx : zXL oc k is ic = true) : zW xs xl d cc oc rt ini hh pc ls [] m Q ↔ Q (.inr E) (nwX m) := by
  refine (zq hd rfl).trans ?_
  simp only [zexe, hf, hE]
  constructor
  · rintro ⟨n, r, m', ⟨-, -, rfl, rfl⟩, hq⟩; exact hq
  · intro h; exact ⟨0, _, _, ⟨⟨is, ic, h3, h4, h6, h9, hx⟩, by simp, rfl, rfl⟩, h⟩
theorem zq_static {k K n : Nat} {al rest : List zV} (hd : decode cc pc = .ok (.invokestatic k, 3)) (hk : zMR oc k = some (0, K)) (hn : zMn K = n) (ha : (st.take n).reverse = al) (hr : st.drop n = rest) (hl : n ≤ st.length) : zW xs xl d cc oc rt ini hh pc ls st m Q ↔ rest.length ≤ 4 ∧ zC xs xl d K al m (fun r m1 => ∃ rv, r = .inl rv ∧ zW xs xl d cc oc rt ini hh (pc + 3) ls (rv.toList ++ rest) m1 Q) := by
  subst hn; subst ha; subst hr
  refine (zq hd rfl).trans ?_
  simp only [zexe, hk]
  constructor
  · rintro ⟨n, r, m', ⟨rv, m1, h1, h2, h3, h4⟩, hq⟩
    exact ⟨h3, _, _, h1, rv, rfl, n, r, m', h4, hq⟩
  · rintro ⟨h3, r1, m1, h1, rv, rfl, n, r, m', h4, hq⟩
    exact ⟨n, r, m', ⟨rv, m1, h1, hl, h3, h4⟩, hq⟩
theorem zq_virtual {k K n : Nat} {v : zV} {al rest : List zV} (hd : decode cc pc = .ok (.invokevirtual k, 3)) (hk : zMR oc k = some (1, K)) (hn : zMn K = n) (ha : (st.take n).reverse = al) (hr : st.drop n = v :: rest) (hh0 : hh = []) : zW xs xl d cc oc rt ini hh pc ls st m Q ↔ (zrcv m K v ∧ rest.length ≤ 4) ∧ zC xs xl d K (v :: al) m (fun r m1 => ∃ rv, r = .inl rv ∧ zW xs xl d cc oc rt ini hh (pc + 3) ls (rv.toList ++ rest) m1 Q) := by
  subst hn; subst ha
  refine (zq hd rfl).trans ?_
  simp only [zexe, hk]
  constructor
  · rintro ⟨n, r, m', ⟨v', rest', r1, m1, h1, h2, h3, h4, h5⟩, hq⟩
    rw [hr] at h1
    cases h1
    cases r1 with
    | inl rv => exact ⟨⟨h2, h4⟩, _, _, h3, rv, rfl, n, r, m', h5, hq⟩
    | inr E =>
      obtain ⟨t, ht, -⟩ := h5
      rw [hh0] at ht
      cases ht
  · rintro ⟨⟨h2, h4⟩, r1, m1, h1, rv, rfl, n, r, m', h5, hq⟩
    exact ⟨n, r, m', ⟨v, rest, .inl rv, m1, hr, h2, h1, h4, h5⟩, hq⟩
theorem zq_virtualX {k K n : Nat} {v : zV} {al rest : List zV} (hd : decode cc pc = .ok (.invokevirtual k, 3)) (hk : zMR oc k = some (1, K)) (hn : zMn K = n) (ha : (st.take n).reverse = al) (hr : st.drop n = v :: rest) : zW xs xl d cc oc rt ini hh pc ls st m Q ↔ (zrcv m K v ∧ rest.length ≤ 4) ∧ zC xs xl d K (v :: al) m (fun r m1 => (∃ rv, r = .inl rv ∧ zW xs xl d cc oc rt ini hh (pc + 3) ls (rv.toList ++ rest) m1 Q) ∨ ∃ E t, r = .inr E ∧ zhd hh pc E = some t ∧ zW xs xl d cc oc rt ini hh t ls [zE 999] m1 Q) := by
  subst hn; subst ha
  refine (zq hd rfl).trans ?_
  simp only [zexe, hk]
  constructor
  · rintro ⟨n, r, m', ⟨v', rest', r1, m1, h1, h2, h3, h4, h5⟩, hq⟩
    rw [hr] at h1
    cases h1
    cases r1 with
    | inl rv => exact ⟨⟨h2, h4⟩, _, _, h3, Or.inl ⟨rv, rfl, n, r, m', h5, hq⟩⟩
    | inr E =>
      obtain ⟨t, ht, h5⟩ := h5
      exact ⟨⟨h2, h4⟩, _, _, h3, Or.inr ⟨E, t, rfl, ht, n, r, m', h5, hq⟩⟩
  · rintro ⟨⟨h2, h4⟩, r1, m1, h1, h⟩
    rcases h with ⟨rv, rfl, n, r, m', h5, hq⟩ | ⟨E, t, rfl, ht, n, r, m', h5, hq⟩
    · exact ⟨n, r, m', ⟨v, rest, .inl rv, m1, hr, h2, h1, h4, h5⟩, hq⟩
    · exact ⟨n, r, m', ⟨v, rest, .inr E, m1, hr, h2, h1, h4, t, ht, h5⟩, hq⟩
theorem zq_special {k K n a : Nat} {al rest : List zV} (hd : decode cc pc = .ok (.invokespecial k, 3)) (hk : zMR oc k = some (2, K)) (hn : zMn K = n) (ha : (st.take n).reverse = al) (hr : st.drop n = zR a :: rest) : zW xs xl d cc oc rt ini hh pc ls st m Q ↔ (a ≠ 0 ∧ rest.length ≤ 4) ∧ zC xs xl d K (zR a :: al) m (fun r m1 => r = .inl none ∧ zW xs xl d cc oc rt ini hh (pc + 3) ls rest m1 Q) := by
  subst hn; subst ha
  refine (zq hd rfl).trans ?_
  simp only [zexe, hk]
  constructor
  · rintro ⟨n, r, m', ⟨a', rest', m1, h1, h2, h3, h4, h5⟩, hq⟩
    rw [hr] at h1
    cases h1
    exact ⟨⟨h2, h4⟩, _, _, h3, rfl, n, r, m', h5, hq⟩
  · rintro ⟨⟨h2, h4⟩, r1, m1, h1, rfl, n, r, m', h5, hq⟩
    exact ⟨n, r, m', ⟨a, rest, m1, hr, h2, h1, h4, h5⟩, hq⟩
theorem zq_oinit {k K a : Nat} (hd : decode cc pc = .ok (.invokespecial k, 3)) (hk : zMR oc k = some (3, K)) : zW xs xl d cc oc rt ini hh pc ls (zR a :: st) m Q ↔ (a ≠ 0 ∧ st.length ≤ 4) ∧ zW xs xl d cc oc rt ini hh (pc + 3) ls st m Q := by
  refine (zq hd rfl).trans ?_
  simp only [zexe, hk]
  exact zq_g
theorem zq_copy {k K a b : Nat} {n sp dp : Int} (hd : decode cc pc = .ok (.invokestatic k, 3)) (hk : zMR oc k = some (4, K)) : zW xs xl d cc oc rt ini hh pc ls (zI n :: zI dp :: zR b :: zI sp :: zR a :: st) m Q ↔ (0 ≤ n ∧ 0 ≤ dp ∧ 0 ≤ sp ∧ sp + n ≤ mN m a ∧ dp + n ≤ mN m b ∧ mC m a = mC m b ∧ (mC m a = 20 ∨ (mC m a = 21 ∧ ∀ j : Nat, sp ≤ j → j < sp + n → mA m a j = 0 ∨ mA m a j = 1)) ∧ a ≠ b ∧ st.length ≤ 4) ∧ zW xs xl d cc oc rt ini hh (pc + 3) ls st (cpA m a sp.toNat b dp.toNat n.toNat) Q := by
  refine (zq hd rfl).trans ?_
  simp only [zexe, hk]
  exact zq_g
theorem zq_max {k K : Nat} {a b : Int} (hd : decode cc pc = .ok (.invokestatic k, 3)) (hk : zMR oc k = some (5, K)) : zW xs xl d cc oc rt ini hh pc ls (zI b :: zI a :: st) m Q ↔ st.length ≤ 4 ∧ zW xs xl d cc oc rt ini hh (pc + 3) ls (zI (if a < b then b else a) :: st) m Q := by
  refine (zq hd rfl).trans ?_
  simp only [zexe, hk]
  exact zq_g
theorem zq_min {k K : Nat} {a b : Int} (hd : decode cc pc = .ok (.invokestatic k, 3)) (hk : zMR oc k = some (6, K)) : zW xs xl d cc oc rt ini hh pc ls (zI b :: zI a :: st) m Q ↔ st.length ≤ 4 ∧ zW xs xl d cc oc rt ini hh (pc + 3) ls (zI (if b < a then b else a) :: st) m Q := by
  refine (zq hd rfl).trans ?_
  simp only [zexe, hk]
  exact zq_g
theorem zq_abs {k K : Nat} {a : Int} (hd : decode cc pc = .ok (.invokestatic k, 3)) (hk : zMR oc k = some (7, K)) : zW xs xl d cc oc rt ini hh pc ls (zI a :: st) m Q ↔ st.length ≤ 6 ∧ zW xs xl d cc oc rt ini hh (pc + 3) ls (zI (if 0 ≤ a then a else wr (0 - a)) :: st) m Q := by
  refine (zq hd rfl).trans ?_
  simp only [zexe, hk]
  exact zq_g
theorem zq_iret {v : Int} {ty : FieldType} (hd : decode cc pc = .ok (.ireturn, 1)) (hr : rt = some ty) : zW xs xl d cc oc rt ini hh pc ls [zI v] m Q ↔ zfit ty v ∧ Q (.inl (some (zI v))) m := by
  subst hr
  exact (zq hd rfl).trans (zq_g.trans (and_congr_right fun _ => zq_e))
theorem zq_lret {v : Int} (hd : decode cc pc = .ok (.lreturn, 1)) (hr : rt = some .long) : zW xs xl d cc oc rt ini hh pc ls [zL v] m Q ↔ Q (.inl (some (zL v))) m := (zq hd rfl).trans (zq_g.trans ((and_iff_right hr).trans zq_e))
theorem zq_dret {v : UInt64} (hd : decode cc pc = .ok (.dreturn, 1)) (hr : rt = some .double) : zW xs xl d cc oc rt ini hh pc ls [zD v] m Q ↔ Q (.inl (some (zD v))) m := (zq hd rfl).trans (zq_g.trans ((and_iff_right hr).trans zq_e))
theorem zq_aret {v : Nat} {ty : FieldType} (hd : decode cc pc = .ok (.areturn, 1)) (hr : rt = some ty) (ht : zisq ty = true) : zW xs xl d cc oc rt ini hh pc ls [zR v] m Q ↔ Q (.inl (some (zR v))) m := by
  subst hr
  exact (zq hd rfl).trans (zq_g.trans ((and_iff_right ht).trans zq_e))
theorem zq_aretE {v : Nat} {ty : FieldType} (hd : decode cc pc = .ok (.areturn, 1)) (hr : rt = some ty) (ht : zisq ty = true) : zW xs xl d cc oc rt ini hh pc ls [zE v] m Q ↔ Q (.inl (some (zE v))) m := by
  subst hr
  exact (zq hd rfl).trans (zq_g.trans ((and_iff_right ht).trans zq_e))
theorem zq_ret  (hd : decode cc pc = .ok (.return_, 1)) (hr : rt = none) : zW xs xl d cc oc rt ini hh pc ls [] m Q ↔ Q (.inl none) m := (zq hd rfl).trans (zq_g.trans ((and_iff_right hr).trans zq_e))
end ZWP
