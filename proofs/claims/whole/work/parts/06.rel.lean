/-! how the machine's values and cells are those of the plain machine -/
theorem wr_id {x : Int} (h1 : -2147483648 ≤ x) (h2 : x < 2147483648) : wr x = x := by unfold wr; omega
theorem wr_bmod (x : Int) : x.bmod 4294967296 = wr x := by
  unfold wr Int.bmod
  simp only [Int.emod_emod_of_dvd]
  split <;> omega
theorem wl_bmod (x : Int) : x.bmod 18446744073709551616 = wl x := by
  unfold wl Int.bmod
  dsimp only
  split <;> omega
/-- addresses of the world -/
def zrr (ws : va_W) (a : Nat) (w : Value) : Prop := (a = 0 ∧ w = .null) ∨ ∃ (i : Nat) (q : Nat × va_E), a = i + 1 ∧ ws[i]? = some q ∧ w = .ref q.1
def zvr (Ev : Nat → Value) (ws : va_W) (v : zV) (w : Value) : Prop := match v with
  | .inl i => ∃ x : Int32, w = .int x ∧ x.toInt = i
  | .inr (.inl a) => zrr ws a w
  | .inr (.inr (.inl i)) => ∃ x : Int64, w = .long x ∧ x.toInt = i
  | .inr (.inr (.inr (.inl k))) => if k = 999 then ∃ a, w = .ref a else w = Ev k
  | .inr (.inr (.inr (.inr (.inl d)))) => w = .double d
  | _ => True
def zsr (Ev : Nat → Value) (ws : va_W) : List zV → List Value → Prop
  | [], [] => True
  | v :: l, w :: r => zvr Ev ws v w ∧ zsr Ev ws l r
  | _, _ => False
def zlr (Ev : Nat → Value) (ws : va_W) (ls : List zV) (lsM : Array Slot) : Prop := lsM.size = ls.length ∧ lv_wf lsM ∧ ∀ (i : Nat) (v : zV), ls[i]? = some v → v = zU ∨ ∃ w : Value, lsM[i]? = some (.val w) ∧ zvr Ev ws v w
def zer (ws : va_W) (tys : List (ClassId × FieldType)) (M : zM) (a : Nat) (e : va_E) : Prop := match e with
  | .inr o => mC M a = o.1 + 1 ∧ o.1 < 13 ∧ o.2.length = zN o.1 ∧ ∀ k, k < zN o.1 → ∃ w : Value, o.2[k]? = some w ∧ (if zisq (zty o.1 k) = true then zrr ws (mR M (64 * o.1 + k) a) w else ∃ x : Int32, w = .int x ∧ x.toInt = mI M (64 * o.1 + k) a)
  | .inl (cA, n, .inl f) => mN M a = n ∧ ((mC M a = 20 ∧ (cA, FieldType.int) ∈ tys) ∨ (mC M a = 21 ∧ (cA, FieldType.boolean) ∈ tys) ∨ (mC M a = 22 ∧ (cA, FieldType.byte) ∈ tys)) ∧ ∀ j : Nat, (f j).toInt = mA M a j
  | .inl (cA, n, .inr (.inl f)) => mN M a = n ∧ (mC M a = 23 ∧ (cA, FieldType.long) ∈ tys) ∧ ∀ j : Nat, (f j).toInt = mA M a j
  | .inl (cA, n, .inr (.inr (.inr (.inr f)))) => mN M a = n ∧ ((mC M a = 29 ∧ (cA, FieldType.array .int) ∈ tys) ∨ ∃ ci : Nat, ci < 13 ∧ mC M a = 30 + ci ∧ (cA, FieldType.object (zcn ci)) ∈ tys) ∧ ∀ j : Nat, zrr ws (mO M a j) (va_rf (f j))
  | _ => False
def zH (M : zM) (ws : va_W) (tys : List (ClassId × FieldType)) : Prop := mz M = ws.length + 1 ∧ (∀ (i : Nat) (q : Nat × va_E), ws[i]? = some q → zer ws tys M (i + 1) q.2) ∧ ∀ a : Nat, (a = 0 ∨ ws.length < a) → mC M a = 0
/-- the world grew, or its cells changed: the addresses stay -/
def zx (ws ws' : va_W) : Prop := ∀ (i : Nat) (q : Nat × va_E), ws[i]? = some q → ∃ q' : Nat × va_E, ws'[i]? = some q' ∧ q'.1 = q.1
theorem zx.rf {ws : va_W} : zx ws ws := fun _ q h => ⟨q, h, rfl⟩
theorem zx.tr {a b c : va_W} (h1 : zx a b) (h2 : zx b c) : zx a c := fun i q h => by
  obtain ⟨q1, e1, f1⟩ := h1 i q h
  obtain ⟨q2, e2, f2⟩ := h2 i q1 e1
  exact ⟨q2, e2, f2.trans f1⟩
theorem zx.set {ws : va_W} {i : Nat} {q q' : Nat × va_E} (h : ws[i]? = some q) (he : q'.1 = q.1) : zx ws (ws.set i q') := fun j p hj => by
  rw [List.getElem?_set]
  by_cases e : i = j
  · subst e
    rw [if_pos rfl, if_pos (List.getElem?_eq_some_iff.mp h).1]
    exact ⟨q', rfl, by rw [he, Option.some.inj (h.symm.trans hj)]⟩
  · rw [if_neg e]; exact ⟨p, hj, rfl⟩
theorem zx.app {ws l : va_W} : zx ws (ws ++ l) := fun i q h => ⟨q, by rw [List.getElem?_append_left (List.getElem?_eq_some_iff.mp h).1]; exact h, rfl⟩
theorem zrr.mv {ws ws' : va_W} {a : Nat} {w : Value} (hx : zx ws ws') (h : zrr ws a w) : zrr ws' a w := by
  rcases h with h | ⟨i, q, h1, h2, h3⟩
  · exact Or.inl h
  · obtain ⟨q', e1, e2⟩ := hx i q h2
    exact Or.inr ⟨i, q', h1, e1, by rw [h3, e2]⟩
theorem zvr.mv {Ev : Nat → Value} {ws ws' : va_W} {v : zV} {w : Value} (hx : zx ws ws') (h : zvr Ev ws v w) : zvr Ev ws' v w := by
  rcases v with i | a | i | k | d | u
  · exact h
  · exact zrr.mv hx h
  · exact h
  · exact h
  · exact h
  · exact h
theorem zsr.mv {Ev : Nat → Value} {ws ws' : va_W} (hx : zx ws ws') : ∀ {l : List zV} {r : List Value}, zsr Ev ws l r → zsr Ev ws' l r
  | [], [], h => h
  | _ :: _, _ :: _, h => ⟨h.1.mv hx, zsr.mv hx h.2⟩
  | [], _ :: _, h => h
  | _ :: _, [], h => h
theorem zlr.mv {Ev : Nat → Value} {ws ws' : va_W} {ls : List zV} {lsM : Array Slot} (hx : zx ws ws') (h : zlr Ev ws ls lsM) : zlr Ev ws' ls lsM := ⟨h.1, h.2.1, fun i v hv => (h.2.2 i v hv).imp id (fun ⟨w, h1, h2⟩ => ⟨w, h1, h2.mv hx⟩)⟩
theorem zsr.app {Ev : Nat → Value} {ws : va_W} : ∀ {l1 l2 : List zV} {r1 r2 : List Value}, zsr Ev ws l1 r1 → zsr Ev ws l2 r2 → zsr Ev ws (l1 ++ l2) (r1 ++ r2)
  | [], _, [], _, _, h => h
  | _ :: _, _, _ :: _, _, h1, h => ⟨h1.1, zsr.app h1.2 h⟩
  | [], _, _ :: _, _, h1, _ => h1.elim
  | _ :: _, _, [], _, h1, _ => h1.elim
theorem zsr.len {Ev : Nat → Value} {ws : va_W} : ∀ {l : List zV} {r : List Value}, zsr Ev ws l r → l.length = r.length
  | [], [], _ => rfl
  | _ :: _, _ :: _, h => by simp [zsr.len h.2]
  | [], _ :: _, h => h.elim
  | _ :: _, [], h => h.elim
theorem zsr.take {Ev : Nat → Value} {ws : va_W} : ∀ (n : Nat) {l : List zV} {r : List Value}, zsr Ev ws l r → zsr Ev ws (l.take n) (r.take n)
  | 0, _, _, _ => trivial
  | _ + 1, [], [], _ => trivial
  | n + 1, _ :: _, _ :: _, h => ⟨h.1, zsr.take n h.2⟩
  | _ + 1, [], _ :: _, h => h.elim
  | _ + 1, _ :: _, [], h => h.elim
theorem zsr.drop {Ev : Nat → Value} {ws : va_W} : ∀ (n : Nat) {l : List zV} {r : List Value}, zsr Ev ws l r → zsr Ev ws (l.drop n) (r.drop n)
  | 0, _, _, h => h
  | _ + 1, [], [], _ => trivial
  | n + 1, _ :: _, _ :: _, h => zsr.drop n h.2
  | _ + 1, [], _ :: _, h => h.elim
  | _ + 1, _ :: _, [], h => h.elim
theorem zsr.rev {Ev : Nat → Value} {ws : va_W} : ∀ {l : List zV} {r : List Value}, zsr Ev ws l r → zsr Ev ws l.reverse r.reverse
  | [], [], _ => trivial
  | v :: l, w :: r, h => by
    rw [List.reverse_cons, List.reverse_cons]
    exact (zsr.rev h.2).app ⟨h.1, trivial⟩
  | [], _ :: _, h => h.elim
  | _ :: _, [], h => h.elim
theorem zsr.cons {Ev : Nat → Value} {ws : va_W} {v : zV} {l : List zV} {r : List Value} (h : zsr Ev ws (v :: l) r) : ∃ (w : Value) (r' : List Value), r = w :: r' ∧ zvr Ev ws v w ∧ zsr Ev ws l r' := by
  cases r with
  | nil => exact h.elim
  | cons w r' => exact ⟨w, r', rfl, h.1, h.2⟩
theorem zsr.nil {Ev : Nat → Value} {ws : va_W} {r : List Value} (h : zsr Ev ws [] r) : r = [] := by
  cases r with
  | nil => rfl
  | cons w r' => exact h.elim
/-- the locals that the machine holds, listed -/
def zlv (lsM : Array Slot) : List (Nat × Value) := (List.range lsM.size).filterMap (fun i => match lsM[i]? with
  | some (Slot.val w) => some (i, w)
  | _ => none)
theorem zlv_mem {lsM : Array Slot} {i : Nat} {w : Value} : (i, w) ∈ zlv lsM ↔ lsM[i]? = some (.val w) := by
  unfold zlv
  rw [List.mem_filterMap]
  constructor
  · rintro ⟨j, -, hj⟩
    split at hj
    · rename_i x hx
      cases hj
      exact hx
    · cases hj
  · intro h
    refine ⟨i, List.mem_range.mpr (Array.getElem?_eq_some_iff.mp h).1, ?_⟩
    rw [h]
theorem zlv_has {lsM : Array Slot} (h : lv_wf lsM) : lv_has lsM lsM.size (zlv lsM) := ⟨rfl, h, fun q hq => zlv_mem.mp hq⟩
theorem zcat_one {Ev : Nat → Value} (hEv : ∀ k, (∃ a, Ev k = .ref a) ∨ Ev k = .null) {ws : va_W} {v : zV} {w : Value} (h : zvr Ev ws v w) (hv : zone v) : w.category = 1 := by
  rcases v with i | a | i | k | d | u
  · obtain ⟨x, rfl, -⟩ := h; rfl
  · rcases h with ⟨-, rfl⟩ | ⟨_, _, -, -, rfl⟩ <;> rfl
  · exact hv.elim
  · have h : if k = 999 then ∃ a, w = .ref a else w = Ev k := h
    split at h
    · obtain ⟨a, rfl⟩ := h; rfl
    · rcases hEv k with ⟨a, e⟩ | e <;> rw [h, e] <;> rfl
  · exact hv.elim
  · exact hv.elim
theorem zst1_len : ∀ (k : Nat) (v : zV) (l : List zV), (zst1 k v l).length = l.length
  | _, _, [] => by simp [zst1]
  | 0, _, _ :: _ => rfl
  | 1, v, a :: l => by simp [zst1, zst1_len 0 v l]
  | k + 2, v, a :: l => by simp [zst1, zst1_len (k + 1) v l]
theorem zst1_at : ∀ (k : Nat) (v : zV) (l : List zV) (i : Nat), k < l.length → (zst1 k v l)[i]? = if i = k then some v else if i + 1 = k then (l[i]?).map zcl else l[i]?
  | _, _, [], _, h => by simp at h
  | 0, v, a :: l, 0, _ => by simp [zst1]
  | 0, v, a :: l, i + 1, _ => by simp [zst1]
  | 1, v, a :: l, 0, _ => by simp [zst1]
  | 1, v, a :: l, i + 1, h => by
    have h1 : 0 < l.length := by simpa using h
    have := zst1_at 0 v l i h1
    simp only [zst1, List.getElem?_cons_succ, this]
    by_cases e : i = 0
    · simp [e]
    · have e2 : ¬ i + 1 + 1 = 1 := by omega
      have e3 : ¬ i + 1 = 1 := by omega
      simp [e]
  | k + 2, v, a :: l, 0, _ => by simp [zst1]
  | k + 2, v, a :: l, i + 1, h => by
    have h1 : k + 1 < l.length := by simp only [List.length_cons] at h; omega
    have := zst1_at (k + 1) v l i h1
    simp only [zst1, List.getElem?_cons_succ, this]
    by_cases e : i = k + 1
    · simp [e]
    · by_cases e2 : i = k
      · simp [e2]
      · simp [e, e2]
theorem zst2_len : ∀ (k : Nat) (v : zV) (l : List zV), (zst2 k v l).length = l.length
  | _, _, [] => by simp [zst2]
  | 0, _, [_] => rfl
  | 0, _, _ :: _ :: _ => rfl
  | 1, v, a :: l => by simp [zst2, zst2_len 0 v l]
  | k + 2, v, a :: l => by simp [zst2, zst2_len (k + 1) v l]
theorem zst2_at : ∀ (k : Nat) (v : zV) (l : List zV) (i : Nat), k + 1 < l.length → (zst2 k v l)[i]? = if i = k then some v else if i = k + 1 then some zU else if i + 1 = k then (l[i]?).map zcl else l[i]?
  | _, _, [], _, h => by simp at h
  | 0, v, [_], _, h => by simp at h
  | 0, v, a :: b :: l, 0, _ => by simp [zst2]
  | 0, v, a :: b :: l, 1, _ => by simp [zst2]
  | 0, v, a :: b :: l, i + 2, _ => by simp [zst2]
  | 1, v, a :: l, 0, _ => by simp [zst2]
  | 1, v, a :: l, i + 1, h => by
    have h1 : 0 + 1 < l.length := by simp only [List.length_cons] at h; omega
    have := zst2_at 0 v l i h1
    simp only [zst2, List.getElem?_cons_succ, this]
    by_cases e : i = 0
    · simp [e]
    · by_cases e2 : i = 1
      · simp [e2]
      · simp [e, e2]
  | k + 2, v, a :: l, 0, _ => by simp [zst2]
  | k + 2, v, a :: l, i + 1, h => by
    have h1 : k + 1 + 1 < l.length := by simp only [List.length_cons] at h; omega
    have := zst2_at (k + 1) v l i h1
    simp only [zst2, List.getElem?_cons_succ, this]
    by_cases e : i = k + 1
    · simp [e]
    · by_cases e2 : i = k + 2
      · simp [e2]
      · by_cases e3 : i = k
        · subst e3
          simp
          omega
        · simp [e, e2, e3]
theorem zcl_or (v : zV) : (zcl v = zU ∧ ¬ zone v) ∨ (zcl v = v ∧ (zone v ∨ v = zU)) := by
  rcases v with i | a | i | k | d | u
  · exact Or.inr ⟨rfl, Or.inl trivial⟩
  · exact Or.inr ⟨rfl, Or.inl trivial⟩
  · exact Or.inl ⟨rfl, fun h => h⟩
  · exact Or.inr ⟨rfl, Or.inl trivial⟩
  · exact Or.inl ⟨rfl, fun h => h⟩
  · exact Or.inr ⟨rfl, Or.inr rfl⟩
theorem zlr_st1 {Ev : Nat → Value} (hEv : ∀ k, (∃ a, Ev k = .ref a) ∨ Ev k = .null) {ws : va_W} {ls : List zV} {lsM ls' : Array Slot} {k : Nat} {v : zV} {w : Value} (h : zlr Ev ws ls lsM) (hv : zvr Ev ws v w) (hk : k < ls.length)
    (h' : lv_has ls' lsM.size ((k, w) :: (zlv lsM).filter (fun q => !(q.1 == k) && !(q.1 + 1 == k && q.2.category == 2)))) : zlr Ev ws (zst1 k v ls) ls' := by
  refine ⟨by rw [zst1_len, h'.1, h.1], h'.2.1, fun i u hu => ?_⟩
  rw [zst1_at k v ls i hk] at hu
  by_cases e : i = k
  · subst e
    rw [if_pos rfl] at hu
    cases hu
    exact Or.inr ⟨w, h'.2.2 (i, w) List.mem_cons_self, hv⟩
  · rw [if_neg e] at hu
    by_cases e2 : i + 1 = k
    · rw [if_pos e2] at hu
      cases ho : ls[i]? with
      | none => rw [ho] at hu; cases hu
      | some x =>
        rw [ho] at hu
        cases hu
        rcases zcl_or x with ⟨hc, -⟩ | ⟨hc, hx⟩
        · exact Or.inl hc
        · rw [hc]
          rcases hx with hx | hx
          · rcases h.2.2 i x ho with rfl | ⟨w1, g1, g2⟩
            · exact Or.inl rfl
            · have g3 := zcat_one hEv g2 hx
              refine Or.inr ⟨w1, h'.2.2 (i, w1) (List.mem_cons_of_mem _ (List.mem_filter.mpr ⟨zlv_mem.mpr g1, ?_⟩)), g2⟩
              simp [e, g3]
          · exact Or.inl hx
    · rw [if_neg e2] at hu
      rcases h.2.2 i u hu with rfl | ⟨w1, g1, g2⟩
      · exact Or.inl rfl
      · refine Or.inr ⟨w1, h'.2.2 (i, w1) (List.mem_cons_of_mem _ (List.mem_filter.mpr ⟨zlv_mem.mpr g1, ?_⟩)), g2⟩
        simp [e, e2]
theorem zlr_st2 {Ev : Nat → Value} (hEv : ∀ k, (∃ a, Ev k = .ref a) ∨ Ev k = .null) {ws : va_W} {ls : List zV} {lsM ls' : Array Slot} {k : Nat} {v : zV} {w : Value} (h : zlr Ev ws ls lsM) (hv : zvr Ev ws v w) (hk : k + 1 < ls.length)
    (h' : lv_has ls' lsM.size ((k, w) :: (zlv lsM).filter (fun q => !(q.1 == k) && (!(q.1 == k + 1) && !(q.1 + 1 == k && q.2.category == 2))))) : zlr Ev ws (zst2 k v ls) ls' := by
  refine ⟨by rw [zst2_len, h'.1, h.1], h'.2.1, fun i u hu => ?_⟩
  rw [zst2_at k v ls i hk] at hu
  by_cases e : i = k
  · subst e
    rw [if_pos rfl] at hu
    cases hu
    exact Or.inr ⟨w, h'.2.2 (i, w) List.mem_cons_self, hv⟩
  · rw [if_neg e] at hu
    by_cases e1 : i = k + 1
    · rw [if_pos e1] at hu
      cases hu
      exact Or.inl rfl
    · rw [if_neg e1] at hu
      by_cases e2 : i + 1 = k
      · rw [if_pos e2] at hu
        cases ho : ls[i]? with
        | none => rw [ho] at hu; cases hu
        | some x =>
          rw [ho] at hu
          cases hu
          rcases zcl_or x with ⟨hc, -⟩ | ⟨hc, hx⟩
          · exact Or.inl hc
          · rw [hc]
            rcases hx with hx | hx
            · rcases h.2.2 i x ho with rfl | ⟨w1, g1, g2⟩
              · exact Or.inl rfl
              · have g3 := zcat_one hEv g2 hx
                refine Or.inr ⟨w1, h'.2.2 (i, w1) (List.mem_cons_of_mem _ (List.mem_filter.mpr ⟨zlv_mem.mpr g1, ?_⟩)), g2⟩
                simp [e, e1, g3]
            · exact Or.inl hx
      · rw [if_neg e2] at hu
        rcases h.2.2 i u hu with rfl | ⟨w1, g1, g2⟩
        · exact Or.inl rfl
        · refine Or.inr ⟨w1, h'.2.2 (i, w1) (List.mem_cons_of_mem _ (List.mem_filter.mpr ⟨zlv_mem.mpr g1, ?_⟩)), g2⟩
          simp [e, e1, e2]
