/-! words as numbers -/
def vL : List Int → Int
  | [] => 0
  | c :: r => vL r * 32 + (c - 96)
theorem vL_pos : ∀ {l : List Int}, (∀ c ∈ l, isL c) → 0 ≤ vL l ∧ (l ≠ [] → 0 < vL l)
  | [], _ => ⟨Int.le_refl _, fun z => absurd rfl z⟩
  | c :: r, h => by
    have g := (vL_pos (l := r) (fun q hq => h q (List.mem_cons_of_mem _ hq))).1
    have hc := h c List.mem_cons_self
    have e : vL (c :: r) = vL r * 32 + (c - 96) := rfl
    exact ⟨by omega, fun _ => by omega⟩
theorem vL_inj : ∀ {l k : List Int}, (∀ c ∈ l, isL c) → (∀ c ∈ k, isL c) → vL l = vL k → l = k
  | [], [], _, _, _ => rfl
  | [], c :: r, _, h2, e => by
    have := (vL_pos h2).2 (by simp)
    have e0 : vL [] = 0 := rfl
    omega
  | c :: r, [], h1, _, e => by
    have := (vL_pos h1).2 (by simp)
    have e0 : vL [] = 0 := rfl
    omega
  | c :: r, b :: s, h1, h2, e => by
    have hc := h1 c List.mem_cons_self
    have hb := h2 b List.mem_cons_self
    have e1 : vL (c :: r) = vL r * 32 + (c - 96) := rfl
    have e2 : vL (b :: s) = vL s * 32 + (b - 96) := rfl
    rw [e1, e2] at e
    have hcb : c = b := by omega
    have hrs : vL r = vL s := by omega
    rw [hcb, vL_inj (fun q hq => h1 q (List.mem_cons_of_mem _ hq)) (fun q hq => h2 q (List.mem_cons_of_mem _ hq)) hrs]
theorem pk1_eq {a c : Int} (ha : 0 ≤ a ∧ a < 34359738368) (hc : isL c) : pk1 a c = a * 32 + (c - 96) := by
  unfold pk1 wl
  omega
theorem pk_vL : ∀ (r : List Int), (∀ c ∈ r, isL c) → r.length ≤ 8 → r.reverse.foldl pk1 0 = vL r ∧ vL r < 32 ^ r.length
  | [], _, _ => ⟨rfl, by decide⟩
  | c :: r, h, hl => by
    have hl' : r.length + 1 ≤ 8 := hl
    obtain ⟨g1, g2⟩ := pk_vL r (fun q hq => h q (List.mem_cons_of_mem _ hq)) (by omega)
    have g0 := (vL_pos (l := r) (fun q hq => h q (List.mem_cons_of_mem _ hq))).1
    have hc := h c List.mem_cons_self
    have hp : (32 : Int) ^ r.length ≤ 34359738368 := by
      have h7 : r.length ≤ 7 := by omega
      have hn : 32 ^ r.length ≤ 32 ^ 7 := Nat.pow_le_pow_right (by decide) h7
      have : ((32 ^ r.length : Nat) : Int) ≤ ((32 ^ 7 : Nat) : Int) := Int.ofNat_le.mpr hn
      simpa using this
    have e : vL (c :: r) = vL r * 32 + (c - 96) := rfl
    refine ⟨?_, ?_⟩
    · rw [List.reverse_cons, List.foldl_append, g1]
      exact (pk1_eq ⟨g0, by omega⟩ hc).trans e.symm
    · rw [e]
      have ep : (32 : Int) ^ (c :: r).length = 32 ^ r.length * 32 := by
        show (32 : Int) ^ (r.length + 1) = _
        exact Int.pow_succ _ _
      rw [ep]
      generalize (32 : Int) ^ r.length = P at g2 ⊢
      omega
/-- words of letters, at most eight, are told by their numbers -/
theorem word_inj {l k : List Int} (h1 : ∀ c ∈ l, isL c) (h2 : ∀ c ∈ k, isL c) (l1 : l.length ≤ 8) (l2 : k.length ≤ 8) (e : l.foldl pk1 0 = k.foldl pk1 0) : l = k := by
  have q1 := (pk_vL l.reverse (fun c hc => h1 c (List.mem_reverse.mp hc)) (by rw [List.length_reverse]; exact l1)).1
  have q2 := (pk_vL k.reverse (fun c hc => h2 c (List.mem_reverse.mp hc)) (by rw [List.length_reverse]; exact l2)).1
  rw [List.reverse_reverse] at q1 q2
  have q := vL_inj (fun c hc => h1 c (List.mem_reverse.mp hc)) (fun c hc => h2 c (List.mem_reverse.mp hc)) (q1.symm.trans (e.trans q2))
  rw [← List.reverse_reverse l, q, List.reverse_reverse]
