theorem Sc.kind {m : zM} {a tp p s : Nat} {k v k' : Int} (g : Sc m a tp p k v s) : Sc (sI m 322 a k') a tp p k' v s := ⟨g.1, g.2.1, (zm_In (by decide)).trans g.2.2.1, zm_Is, (zm_In (by decide)).trans g.2.2.2.2.1, (zm_In (by decide)).trans g.2.2.2.2.2⟩
theorem Sc.go {m : zM} {a tp p s p' : Nat} {k v q : Int} (g : Sc m a tp p k v s) (e : q = p') : Sc (sI m 321 a q) a tp p' k v s := ⟨g.1, g.2.1, zm_Is.trans e, (zm_In (by decide)).trans g.2.2.2.1, (zm_In (by decide)).trans g.2.2.2.2.1, (zm_In (by decide)).trans g.2.2.2.2.2⟩
theorem Sc.val {m : zM} {a tp p s : Nat} {k v v' : Int} (g : Sc m a tp p k v s) : Sc (sI m 324 a v') a tp p k v' s := ⟨g.1, g.2.1, (zm_In (by decide)).trans g.2.2.1, (zm_In (by decide)).trans g.2.2.2.1, (zm_In (by decide)).trans g.2.2.2.2.1, zm_Is⟩
theorem Sc.beg {m : zM} {a tp p s s' : Nat} {k v q : Int} (g : Sc m a tp p k v s) (e : q = s') : Sc (sI m 323 a q) a tp p k v s' := ⟨g.1, g.2.1, (zm_In (by decide)).trans g.2.2.1, (zm_In (by decide)).trans g.2.2.2.1, zm_Is.trans e, (zm_In (by decide)).trans g.2.2.2.2.2⟩
theorem Tp.fr {m m' : zM} {a b n k u : Nat} {t : Nat → Int} (h : Tp m b n t) (f : Fr (rg a (a + 1)) k u m m') (hb : b + 2 ≤ a ∨ a < b) : Tp m' b n t := h.mv f.2.1 (f.1 b (by have := h.1.2.2.2.2; omega) (fun q => by unfold rg at q; omega)) (f.1 (b + 1) (by have := h.1.2.2.2.2; omega) (fun q => by unfold rg at q; omega))
section ZTM
variable {xs : Nat → Int} {xl d : Nat} {m : zM} {Q : zRes → zM → Prop}
theorem C_readWord {a tp n s : Nat} {k : Int} {t : Nat → Int} (h : Sc m a tp s k 0 s) (hT : Tp m tp n t) (hs : s ≤ n) (ha : tp + 2 ≤ a ∨ a < tp) (hQ : ∀ m', Sc m' a tp (wordF t (n - s) s 0).1 (wordR t n s).1 (wordR t n s).2 s → Fr (rg a (a + 1)) 0 0 m m' → Q (.inl none) m') : zC xs xl (d + 6) 49 [zR a] m Q := by
  have hr : rg a (a + 1) a := by unfold rg; omega
  have hn := hT.2.1.2
  have hwi := wordF_in (t := t) (k := n - s) (p := s) (a := 0)
  have h62 : ∀ (m1 : zM) (u : zV), Sc m1 a tp (wordF t (n - s) s 0).1 k 0 s → Fr (rg a (a + 1)) 0 0 m m1 → zW xs xl (d + 5) cX5_readWord 5 (none) false [] 62 [zR a, zL (wordF t (n - s) s 0).2, u] [] m1 Q := by
    intro m1 u g f
    refine bX5_readWord_62 ⟨g.1, ?_⟩
    rw [g.2.2.1, g.2.2.2.2.1]
    have ew : wr (((wordF t (n - s) s 0).1 : Int) - (s : Int)) = ((wordF t (n - s) s 0).1 : Int) - (s : Int) := wr_id (by omega) (by omega)
    rw [ew]
    unfold wordR at hQ
    refine ⟨fun c => ?_, fun c => ?_⟩
    · rw [if_neg (by omega)] at hQ
      unfold wordK at hQ
      refine C_isAmong g (by omega) (fun m2 g2 f2 => ⟨_, rfl, fun c1 => ⟨g2.1, C_isAmong g2 (by omega) (fun m3 g3 f3 => ⟨_, rfl, fun c2 => ⟨g3.1, C_isAmong g3 (by omega) (fun m4 g4 f4 => ⟨_, rfl, fun c3 => ?_, fun c3 => ?_⟩)⟩, fun c2 => ?_⟩)⟩, fun c1 => ?_⟩)
      · rw [if_neg (fun q => q c1), if_neg (fun q => q c2), if_neg (fun q => q c3)] at hQ
        exact ⟨g4.1, hQ _ g4.kind ((((f.tr0 f2).tr0 f3).tr0 f4).sI hr)⟩
      · rw [if_neg (fun q => q c1), if_neg (fun q => q c2), if_pos c3] at hQ
        exact ⟨g4.1, hQ _ g4.kind ((((f.tr0 f2).tr0 f3).tr0 f4).sI hr)⟩
      · rw [if_neg (fun q => q c1), if_pos c2] at hQ
        exact ⟨g3.1, hQ _ g3.kind (((f.tr0 f2).tr0 f3).sI hr)⟩
      · rw [if_pos c1] at hQ
        exact ⟨g2.1, hQ _ g2.kind ((f.tr0 f2).sI hr)⟩
    · rw [if_pos (by omega)] at hQ
      exact hQ _ g.kind (f.sI hr)
  have lp : ∀ (j p : Nat) (acc : Int) (m1 : zM) (u : zV), p + j = n → Sc m1 a tp p k 0 s → Fr (rg a (a + 1)) 0 0 m m1 → wordF t j p acc = wordF t (n - s) s 0 → zW xs xl (d + 5) cX5_readWord 5 (none) false [] 2 [zR a, zL acc, u] [] m1 Q := by
    intro j
    induction j with
    | zero =>
      intro p acc m1 u e g f hw
      have hT1 := hT.fr f ha
      have e1 : wordF t 0 p acc = (p, acc) := rfl
      rw [e1] at hw
      have q := h62 m1 u (by rw [← hw]; exact g) f
      rw [← hw] at q
      refine bX5_readWord_2 ⟨g.1, by rw [g.2.1]; exact hT1.1.1, fun _ => q, fun c => absurd ?_ c⟩
      rw [g.2.1, g.2.2.1, hT1.2.1.1]; omega
    | succ j ih =>
      intro p acc m1 u e g f hw
      have hT1 := hT.fr f ha
      have e1 : wordF t (j + 1) p acc = if isL (t p) then wordF t j (p + 1) (pk1 acc (t p)) else (p, acc) := rfl
      have eat : atF t n p = t p := if_pos (by omega)
      rw [e1] at hw
      refine bX5_readWord_2 ⟨g.1, by rw [g.2.1]; exact hT1.1.1, fun c => absurd c ?_, fun _ => ?_⟩
      · rw [g.2.1, g.2.2.1, hT1.2.1.1]; omega
      · rw [g.2.1, g.2.2.1]
        refine C_at hT1 ⟨_, rfl, C_isL ⟨_, rfl, fun c => ?_, fun c => ⟨g.1, by rw [g.2.1]; exact hT1.1.1, ?_⟩⟩⟩
        · rw [eat] at c
          rw [if_neg (fun q => by rw [if_pos q] at c; exact absurd c (by decide))] at hw
          have q := h62 m1 u (by rw [← hw]; exact g) f
          rw [← hw] at q
          exact q
        · rw [eat] at c
          rw [if_pos (Decidable.byContradiction (fun q => c (if_neg q)))] at hw
          rw [g.2.1, g.2.2.1]
          refine C_at hT1 ⟨_, rfl, bX5_withLetter_0 ⟨_, rfl, g.1, ?_⟩⟩
          rw [g.2.2.1, eat, wr_s (by omega)]
          exact ih (p + 1) (pk1 acc (t p)) _ _ (by omega) (g.go rfl) (f.sI hr) hw
  exact bX5_readWord_0 (lp (n - s) s 0 m _ (by omega) h Fr.rfl rfl)
theorem C_readNumber {a tp n s : Nat} {k : Int} {t : Nat → Int} (h : Sc m a tp s k 0 s) (hT : Tp m tp n t) (hs : s ≤ n) (ha : tp + 2 ≤ a ∨ a < tp) (hQ : ∀ m', Sc m' a tp (numF t s (n - s) s 0).1 (if (numF t s (n - s) s 0).1 ≤ s + 3 then 110 else 63) (numF t s (n - s) s 0).2 s → Fr (rg a (a + 1)) 0 0 m m' → Q (.inl none) m') : zC xs xl (d + 2) 50 [zR a] m Q := by
  have hr : rg a (a + 1) a := by unfold rg; omega
  have hn := hT.2.1.2
  have hwi := numF_in (t := t) (s := s) (k := n - s) (p := s) (a := 0)
  have h83 : ∀ (m1 : zM), Sc m1 a tp (numF t s (n - s) s 0).1 k (numF t s (n - s) s 0).2 s → Fr (rg a (a + 1)) 0 0 m m1 → zW xs xl (d + 1) cX5_readNumber 5 (none) false [] 83 [zR a] [] m1 Q := by
    intro m1 g f
    refine bX5_readNumber_83 ⟨g.1, ?_⟩
    rw [g.2.2.1, g.2.2.2.2.1]
    have ew : wr (((numF t s (n - s) s 0).1 : Int) - (s : Int)) = ((numF t s (n - s) s 0).1 : Int) - (s : Int) := wr_id (by omega) (by omega)
    rw [ew]
    refine ⟨fun c => ?_, fun c => ?_⟩
    · rw [if_pos (by omega)] at hQ
      exact hQ _ g.kind (f.sI hr)
    · rw [if_neg (by omega)] at hQ
      exact hQ _ g.kind (f.sI hr)
  have lp : ∀ (j p : Nat) (v : Int) (m1 : zM), p + j = n → s ≤ p → Sc m1 a tp p k v s → Fr (rg a (a + 1)) 0 0 m m1 → numF t s j p v = numF t s (n - s) s 0 → zW xs xl (d + 1) cX5_readNumber 5 (none) false [] 0 [zR a] [] m1 Q := by
    intro j
    induction j with
    | zero =>
      intro p v m1 e hsp g f hw
      have hT1 := hT.fr f ha
      have e1 : numF t s 0 p v = (p, v) := rfl
      rw [e1] at hw
      have q := h83 m1 (by rw [← hw]; exact g) f
      refine bX5_readNumber_0 ⟨g.1, by rw [g.2.1]; exact hT1.1.1, fun _ => q, fun c => absurd ?_ c⟩
      rw [g.2.1, g.2.2.1, hT1.2.1.1]; omega
    | succ j ih =>
      intro p v m1 e hsp g f hw
      have hT1 := hT.fr f ha
      have e1 : numF t s (j + 1) p v = if isD (t p) then numF t s j (p + 1) (if p < s + 3 then wr (wr (wr (v * 10) + t p) - 48) else v) else (p, v) := rfl
      have eat : atF t n p = t p := if_pos (by omega)
      rw [e1] at hw
      refine bX5_readNumber_0 ⟨g.1, by rw [g.2.1]; exact hT1.1.1, fun c => absurd c ?_, fun _ => ?_⟩
      · rw [g.2.1, g.2.2.1, hT1.2.1.1]; omega
      · rw [g.2.1, g.2.2.1]
        refine C_at hT1 ⟨_, rfl, C_isD ⟨_, rfl, fun c => ?_, fun c => ⟨g.1, ?_⟩⟩⟩
        · rw [eat] at c
          rw [if_neg (fun q => by rw [if_pos q] at c; exact absurd c (by decide))] at hw
          exact h83 m1 (by rw [← hw]; exact g) f
        · rw [eat] at c
          rw [if_pos (Decidable.byContradiction (fun q => c (if_neg q)))] at hw
          rw [g.2.2.1, g.2.2.2.2.1, g.2.1, g.2.2.2.2.2, wr_id (x := (p : Int) - (s : Int)) (by omega) (by omega), wr_s (by omega)]
          refine ⟨fun c2 => ?_, fun c2 => ⟨hT1.1.1, C_at hT1 ⟨_, rfl, g.1, ?_⟩⟩⟩
          · rw [if_neg (by omega)] at hw
            exact ih (p + 1) v _ (by omega) (by omega) (g.go rfl) (f.sI hr) hw
          · rw [if_pos (by omega)] at hw
            rw [eat, g.2.2.1, wr_s (by omega)]
            exact ih (p + 1) _ _ (by omega) (by omega) (g.val.go rfl) ((f.sI hr).sI hr) hw
  exact zk_50 (lp (n - s) s 0 m (by omega) (Nat.le_refl _) h Fr.rfl rfl)
theorem C_next {a tp n p s : Nat} {k v : Int} {t : Nat → Int} (h : Sc m a tp p k v s) (hT : Tp m tp n t) (ht : ∀ i, i < n → 0 ≤ t i) (hp : p ≤ n) (ha : tp + 2 ≤ a ∨ a < tp) (hQ : ∀ m', Sc m' a tp (tokF t n p).2.2.2 (tokF t n p).1 (tokF t n p).2.1 (tokF t n p).2.2.1 → Fr (rg a (a + 1)) 0 0 m m' → Q (.inl none) m') : zC xs xl (d + 7) 48 [zR a] m Q := by
  have hr : rg a (a + 1) a := by unfold rg; omega
  have hn := hT.2.1.2
  have h44 : ∀ (q : Nat) (m1 : zM) (u : zV), q ≤ n → blankF t (n - p) p = q → Sc m1 a tp q k v s → Fr (rg a (a + 1)) 0 0 m m1 → zW xs xl (d + 6) cX5_next 5 (none) false [] 44 [zR a, u] [] m1 Q := by
    intro q m1 u hq hb g f
    have hT1 := hT.fr f ha
    unfold tokF at hQ
    rw [hb] at hQ
    refine bX5_next_44 ⟨g.1, by rw [g.2.1]; exact hT1.1.1, ?_⟩
    rw [g.2.1, g.2.2.1]
    have g2 : Sc (sI (sI m1 323 a (q : Int)) 324 a 0) a tp q k 0 q := (g.beg rfl).val
    have f2 : Fr (rg a (a + 1)) 0 0 m (sI (sI m1 323 a (q : Int)) 324 a 0) := (f.sI hr).sI hr
    generalize sI (sI m1 323 a (q : Int)) 324 a 0 = m2 at g2 f2
    have hT2 := hT.fr f2 ha
    refine C_at hT2 ⟨_, rfl, fun c => ?_, fun c => ⟨g2.1, ?_⟩⟩
    · have cq : q < n := Decidable.byContradiction (fun z => by
        have : atF t n q = -1 := if_neg z
        rw [this] at c; exact absurd c (by decide))
      have eat : atF t n q = t q := if_pos cq
      rw [if_pos cq] at hQ
      unfold tokW at hQ
      rw [eat]
      refine C_isL ⟨_, rfl, fun c1 => C_isD ⟨_, rfl, fun c2 => C_isS ⟨_, rfl, fun c3 => ⟨g2.1, ?_⟩, fun c3 => ⟨g2.1, ?_⟩⟩, fun c2 => ⟨g2.1, ?_⟩⟩, fun c1 => ⟨g2.1, ?_⟩⟩
      · rw [if_neg (fun z : isL (t q) => by rw [if_pos z] at c1; exact absurd c1 (by decide)), if_neg (fun z : isD (t q) => by rw [if_pos z] at c2; exact absurd c2 (by decide)), if_neg (fun z : isS (t q) => by rw [if_pos z] at c3; exact absurd c3 (by decide))] at hQ
        rw [g2.2.2.1, wr_s (by omega)]
        exact hQ _ (g2.kind.go rfl) ((f2.sI hr).sI hr)
      · rw [if_neg (fun z : isL (t q) => by rw [if_pos z] at c1; exact absurd c1 (by decide)), if_neg (fun z : isD (t q) => by rw [if_pos z] at c2; exact absurd c2 (by decide)), if_pos (Decidable.byContradiction (fun z : ¬ isS (t q) => c3 (if_neg z)))] at hQ
        rw [g2.2.2.1, wr_s (by omega)]
        exact hQ _ (g2.kind.go rfl) ((f2.sI hr).sI hr)
      · rw [if_neg (fun z : isL (t q) => by rw [if_pos z] at c1; exact absurd c1 (by decide)), if_pos (Decidable.byContradiction (fun z : ¬ isD (t q) => c2 (if_neg z)))] at hQ
        exact C_readNumber g2 hT2 (by omega) ha (fun m3 g3 f3 => ⟨rfl, hQ m3 g3 (f2.tr0 f3)⟩)
      · rw [if_pos (Decidable.byContradiction (fun z : ¬ isL (t q) => c1 (if_neg z)))] at hQ
        exact C_readWord g2 hT2 (by omega) ha (fun m3 g3 f3 => ⟨rfl, hQ m3 g3 (f2.tr0 f3)⟩)
    · have cq : ¬ (q < n) := fun z => by
        have : atF t n q = t q := if_pos z
        rw [this] at c
        exact c (ht q z)
      rw [if_neg cq] at hQ
      exact hQ _ g2.kind (f2.sI hr)
  have lp : ∀ (j q : Nat) (m1 : zM), q + j = n → blankF t j q = blankF t (n - p) p → Sc m1 a tp q k v s → Fr (rg a (a + 1)) 0 0 m m1 → zW xs xl (d + 6) cX5_next 5 (none) false [] 0 [zR a, zU] [] m1 Q := by
    intro j
    induction j with
    | zero =>
      intro q m1 e hb g f
      have hT1 := hT.fr f ha
      refine bX5_next_0 ⟨g.1, by rw [g.2.1]; exact hT1.1.1, fun _ => h44 q m1 _ (by omega) hb.symm g f, fun c => absurd ?_ c⟩
      rw [g.2.1, g.2.2.1, hT1.2.1.1]; omega
    | succ j ih =>
      intro q m1 e hb g f
      have hT1 := hT.fr f ha
      have e1 : blankF t (j + 1) q = if isB (t q) then blankF t j (q + 1) else q := rfl
      have eat : atF t n q = t q := if_pos (by omega)
      rw [e1] at hb
      refine bX5_next_0 ⟨g.1, by rw [g.2.1]; exact hT1.1.1, fun c => absurd c ?_, fun _ => ?_⟩
      · rw [g.2.1, g.2.2.1, hT1.2.1.1]; omega
      · rw [g.2.1, g.2.2.1]
        refine C_at hT1 ⟨_, rfl, C_isB ⟨_, rfl, fun c => ?_, fun c => ⟨g.1, ?_⟩⟩⟩
        · rw [eat] at c
          rw [if_neg (fun z => by rw [if_pos z] at c; exact absurd c (by decide))] at hb
          exact h44 q m1 _ (by omega) hb.symm g f
        · rw [eat] at c
          rw [if_pos (Decidable.byContradiction (fun z => c (if_neg z)))] at hb
          rw [g.2.2.1, wr_s (by omega)]
          exact ih (q + 1) _ (by omega) hb (g.go rfl) (f.sI hr)
  exact zk_48 (lp (n - p) p m (by omega) rfl h Fr.rfl)
end ZTM
