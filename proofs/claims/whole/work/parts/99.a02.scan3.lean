/-! all tokens of the reference -/
theorem tokW_46 {t : Nat → Int} {n s : Nat} : (tokW t n s).1 ≠ 46 := by
  unfold tokW
  split
  · show (wordR t n s).1 ≠ 46
    unfold wordR
    split
    · exact (by decide : (63 : Int) ≠ 46)
    · unfold wordK
      split
      · exact (by decide : (115 : Int) ≠ 46)
      · split
        · exact (by decide : (102 : Int) ≠ 46)
        · split
          · exact (by decide : (119 : Int) ≠ 46)
          · exact (by decide : (63 : Int) ≠ 46)
  · split
    · show (if _ then (110 : Int) else 63) ≠ 46
      split <;> decide
    · show (if _ then t s else (63 : Int)) ≠ 46
      split
      · rename_i c; omega
      · decide
theorem kd_46 {t : Nat → Int} {n p : Nat} : kdF t n p = 0 ↔ (tokF t n p).1 = 46 := by
  unfold kdF tokF
  by_cases c : blankF t (n - p) p < n
  · rw [if_pos c, if_pos c]
    refine ⟨fun z => ?_, fun z => absurd z tokW_46⟩
    exfalso
    split at z
    · split at z <;> exact absurd z (by decide)
    · split at z
      · split at z <;> exact absurd z (by decide)
      · split at z <;> exact absurd z (by decide)
  · rw [if_neg c, if_neg c]
    exact ⟨fun _ => rfl, fun _ => rfl⟩
abbrev SFm (x : Nat) (m m' : zM) : Prop := MF x (fun _ => False) (fun a _ => x + 2 ≤ a ∧ a ≤ x + 4) m m'
theorem SFm.e {x a : Nat} {m m' : zM} (f : SFm x m m') (h0 : ¬ (x + 2 ≤ a ∧ a ≤ x + 4)) : Eqv m m' a := ⟨fun k => f.1 k a (fun z => z.2), fun k => by rw [f.2.1.1], fun j => f.2.2 a j h0, fun j => by rw [f.2.1.2.1], by rw [f.2.1.2.2.1], by rw [f.2.1.2.2.2.1]⟩
theorem MdF.eq {m m' : zM} {x : Nat} (h : MdF m x) (h1 : mR m' = mR m) (h2 : mC m' = mC m) (h3 : mN m' = mN m) (h4 : mz m' = mz m) : MdF m' x := by
  unfold MdF
  rw [h1, h2, h3, h4]
  exact h
section ZSP
variable {xs : Nat → Int} {xl d : Nat} {m : zM} {Q : zRes → zM → Prop}
theorem M_scan {x n : Nat} {t : Nat → Int} (h : SR m x n t 0) (hQ : ∀ (m' : zM) (E : Nat), SR m' x n t (E + 1) → (tkF t n E).1 = 46 → (∀ k, k < E → (tkF t n k).1 ≠ 46) → E ≤ n → SFm x m m' → Q (.inl none) m') : zC xs xl (d + 3) 169 [zR x] m Q := by
  have hn := h.2.1.2.1
  have lp : ∀ (r i : Nat) (m1 : zM) (u v : zV), r = n - plF t n i → i ≤ plF t n i → SR m1 x n t i → (∀ k, k < i → (tkF t n k).1 ≠ 46) → SFm x m m1 → zW xs xl (d + 2) cX12_scan 12 (none) false [] 6 [zR x, zI (i : Int), zI ((plF t n i : Nat) : Int), zI 1, u, v] [] m1 Q := by
    intro r
    induction r using Nat.strongRecOn with
    | _ r ih =>
      intro i m1 u v er hi g1 g2 f1
      have hpn := plF_in t n i
      have hend := tokF_in (t := t) hpn
      refine bX12_scan_6 ⟨fun z => absurd z (by decide), fun _ => ?_⟩
      refine M_scan10 g1 (n - plF t n i) (plF t n i) u v rfl hpn (fun s e k hs he hk => ?_)
      obtain ⟨q1, ⟨q2, q3, q4⟩, q5⟩ := id g1
      obtain ⟨-, -, ⟨-, r1, r2, r3, -⟩, ⟨-, k1, k2, k3, -⟩, -, n1, n2, n3, -⟩ := id q1
      have f2 : SFm x m1 (sA (sA (sA m1 (x + 2) i k) (x + 3) i (s : Int)) (x + 4) i (e : Int)) := ((MF.rfl.w ⟨by omega, by omega⟩).w ⟨by omega, by omega⟩).w ⟨by omega, by omega⟩
      have hee : e = plF t n (i + 1) := he
      have g3 : SR (sA (sA (sA m1 (x + 2) i k) (x + 3) i (s : Int)) (x + 4) i (e : Int)) x n t (i + 1) := by
        refine ⟨q1.eq rfl rfl rfl rfl, ⟨q2, q3, fun j hj => (f2.2.2 (x + 1) j (by omega)).trans (q4 j hj)⟩, fun j hj => ?_⟩
        by_cases cj : j = i
        · subst cj
          refine ⟨?_, ?_, ?_⟩
          · rw [(Eqv.nA (by omega)).2.2.1, (Eqv.nA (by omega)).2.2.1, zm_As]; exact hk
          · rw [(Eqv.nA (by omega)).2.2.1, zm_As, hs]
          · rw [zm_As, hee]
        · obtain ⟨w1, w2, w3⟩ := q5 j (by omega)
          refine ⟨?_, ?_, ?_⟩
          · rw [(Eqv.nA (by omega)).2.2.1, (Eqv.nA (by omega)).2.2.1, zm_An cj]; exact w1
          · rw [(Eqv.nA (by omega)).2.2.1, zm_An cj, (Eqv.nA (by omega)).2.2.1]; exact w2
          · rw [zm_An cj, (Eqv.nA (by omega)).2.2.1, (Eqv.nA (by omega)).2.2.1]; exact w3
      have f3 : SFm x m (sA (sA (sA m1 (x + 2) i k) (x + 3) i (s : Int)) (x + 4) i (e : Int)) := f1.tr f2
      refine bX12_scan_176 ⟨g1.1.1, ?_⟩
      rw [r1, r2, r3, k1, k2, k3, n1, n2, n3, Int.toNat_natCast, wr_s (i := i) (by omega)]
      refine ⟨by omega, rfl, by omega, rfl, by omega, rfl, fun c => ?_, fun c => ?_⟩
      · refine bX12_scan_6 ⟨fun _ => ?_, fun z => absurd rfl z⟩
        exact hQ _ i g3 (kd_46.mp (hk.symm.trans c)) g2 (by omega) f3
      · have h46 : (tkF t n i).1 ≠ 46 := fun z => c (hk.trans (kd_46.mpr z))
        have hgo := plF_go h46
        have hpn2 := plF_in t n (i + 1)
        rw [hee] at g3 f3 ⊢
        refine ih (n - plF t n (i + 1)) (by omega) (i + 1) _ _ _ rfl (by omega) g3 (fun j hj => ?_) f3
        by_cases cj : j = i
        · rw [cj]; exact h46
        · exact g2 j (by omega)
  exact bX12_scan_0 (lp (n - 0) 0 m zU zU rfl (Nat.le_refl _) h (fun k hk => absurd hk (Nat.not_lt_zero _)) MF.rfl)
end ZSP
