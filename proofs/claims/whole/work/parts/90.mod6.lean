/-! what the reference tells of plans -/
theorem wr_wr (a : Int) : wr (wr a) = wr a := by
  unfold wr
  omega
def gK (k : Nat) (a : Int) (q : zAc) : Int := if k = 1 then (if q.1 = 2 then wr (a + 1) else wr (a + 0)) else if k = 2 then (if q.1 = 2 then wr (a + q.2.2.1) else wr (a + 0)) else (if q.1 = 3 ∨ q.1 = 4 ∨ q.1 = 6 then wr (a + q.2.1) else wr (a + 1))
theorem gK_wr {k : Nat} {a : Int} {q : zAc} : wr (gK k a q) = gK k a q := by
  unfold gK
  split
  · split <;> exact wr_wr _
  · split
    · split <;> exact wr_wr _
    · split <;> exact wr_wr _
theorem gK_1 : ∀ (l : List zAc) (a : Int), wr a = a → l.foldl (gK 1) a = l.foldl (fun a q => if q.1 = 2 then wr (a + 1) else a) a
  | [], _, _ => rfl
  | q :: l, a, h => by
    have e : gK 1 a q = if q.1 = 2 then wr (a + 1) else a := by
      show (if q.1 = 2 then wr (a + 1) else wr (a + 0)) = _
      rw [Int.add_zero, h]
    show l.foldl (gK 1) (gK 1 a q) = l.foldl _ (if q.1 = 2 then wr (a + 1) else a)
    rw [← e]
    exact gK_1 l _ gK_wr
theorem gK_2 : ∀ (l : List zAc) (a : Int), wr a = a → l.foldl (gK 2) a = l.foldl (fun a q => if q.1 = 2 then wr (a + q.2.2.1) else a) a
  | [], _, _ => rfl
  | q :: l, a, h => by
    have e : gK 2 a q = if q.1 = 2 then wr (a + q.2.2.1) else a := by
      show (if q.1 = 2 then wr (a + q.2.2.1) else wr (a + 0)) = _
      rw [Int.add_zero, h]
    show l.foldl (gK 2) (gK 2 a q) = l.foldl _ (if q.1 = 2 then wr (a + q.2.2.1) else a)
    rw [← e]
    exact gK_2 l _ gK_wr
theorem gK_T {l : List zAc} {k : Nat} (hk : 1 ≤ k ∧ k ≤ 3) : l.foldl (gK k) 0 = plT l k := by
  have hk3 : k = 1 ∨ k = 2 ∨ k = 3 := by omega
  rcases hk3 with c | c | c <;> subst c
  · exact gK_1 l 0 (wr_id (by decide) (by decide))
  · exact gK_2 l 0 (wr_id (by decide) (by decide))
  · rfl
theorem foldl_take {l : List zAc} {j : Nat} {q : zAc} {f : Int → zAc → Int} {a : Int} (h : l[j]? = some q) : (l.take (j + 1)).foldl f a = f ((l.take j).foldl f a) q := by
  rw [List.take_add_one, h, List.foldl_append]
  rfl
theorem wr_4s {i j : Nat} (hi : i < 6) (hj : j < 60) : wr (4 * (wr (wr (60 * (i : Int)) + (j : Int)))) = ((4 * (60 * i + j) : Nat) : Int) := by
  rw [wr_id (x := 60 * (i : Int)) (by omega) (by omega), wr_id (x := 60 * (i : Int) + (j : Int)) (by omega) (by omega), wr_id (by omega) (by omega)]; omega
section ZMI
variable {xs : Nat → Int} {xl d : Nat} {m : zM} {Q : zRes → zM → Prop}
theorem M_planTold {x i k : Nat} {B : zB} (h : Md m x B) (hi : i < 6) (hk : k ≤ 3) (hQ : Q (.inl (some (zI (plT (bP B i) k)))) m) : zC xs xl (d + 1) 184 [zR x, zI (i : Int), zI (k : Int)] m Q := by
  obtain ⟨hC, hz, ⟨-, -, -, -, rp, rq, -, -, -⟩, ⟨-, -, -, -, kp, kq, -⟩, -, -, -, -, np, nq, -⟩ := h.1
  obtain ⟨p1, p2, p3⟩ := h.2.2.2.1 i hi
  refine bX12_planTold_0 ⟨fun z => ?_, fun z => ⟨hC, ?_⟩⟩
  · have hk3 : 1 ≤ k ∧ k ≤ 3 := by omega
    rw [← gK_T hk3] at hQ
    have lp : ∀ (r j : Nat) (u v w : zV), j + r = (bP B i).length → zW xs xl d cX12_planTold 12 (some .int) false [] 16 [zR x, zI (i : Int), zI (k : Int), zI (((bP B i).take j).foldl (gK k) 0), zI (j : Int), u, v, w] [] m Q := by
      intro r
      induction r with
      | zero =>
        intro j u v w e
        have ej : j = (bP B i).length := by omega
        refine bX12_planTold_16 ⟨hC, ?_⟩
        rw [rp, kp, np, Int.toNat_natCast, p1]
        refine ⟨rfl, by omega, fun _ => ?_, fun z => absurd (by omega) z⟩
        rw [ej, List.take_length]; exact hQ
      | succ r ih =>
        intro j u v w e
        obtain ⟨q, hq⟩ : ∃ q, (bP B i)[j]? = some q := ⟨_, List.getElem?_eq_getElem (by omega)⟩
        obtain ⟨q1, q2, q3, q4⟩ := p3 j q hq
        have nx := fun u v w => ih (j + 1) u v w (by omega)
        rw [foldl_take hq] at nx
        generalize ((bP B i).take j).foldl (gK k) 0 = a at nx ⊢
        have i1 : wr (((4 * (60 * i + j) : Nat) : Int) + 1) = ((4 * (60 * i + j) + 1 : Nat) : Int) := by rw [wr_id (by omega) (by omega)]; omega
        have i2 : wr (((4 * (60 * i + j) : Nat) : Int) + 2) = ((4 * (60 * i + j) + 2 : Nat) : Int) := by rw [wr_id (by omega) (by omega)]; omega
        have tl : ∀ (c : Int), (k ≠ 3 → zI a = zI a) → ∀ a' : Int, (k ≠ 3 → a' = gK k a q) → (k = 3 → a' = a) → zW xs xl d cX12_planTold 12 (some .int) false [] 104 [zR x, zI (i : Int), zI (k : Int), zI a', zI (j : Int), zI ((4 * (60 * i + j) : Nat) : Int), zI q.1, zI c] [] m Q := by
          intro c _ a' g1 g2
          refine bX12_planTold_104 ⟨fun z3 => ?_, fun z3 => ?_⟩
          · rw [wr_s (i := j) (by omega), g1 (by omega)]; exact nx _ _ _
          · have k3 : k = 3 := by omega
            have eg : gK k a q = if q.1 = 3 ∨ q.1 = 4 ∨ q.1 = 6 then wr (a + q.2.1) else wr (a + 1) := by rw [k3]; rfl
            rw [g2 k3, wr_s (i := j) (by omega), i1, rq, kq, nq, Int.toNat_natCast, q2]
            rw [eg] at nx
            refine ⟨fun c3 => ⟨hC, rfl, by omega, ?_⟩, fun c3 => ⟨fun c4 => ⟨hC, rfl, by omega, ?_⟩, fun c4 => ⟨fun c6 => ?_, fun c6 => ⟨hC, rfl, by omega, ?_⟩⟩⟩⟩
            · rw [if_pos (Or.inl c3)] at nx; exact nx _ _ _
            · rw [if_pos (Or.inr (Or.inl c4))] at nx; exact nx _ _ _
            · rw [if_neg (fun w => w.elim c3 (fun w => w.elim c4 c6))] at nx; exact nx _ _ _
            · rw [if_pos (Or.inr (Or.inr (Decidable.not_not.mp c6)))] at nx; exact nx _ _ _
        have md : ∀ (c : Int), (c = 0 ↔ q.1 ≠ 2) → ∀ a' : Int, (k = 1 → a' = gK k a q) → (k ≠ 1 → a' = a) → zW xs xl d cX12_planTold 12 (some .int) false [] 78 [zR x, zI (i : Int), zI (k : Int), zI a', zI (j : Int), zI ((4 * (60 * i + j) : Nat) : Int), zI q.1, zI c] [] m Q := by
          intro c hc a' g1 g2
          refine bX12_planTold_78 ⟨fun z2 => ?_, fun z2 => ⟨fun z3 => ?_, fun z3 => ⟨hC, ?_⟩⟩⟩
          · refine tl c (fun _ => rfl) a' (fun n3 => g1 (by omega)) (fun n3 => g2 (by omega))
          · have k2 : k = 2 := by omega
            rw [g2 (by omega)]
            refine tl c (fun _ => rfl) _ (fun _ => ?_) (fun n3 => by omega)
            rw [k2]
            exact (if_neg (hc.mp z3)).symm
          · have k2 : k = 2 := by omega
            have hq2 : q.1 = 2 := Decidable.byContradiction (fun w => z3 (hc.mpr w))
            rw [g2 (by omega), i2, rq, kq, nq, Int.toNat_natCast, q3 (Or.inl hq2)]
            refine ⟨rfl, by omega, tl c (fun _ => rfl) _ (fun _ => ?_) (fun n3 => by omega)⟩
            rw [k2]
            exact (if_pos hq2).symm
        refine bX12_planTold_16 ⟨hC, ?_⟩
        rw [rp, kp, np, rq, kq, nq, wr_4s hi (by omega), Int.toNat_natCast, Int.toNat_natCast, p1, q1]
        refine ⟨rfl, by omega, fun z => absurd z (by omega), fun _ => ⟨rfl, by omega, fun c => ⟨fun c1 => ?_, fun c1 => ?_⟩, fun c => ⟨fun c1 => ?_, fun c1 => ?_⟩⟩⟩
        · exact md 0 ⟨fun _ => c, fun _ => rfl⟩ a (fun n => absurd (by omega) c1) (fun _ => rfl)
        · refine md 0 ⟨fun _ => c, fun _ => rfl⟩ _ (fun n => ?_) (fun n => absurd (by omega) c1)
          rw [n]; exact (if_neg c).symm
        · exact md 1 ⟨fun z => absurd z (by decide), fun z => absurd z c⟩ a (fun n => absurd (by omega) c1) (fun _ => rfl)
        · refine md 1 ⟨fun z => absurd z (by decide), fun z => absurd z c⟩ _ (fun n => ?_) (fun n => absurd (by omega) c1)
          rw [n]; exact (if_pos (Decidable.not_not.mp c)).symm
    exact lp (bP B i).length 0 _ _ _ (by omega)
  · have k0 : k = 0 := by omega
    subst k0
    rw [rp, kp, np, Int.toNat_natCast, p1]
    exact ⟨rfl, by omega, hQ⟩
theorem M_plan {x : Nat} {B : zB} {i k : Int} (h : Md m x B) (hQ : eM m x 0 0 (aPlan B i k) B Q) : zC xs xl (d + 2) 185 [zR x, zI i, zI k] m Q := by
  have no : ¬ (inF i 6 ∧ inF k 4) → zC xs xl (d + 1) 162 [zR x, zI 1] (sI m 768 x 0) (fun r m4 => ∃ v5 : Int, r = .inl (some (zI v5)) ∧ Q (.inl (some (zI v5))) m4) := fun c => by
    rw [show aPlan B i k = (1, 0) from if_neg c] at hQ
    exact eM.no (n := 1) (by decide) h hQ thF h.th
  refine bX12_plan_0 ⟨h.1.1, M_in (fun c => ⟨1, rfl, fun z => absurd z (by decide), fun _ => ?_⟩) (fun c => ⟨0, rfl, fun _ => ⟨h.1.1, no (fun z => c ⟨z.1.1, by have := z.1.2; omega⟩)⟩, fun z => absurd rfl z⟩)⟩
  refine M_in (fun c2 => ⟨1, rfl, fun z => absurd z (by decide), fun _ => ⟨h.1.1, ?_⟩⟩) (fun c2 => ⟨0, rfl, fun _ => ⟨h.1.1, no (fun z => c2 ⟨z.2.1, by have := z.2.2; omega⟩)⟩, fun z => absurd rfl z⟩)
  rw [show aPlan B i k = (0, plT (bP B i.toNat) k.toNat) from if_pos ⟨⟨c.1, by omega⟩, c2.1, by omega⟩] at hQ
  obtain ⟨a, ha⟩ := Int.eq_ofNat_of_zero_le c.1
  obtain ⟨n, hn⟩ := Int.eq_ofNat_of_zero_le c2.1
  subst ha hn
  exact M_planTold h.th (by omega) (by omega) ⟨_, rfl, hQ _ _ h.th th0 (fun _ => rfl) thF⟩
end ZMI
