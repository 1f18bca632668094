/-! the law: its loop, the whole -/
abbrev QF (xsl : Unit) : zRes → zM → Prop := fun r m' => r = .inl (some (zI 1)) ∧ mc m' ≤ 601024 ∧ mu m' ≤ 7293033
theorem LI.skip {m : zM} {B : zB} {k : Nat} (h : LI m B k) : LI m B (k + 1) := ⟨h.1, h.2.1.nx, by have := h.2.2.1; omega, by have := h.2.2.2; omega⟩
section ZLL
variable {xs : Nat → Int} {xl d : Nat}
theorem S_loop (hx : xl ≤ 3072) : ∀ (r k i : Nat) (m : zM) (B : zB) (a5 a6 a7 a8 : zV), i = 6 * k → i + r = 3078 → i ≤ xl → LI m B k → zW xs xl (d + 15) cL_law 13 (some .boolean) false [] 23 [zE 0, zR 1, zR 405, zR 475, zI (i : Int), a5, a6, a7, a8] [] m (QF ()) := by
  intro r
  induction r using Nat.strongRecOn with
  | _ r ih =>
    intro k i m B a5 a6 a7 a8 ei er hxl h
    have e0 : zXN xl 0 = xl := if_pos rfl
    have hk : k < 600 := by omega
    have w1 : wr (xl : Int) = (xl : Int) := wr_id (by omega) (by omega)
    have w2 : wr ((xl : Int) - 6) = (xl : Int) - 6 := wr_id (by omega) (by omega)
    have hN : i + 6 ≤ xl → ∀ (m2 : zM) (B2 : zB) (l5 l6 l7 l8 : zV), LI m2 B2 (k + 1) → zW xs xl (d + 15) cL_law 13 (some .boolean) false [] 1565 [zE 0, zR 1, zR 405, zR 475, zI (i : Int), l5, l6, l7, l8] [] m2 (QF ()) := by
      intro hi m2 B2 l5 l6 l7 l8 g
      refine bL_law_1565 ?_
      rw [wr_id (x := (i : Int) + 6) (by omega) (by omega), show (i : Int) + 6 = ((i + 6 : Nat) : Int) by omega]
      exact ih (r - 6) (by omega) (k + 1) (i + 6) m2 B2 l5 l6 l7 l8 (by omega) (by omega) hi g
    refine bL_law_23 ⟨by decide, ?_⟩
    rw [e0, w1, w2]
    refine ⟨fun _ => ⟨rfl, by have := h.2.2.1; omega, by have := h.2.2.2; omega⟩, fun c => ?_⟩
    have hi : i + 6 ≤ xl := by omega
    have hN' := hN hi
    refine ⟨⟨rfl, by omega, by omega⟩, fun _ => S_feed h hk hi hx hN', fun _ => ⟨fun _ => S_trim h hk hi hx hN', fun _ => ⟨fun _ => S_compile h hk hi hx hN', fun _ => ⟨fun _ => S_errorAt h hk hi hx hN', fun _ => ⟨fun _ => S_plan h hk hi hx hN', fun _ => ⟨fun _ => S_addPlank h hk hi hx hN', fun _ => ⟨fun _ => S_addKnot h hk hi hx hN', fun _ => ⟨fun _ => S_plank h hk hi hx hN', fun _ => ⟨fun _ => S_find h hk hi hx hN', fun _ => ⟨fun _ => S_addFrame h hk hi hx hN', fun _ => ⟨fun _ => S_frames h hk hi hx hN', fun _ => ⟨fun _ => S_addSlip h hk hi hx hN', fun _ => ⟨fun _ => S_start h hk hi hx hN', fun _ => ⟨fun _ => S_lend h hk hi hx hN', fun _ => ⟨fun _ => S_slip h hk hi hx hN', fun _ => ⟨fun _ => S_bend h hk hi hx hN', fun _ => ⟨fun _ => S_stuck h hk hi hx hN', fun _ => ⟨fun _ => S_run h hk hi hx hN', fun _ => ⟨fun _ => S_count h hk hi hx hN', fun _ => ⟨fun _ => S_hull h hk hi hx hN', fun _ => ⟨fun _ => S_foresee h hk hi hx hN', fun _ => ⟨fun _ => S_flaw h hk hi hx hN', fun _ => ⟨fun _ => S_digest h hk hi hx hN', fun _ => hN' m B _ _ _ _ (h.skip)⟩⟩⟩⟩⟩⟩⟩⟩⟩⟩⟩⟩⟩⟩⟩⟩⟩⟩⟩⟩⟩⟩⟩
/-- the whole law on the plain machine -/
theorem law_all (hx : xl ≤ 3072) (m : zM) (hz : mz m = 1) (hc : mc m = 0) (hu : mu m = 0) : zC xs xl (d + 16) 244 [zE 0] m (QF ()) := by
  refine bL_law_0 (fun m1 e1 => ⟨by omega, ?_⟩)
  rw [hz]
  have c1 : mC m1 1 = 11 := by rw [e1, ← hz]; exact if_pos rfl
  have z1 : mz m1 = 2 := by rw [e1]; show mz m + 1 = 2; omega
  have k1 : mc m1 = 1 ∧ mu m1 = 5 := by rw [e1]; exact ⟨by show mc m + 1 = 1; omega, by show mu m + 5 = 5; omega⟩
  clear e1
  refine C_newBd c1 z1 (by decide) (fun m2 hB z2 f2 => ⟨rfl, fun m5 e5 => ⟨by rw [z2]; decide, ?_⟩⟩)
  rw [z2]
  have c5 : mC m5 405 = 13 := by rw [e5, show 405 = mz m2 from z2.symm]; exact if_pos rfl
  have z5 : mz m5 = 406 := by rw [e5]; show mz m2 + 1 = 406; omega
  have i5 : ∀ f, mI m5 f 405 = 0 := fun f => by rw [e5]; exact if_pos z2.symm
  have k5 : mc m5 ≤ 405 ∧ mu m5 ≤ 4093 := by
    have a1 := f2.2.2.1
    have a2 := f2.2.2.2
    rw [e5]; exact ⟨by show mc m2 + 1 ≤ _; omega, by show mu m2 + 18 ≤ _; omega⟩
  have v5 : ∀ b, b < 405 → Eqv m2 m5 b := fun b hb => by rw [e5]; exact eq_nwO (by omega)
  clear e5
  refine C_newModel c5 z5 (by decide) i5 (fun m6 hM z6 f6 => ⟨rfl, fun m9 e9 => ?_⟩)
  rw [z6]
  have z9 : mz m9 = 476 := by rw [e9]; show mz m6 + 1 = 476; omega
  have o9 : mC m9 475 = 23 ∧ mN m9 475 = 1 := by rw [e9]; exact ⟨if_pos z6.symm, if_pos z6.symm⟩
  have k9 : mc m9 ≤ 1000 ∧ mu m9 ≤ 30000 := by
    have a1 := f6.2.2.1
    have a2 := f6.2.2.2
    rw [e9]; exact ⟨by show mc m6 + 1 ≤ _; omega, by show mu m6 + 1 ≤ _; omega⟩
  have v9 : ∀ b, b < 405 → Eqv m2 m9 b := fun b hb => ((v5 b hb).tr (f6.1 b (by omega) (fun z => by have : 405 ≤ b := z; omega))).tr (by rw [e9]; exact eq_nwA (by omega))
  have M9 : Md m9 405 B0 := by
    have g : Fr (rg 475 476) 1 1 m6 m9 := by rw [e9]; exact (Fr.rfl (k := 0) (u := 0)).nwA
    exact hM.fr g (Or.inl (by decide))
  have Bd9 : Bd 476 m9 1 B0 := hB.bd z2 v9 (by decide) (by omega)
  exact S_loop hx 3078 0 0 m9 B0 _ _ _ _ rfl rfl (Nat.zero_le _) ⟨⟨Bd9, M9, o9⟩, B0_I, by omega, by omega⟩
end ZLL
