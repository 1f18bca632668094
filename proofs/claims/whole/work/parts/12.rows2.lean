section ZROW2
variable {p : Program} {l : Launch} {e : Env} {R : Room} {s : State} {m : MethodId} {args : Array Value} {below : List Frame} {meth : Method} {c : Code} {Q : State → Prop} {D : va_G} {b0 : Nat} {Ev : Nat → Value} {xs : Nat → Int} {xl nL c0 u0 : Nat} {Mf : zM} {cc : ByteArray} {oc : Nat} {rt : Option FieldType} {ini : Bool} {hh : List (Nat × Nat × Nat × Nat × Nat)} {pc : Nat} {ls st : List zV} {M : zM}
theorem zrr.own {ws : va_W} {M : zM} {tys : List (ClassId × FieldType)} {a : Nat} {w : Value} (h : zrr ws a w) (ha : a ≠ 0) : ∃ (i : Nat) (q : Nat × va_E), a = i + 1 ∧ ws[i]? = some q ∧ w = .ref q.1 := h.elim (fun q => absurd q.1 ha) id
theorem zs_getf {k ci j a : Nat} (C : zCx p l s m args meth c b0 Ev xs xl nL cc oc rt ini hh) (hd : decode cc pc = .ok (.getfield k, 3)) (hf : zFR oc k = some (ci, j)) (hc : mC M a = ci + 1) (hlt : ci < 13) (kn : zAt p l e R s m args below meth c Q D b0 Ev nL c0 u0 Mf (pc + 3) (ls) ((if zisq (zty ci j) then zR (mR M (64 * ci + j) a) else zI (mI M (64 * ci + j) a)) :: st) (M)) : zAt p l e R s m args below meth c Q D b0 Ev nL c0 u0 Mf (pc) (ls) (zR a :: st) (M) := by
  intro H locs cells slots ws tys lsM stM S
  obtain ⟨w, r, rfl, h2, h3⟩ := S.2.2.2.2.2.2.1.cons
  obtain ⟨i, ad, fs, rfl, hw, hl, hv⟩ := S.1.obj hc hlt
  rcases h2 with ⟨h2, -⟩ | ⟨i', q, h2, h4, rfl⟩
  · omega
  have : i' = i := by omega
  subst this
  have e1 : q = (ad, .inr (ci, fs)) := Option.some.inj (h4.symm.trans hw)
  subst e1
  obtain ⟨hj, hn, hlk⟩ := zFR_ok hf hlt
  obtain ⟨w, w1, w2⟩ := hv j hj
  have kn := kn H locs cells slots ws tys lsM (w :: r) (S.stk ⟨by
    by_cases z : zisq (zty ci j) = true
    · rw [if_pos z] at w2 ⊢; exact w2
    · rw [if_neg z] at w2 ⊢; exact w2, h3⟩)
  rcases hlk with hlk | ⟨-, host, hlk⟩
  · exact va_get (D := D) (ci := ci) C.1 C.2.1 C.2.2.2.2.1 (zu_in hlt) C.2.2.2.1 S.2.2.1 S.2.1 i' hw (zcl_at hlt) j hj (C.2.2.2.2.1 _ hlk) (fun x hx => by rwa [hn] at hx) w1 hd kn
  · exact va_getN (D := D) (ci := ci) (host := host) C.1 C.2.1 C.2.2.2.2.1 (zu_in hlt) C.2.2.2.1 S.2.2.1 S.2.1 i' hw (zcl_at hlt) j hj (va_Nw.use rfl (C.2.2.2.2.2.1.2.2.2.2.2.1 _ hlk)) (fun x hx => by rwa [hn] at hx) w1 hd kn
theorem zs_getfX {k ci j x : Nat} (C : zCx p l s m args meth c b0 Ev xs xl nL cc oc rt ini hh) (hd : decode cc pc = .ok (.getfield k, 3)) (hf : zFR oc k = some (ci, j)) (hc : ci = 14) (h20 : 20 ≤ x) (hx : x < 20 + zSN) (kn : zAt p l e R s m args below meth c Q D b0 Ev nL c0 u0 Mf (pc + 3) (ls) ((if j = 0 then zE (x + 100) else zI 0) :: st) (M)) : zAt p l e R s m args below meth c Q D b0 Ev nL c0 u0 Mf (pc) (ls) (zE x :: st) (M) := by
  intro H locs cells slots ws tys lsM stM S
  obtain ⟨w, r, rfl, h2, h3⟩ := S.2.2.2.2.2.2.1.cons
  have h2 : if x = 999 then ∃ a, w = .ref a else w = Ev x := h2
  have hs : x - 20 < zSN := by omega
  rw [if_neg (by have : zSN = 30 := rfl; omega)] at h2
  obtain ⟨q, e1, e2, e3, -⟩ := C.2.2.2.2.2.1.2.2.2.2.1 (x - 20) hs
  rw [show 20 + (x - 20) = x by omega] at e1
  rw [e1] at h2
  subst h2
  rcases zFR_str hf hc with ⟨rfl, hl⟩ | ⟨hj, hl⟩
  · refine vk_getf C.1 C.2.1 e2 S.2.2.2.2.1 C.2.2.2.1 (C.2.2.2.2.1 _ hl) (fun _ h => h) hd (kn _ _ _ _ _ _ _ _ (S.stk ⟨?_, h3⟩))
    show if x + 100 = 999 then _ else _ = Ev (x + 100)
    rw [if_neg (by have : zSN = 30 := rfl; omega), show 120 + (x - 20) = x + 100 by omega]
  · refine vk_getf C.1 C.2.1 e3 S.2.2.2.2.1 C.2.2.2.1 (C.2.2.2.2.1 _ hl) (fun _ h => h) hd (kn _ _ _ _ _ _ _ _ (S.stk ⟨?_, h3⟩))
    rw [if_neg hj]
    exact ⟨0, rfl, rfl⟩
/-- the memory is another, of the same counts -/
theorem zSt.mem {M' : zM} {ls st st' : List zV} {H H' : Heap} {locs locs' : List Loc} {cells slots : Nat} {ws ws' : va_W} {tys tys' : List (ClassId × FieldType)} {lsM : Array Slot} {stM stM' : List Value} (h : zSt s R D b0 Ev nL c0 u0 Mf ls st M H locs cells slots ws tys lsM stM) (hx : zx ws ws') (hc : mc M' = mc M) (hu : mu M' = mu M) (h1 : zH M' ws' tys') (h2 : va_P D vwCl ws' H') (h3 : va_K D vwCl tys' s) (h4 : va_D (fun q => b0 ≤ q) ws') (h5 : va_S (fun q => b0 ≤ q) s.heap H' locs') (h7 : zsr Ev ws' st' stM') : zSt s R D b0 Ev nL c0 u0 Mf ls st' M' H' locs' cells slots ws' tys' lsM stM' := by
  obtain ⟨-, -, -, -, -, g6, -, g8, g9⟩ := h
  exact ⟨h1, h2, h3, h4, h5, g6.mv hx, h7, g8, by rw [hc, hu]; exact g9⟩
theorem zfits {ty : FieldType} {x : Int32} (h : zfit ty x.toInt) : narrow ty (.int x) = .int x ∧ fits ty (.int x) = true := by
  have z0 : (0 : Int32).toInt = 0 := rfl
  have z1 : (1 : Int32).toInt = 1 := rfl
  cases ty with
  | int => exact ⟨rfl, rfl⟩
  | boolean =>
    rcases h with h | h
    · have : x = 0 := Int32.toInt_inj.mp (h.trans z0.symm)
      subst this; exact ⟨rfl, rfl⟩
    · have : x = 1 := Int32.toInt_inj.mp (h.trans z1.symm)
      subst this; exact ⟨rfl, rfl⟩
  | byte =>
    have h1 : -128 ≤ x.toInt ∧ x.toInt ≤ 127 := h
    refine ⟨?_, ?_⟩
    · show Value.int x.toInt8.toInt32 = _
      congr 1
      apply Int32.toInt_inj.mp
      rw [Int8.toInt_toInt32, Int32.toInt_toInt8]
      show x.toInt.bmod 256 = _
      unfold Int.bmod
      dsimp only
      split <;> omega
    · show (decide (-128 ≤ x) && decide (x ≤ 127)) = true
      rw [Bool.and_eq_true, decide_eq_true_eq, decide_eq_true_eq]
      exact ⟨Int32.le_iff_toInt_le.mpr h1.1, Int32.le_iff_toInt_le.mpr h1.2⟩
  | char =>
    have h1 : 0 ≤ x.toInt ∧ x.toInt ≤ 65535 := h
    have h0 : (0 : Int32) ≤ x := Int32.le_iff_toInt_le.mpr (by rw [z0]; exact h1.1)
    refine ⟨?_, ?_⟩
    · show Value.int x.toUInt32.toUInt16.toUInt32.toInt32 = _
      congr 1
      have e1 : (x.toUInt32.toNat : Int) = x.toInt := by
        have := Int32.toInt_eq_toNat_of_nonneg x h1.1
        exact this
      apply Int32.toInt_inj.mp
      sorry
    · show (decide (0 ≤ x) && decide (x ≤ 65535)) = true
      rw [Bool.and_eq_true, decide_eq_true_eq, decide_eq_true_eq]
      exact ⟨h0, Int32.le_iff_toInt_le.mpr h1.2⟩
  | _ => exact h.elim
theorem zs_putI {k ci j a : Nat} {v : Int} (C : zCx p l s m args meth c b0 Ev xs xl nL cc oc rt ini hh) (hd : decode cc pc = .ok (.putfield k, 3)) (hf : zFR oc k = some (ci, j)) (hc : mC M a = ci + 1) (hlt : ci < 13) (hq : zisq (zty ci j) = false) (hfit : zfit (zty ci j) v) (hok : zfok oc ini ci j = true) (kn : zAt p l e R s m args below meth c Q D b0 Ev nL c0 u0 Mf (pc + 3) (ls) (st) (sI M (64 * ci + j) a v)) : zAt p l e R s m args below meth c Q D b0 Ev nL c0 u0 Mf (pc) (ls) (zI v :: zR a :: st) (M) := by
  intro H locs cells slots ws tys lsM stM S
  obtain ⟨w, r, rfl, ⟨x, rfl, rfl⟩, h3⟩ := S.2.2.2.2.2.2.1.cons
  obtain ⟨w, r, rfl, h2, h9⟩ := h3.cons
  obtain ⟨i, ad, fs, rfl, hw, hl, hv⟩ := S.1.obj hc hlt
  rcases h2 with ⟨h2, -⟩ | ⟨i', q, h2, h4, rfl⟩
  · omega
  have : i' = i := by omega
  subst this
  have e1 : q = (ad, .inr (ci, fs)) := Option.some.inj (h4.symm.trans hw)
  subst e1
  obtain ⟨hj, hn, hlk⟩ := zFR_ok hf hlt
  obtain ⟨z1, z2⟩ := zfits hfit
  have hx : zx ws (ws.set i' (ad, .inr (ci, fs.set j (.int x)))) := zx.set hw rfl
  have kn := fun (H1 : Heap) (locs1 : List Loc) g1 g2 g3 => kn H1 locs1 cells slots _ tys lsM r (S.mem hx rfl rfl (zH_sI S.1 hw hj hq rfl) g1 S.2.2.1 g2 g3 (h9.mv hx))
  rcases hlk with hlk | ⟨hfin0, host, hlk⟩
  · cases hfin : (zT ci j).2.2.2 with
    | false => exact va_put (D := D) (ci := ci) (ty := zty ci j) C.1 C.2.1 C.2.2.2.2.1 (zu_in hlt) (zty ci) (zty_ok hlt) (znm_ok hlt) C.2.2.2.1 S.2.2.1 S.2.1 S.2.2.2.1 S.2.2.2.2.1 i' hw (zcl_at hlt) j hj (C.2.2.2.2.1 _ hlk) (fun x hx => by rwa [hn] at hx) hfin (zty_ok hlt j hj) z1 z2 (by rw [hl]; exact hj) hd kn
    | true =>
      simp only [zfok, hfin, Bool.not_true, Bool.false_or, Bool.and_eq_true, beq_iff_eq] at hok
      exact va_putF (D := D) (ci := ci) (ty := zty ci j) C.1 C.2.1 C.2.2.2.2.1 (zu_in hlt) (zty ci) (zty_ok hlt) (znm_ok hlt) C.2.2.2.1 S.2.2.1 S.2.1 S.2.2.2.1 S.2.2.2.2.1 i' hw (zcl_at hlt) j hj (C.2.2.2.2.1 _ hlk) (fun x hx => by rwa [hn] at hx) hfin (C.2.2.2.2.2.2.2.2.1 hok.1) (by rw [hn, hok.2]) (zty_ok hlt j hj) z1 z2 (by rw [hl]; exact hj) hd kn
  · have hfin : (zT ci j).2.2.2 = false := by
      cases hfin : (zT ci j).2.2.2 with
      | false => rfl
      | true =>
        simp only [zfok, hfin, Bool.not_true, Bool.false_or, Bool.and_eq_true, beq_iff_eq] at hok
        exact absurd hok.2 hfin0
    exact va_putN (D := D) (ci := ci) (host := host) (ty := zty ci j) C.1 C.2.1 C.2.2.2.2.1 (zu_in hlt) (zty ci) (zty_ok hlt) (znm_ok hlt) C.2.2.2.1 S.2.2.1 S.2.1 S.2.2.2.1 S.2.2.2.2.1 i' hw (zcl_at hlt) j hj (va_Nw.use rfl (C.2.2.2.2.2.1.2.2.2.2.2.1 _ hlk)) (fun x hx => by rwa [hn] at hx) hfin (zty_ok hlt j hj) z1 z2 (by rw [hl]; exact hj) hd kn
theorem zfitq {ty : FieldType} {ws : va_W} {a : Nat} {w : Value} (hq : zisq ty = true) (h : zrr ws a w) : narrow ty w = w ∧ fits ty w = true := by
  rcases h with ⟨-, rfl⟩ | ⟨_, _, -, -, rfl⟩ <;> cases ty <;> first | exact ⟨rfl, rfl⟩ | (exact absurd hq (by simp [zisq]))
theorem zs_putR {k ci j a v : Nat} (C : zCx p l s m args meth c b0 Ev xs xl nL cc oc rt ini hh) (hd : decode cc pc = .ok (.putfield k, 3)) (hf : zFR oc k = some (ci, j)) (hc : mC M a = ci + 1) (hlt : ci < 13) (hq : zisq (zty ci j) = true) (hok : zfok oc ini ci j = true) (kn : zAt p l e R s m args below meth c Q D b0 Ev nL c0 u0 Mf (pc + 3) (ls) (st) (sR M (64 * ci + j) a v)) : zAt p l e R s m args below meth c Q D b0 Ev nL c0 u0 Mf (pc) (ls) (zR v :: zR a :: st) (M) := by
  intro H locs cells slots ws tys lsM stM S
  obtain ⟨x, r, rfl, hv0, h3⟩ := S.2.2.2.2.2.2.1.cons
  have hv0 : zrr ws v x := hv0
  obtain ⟨w, r, rfl, h2, h9⟩ := h3.cons
  obtain ⟨i, ad, fs, rfl, hw, hl, hv⟩ := S.1.obj hc hlt
  rcases h2 with ⟨h2, -⟩ | ⟨i', q, h2, h4, rfl⟩
  · omega
  have : i' = i := by omega
  subst this
  have e1 : q = (ad, .inr (ci, fs)) := Option.some.inj (h4.symm.trans hw)
  subst e1
  obtain ⟨hj, hn, hlk⟩ := zFR_ok hf hlt
  obtain ⟨z1, z2⟩ := zfitq hq hv0
  have hx : zx ws (ws.set i' (ad, .inr (ci, fs.set j x))) := zx.set hw rfl
  have kn := fun (H1 : Heap) (locs1 : List Loc) g1 g2 g3 => kn H1 locs1 cells slots _ tys lsM r (S.mem hx rfl rfl (zH_sR S.1 hw hj hq hv0) g1 S.2.2.1 g2 g3 (h9.mv hx))
  rcases hlk with hlk | ⟨hfin0, host, hlk⟩
  · cases hfin : (zT ci j).2.2.2 with
    | false => exact va_put (D := D) (ci := ci) (ty := zty ci j) C.1 C.2.1 C.2.2.2.2.1 (zu_in hlt) (zty ci) (zty_ok hlt) (znm_ok hlt) C.2.2.2.1 S.2.2.1 S.2.1 S.2.2.2.1 S.2.2.2.2.1 i' hw (zcl_at hlt) j hj (C.2.2.2.2.1 _ hlk) (fun x hx => by rwa [hn] at hx) hfin (zty_ok hlt j hj) z1 z2 (by rw [hl]; exact hj) hd kn
    | true =>
      simp only [zfok, hfin, Bool.not_true, Bool.false_or, Bool.and_eq_true, beq_iff_eq] at hok
      exact va_putF (D := D) (ci := ci) (ty := zty ci j) C.1 C.2.1 C.2.2.2.2.1 (zu_in hlt) (zty ci) (zty_ok hlt) (znm_ok hlt) C.2.2.2.1 S.2.2.1 S.2.1 S.2.2.2.1 S.2.2.2.2.1 i' hw (zcl_at hlt) j hj (C.2.2.2.2.1 _ hlk) (fun x hx => by rwa [hn] at hx) hfin (C.2.2.2.2.2.2.2.2.1 hok.1) (by rw [hn, hok.2]) (zty_ok hlt j hj) z1 z2 (by rw [hl]; exact hj) hd kn
  · have hfin : (zT ci j).2.2.2 = false := by
      cases hfin : (zT ci j).2.2.2 with
      | false => rfl
      | true =>
        simp only [zfok, hfin, Bool.not_true, Bool.false_or, Bool.and_eq_true, beq_iff_eq] at hok
        exact absurd hok.2 hfin0
    exact va_putN (D := D) (ci := ci) (host := host) (ty := zty ci j) C.1 C.2.1 C.2.2.2.2.1 (zu_in hlt) (zty ci) (zty_ok hlt) (znm_ok hlt) C.2.2.2.1 S.2.2.1 S.2.1 S.2.2.2.1 S.2.2.2.2.1 i' hw (zcl_at hlt) j hj (va_Nw.use rfl (C.2.2.2.2.2.1.2.2.2.2.2.1 _ hlk)) (fun x hx => by rwa [hn] at hx) hfin (zty_ok hlt j hj) z1 z2 (by rw [hl]; exact hj) hd kn
end ZROW2
