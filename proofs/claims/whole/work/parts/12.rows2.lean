section ZROW2
variable {p : Program} {l : Launch} {e : Env} {R : Room} {s : State} {m : MethodId} {args : Array Value} {below : List Frame} {meth : Method} {c : Code} {Q : State → Prop} {D : va_G} {b0 : Nat} {Ev : Nat → Value} {xs : Nat → Int} {xl nL c0 u0 : Nat} {w0 : va_W} {Mf : zM} {cc : ByteArray} {oc : Nat} {rt : Option FieldType} {ini : Bool} {hh : List (Nat × Nat × Nat × Nat × Nat)} {pc : Nat} {ls st : List zV} {M : zM}
theorem zrr.own {ws : va_W} {M : zM} {tys : List (ClassId × FieldType)} {a : Nat} {w : Value} (h : zrr ws a w) (ha : a ≠ 0) : ∃ (i : Nat) (q : Nat × va_E), a = i + 1 ∧ ws[i]? = some q ∧ w = .ref q.1 := h.elim (fun q => absurd q.1 ha) id
theorem zs_getf {k ci j a : Nat} (C : zCx p l s m args meth c b0 Ev xs xl nL cc oc rt ini hh) (hd : decode cc pc = .ok (.getfield k, 3)) (hf : zFR oc k = some (ci, j)) (hc : mC M a = ci + 1) (hlt : ci < 13) (kn : zAt p l e R s m args below meth c Q D b0 Ev nL c0 u0 w0 Mf (pc + 3) (ls) ((if zisq (zty ci j) then zR (mR M (64 * ci + j) a) else zI (mI M (64 * ci + j) a)) :: st) (M)) : zAt p l e R s m args below meth c Q D b0 Ev nL c0 u0 w0 Mf (pc) (ls) (zR a :: st) (M) := by
  intro H locs cells slots ws tys lsM stM S
  obtain ⟨w, r, rfl, h2, h3⟩ := S.2.2.2.2.2.2.1.cons
  obtain ⟨i, ad, fs, rfl, hw, hl, hv⟩ := S.1.obj hc hlt
  rcases h2 with ⟨h2, -⟩ | ⟨i', q, h2, h4, rfl⟩
  · omega
  have : i' = i := by omega
  subst this
  have e1 : q = (ad, .inr (ci, fs)) := Option.some.inj (h4.symm.trans hw)
  subst e1
  obtain ⟨hj, hn, hlk⟩ := zFR_ok hf hlt
  obtain ⟨w, w1, w2⟩ := hv j hj
  have kn := kn H locs cells slots ws tys lsM (w :: r) (S.stk ⟨by
    by_cases z : zisq (zty ci j) = true
    · rw [if_pos z] at w2 ⊢; exact w2
    · rw [if_neg z] at w2 ⊢; exact w2, h3⟩)
  rcases hlk with hlk | ⟨-, host, hlk⟩
  · exact va_get (D := D) (ci := ci) C.1 C.2.1 C.2.2.2.2.1 (zu_in hlt) C.2.2.2.1 S.2.2.1 S.2.1 i' hw (zcl_at hlt) j hj (C.2.2.2.2.1 _ hlk) (fun x hx => by rwa [hn] at hx) w1 hd kn
  · exact va_getN (D := D) (ci := ci) (host := host) C.1 C.2.1 C.2.2.2.2.1 (zu_in hlt) C.2.2.2.1 S.2.2.1 S.2.1 i' hw (zcl_at hlt) j hj (va_Nw.use rfl (C.2.2.2.2.2.1.2.2.2.2.2.1 _ hlk)) (fun x hx => by rwa [hn] at hx) w1 hd kn
theorem zs_getfX {k ci j x : Nat} (C : zCx p l s m args meth c b0 Ev xs xl nL cc oc rt ini hh) (hd : decode cc pc = .ok (.getfield k, 3)) (hf : zFR oc k = some (ci, j)) (hc : ci = 14) (h20 : 20 ≤ x) (hx : x < 20 + zSN) (kn : zAt p l e R s m args below meth c Q D b0 Ev nL c0 u0 w0 Mf (pc + 3) (ls) ((if j = 0 then zE (x + 100) else zI 0) :: st) (M)) : zAt p l e R s m args below meth c Q D b0 Ev nL c0 u0 w0 Mf (pc) (ls) (zE x :: st) (M) := by
  intro H locs cells slots ws tys lsM stM S
  obtain ⟨w, r, rfl, h2, h3⟩ := S.2.2.2.2.2.2.1.cons
  have h2 : if x = 999 then ∃ a, w = .ref a else w = Ev x := h2
  have hs : x - 20 < zSN := by omega
  rw [if_neg (by have : zSN = 30 := rfl; omega)] at h2
  obtain ⟨q, e1, e2, e3, -⟩ := C.2.2.2.2.2.1.2.2.2.2.1 (x - 20) hs
  rw [show 20 + (x - 20) = x by omega] at e1
  rw [e1] at h2
  subst h2
  rcases zFR_str hf hc with ⟨rfl, hl⟩ | ⟨hj, hl⟩
  · refine vk_getf C.1 C.2.1 e2 S.2.2.2.2.1 C.2.2.2.1 (C.2.2.2.2.1 _ hl) (fun _ h => h) hd (kn _ _ _ _ _ _ _ _ (S.stk ⟨?_, h3⟩))
    show if x + 100 = 999 then _ else _ = Ev (x + 100)
    rw [if_neg (by have : zSN = 30 := rfl; omega), show 120 + (x - 20) = x + 100 by omega]
  · refine vk_getf C.1 C.2.1 e3 S.2.2.2.2.1 C.2.2.2.1 (C.2.2.2.2.1 _ hl) (fun _ h => h) hd (kn _ _ _ _ _ _ _ _ (S.stk ⟨?_, h3⟩))
    rw [if_neg hj]
    exact ⟨0, rfl, rfl⟩
/-- the memory is another, of the same counts -/
theorem zSt.mem {M' : zM} {ls st st' : List zV} {H H' : Heap} {locs locs' : List Loc} {cells slots : Nat} {ws ws' : va_W} {tys tys' : List (ClassId × FieldType)} {lsM : Array Slot} {stM stM' : List Value} (h : zSt s R D b0 Ev nL c0 u0 w0 Mf ls st M H locs cells slots ws tys lsM stM) (h2 : va_P D vwCl ws' H') (h1 : zH M' ws' tys') (h3 : va_K D vwCl tys' s) (h4 : va_D (fun q => b0 ≤ q) ws') (h5 : va_S (fun q => b0 ≤ q) s.heap H' locs') (hx : zx ws ws') (hc : mc M' = mc M) (hu : mu M' = mu M) (h7 : zsr Ev ws' st' stM') : zSt s R D b0 Ev nL c0 u0 w0 Mf ls st' M' H' locs' cells slots ws' tys' lsM stM' := by
  obtain ⟨-, -, -, -, -, g6, -, g8, g9⟩ := h
  exact ⟨h1, h2, h3, h4, h5, g6.mv hx, h7, g8, by rw [hc, hu]; exact g9.1, g9.2.tr hx⟩
theorem zfits {ty : FieldType} {x : Int32} (h : zfit ty x.toInt) : narrow ty (.int x) = .int x ∧ fits ty (.int x) = true := by
  have z0 : (0 : Int32).toInt = 0 := rfl
  have z1 : (1 : Int32).toInt = 1 := rfl
  cases ty with
  | int => exact ⟨rfl, rfl⟩
  | boolean =>
    rcases h with h | h
    · have : x = 0 := Int32.toInt_inj.mp (h.trans z0.symm)
      subst this; exact ⟨rfl, rfl⟩
    · have : x = 1 := Int32.toInt_inj.mp (h.trans z1.symm)
      subst this; exact ⟨rfl, rfl⟩
  | byte =>
    have h1 : -128 ≤ x.toInt ∧ x.toInt ≤ 127 := h
    refine ⟨?_, ?_⟩
    · show Value.int x.toInt8.toInt32 = _
      congr 1
      apply Int32.toInt_inj.mp
      rw [Int8.toInt_toInt32, Int32.toInt_toInt8]
      show x.toInt.bmod 256 = _
      unfold Int.bmod
      dsimp only
      split <;> omega
    · show (decide (-128 ≤ x) && decide (x ≤ 127)) = true
      rw [Bool.and_eq_true, decide_eq_true_eq, decide_eq_true_eq]
      exact ⟨Int32.le_iff_toInt_le.mpr h1.1, Int32.le_iff_toInt_le.mpr h1.2⟩
  | char =>
    have h1 : 0 ≤ x.toInt ∧ x.toInt ≤ 65535 := h
    have h0 : (0 : Int32) ≤ x := Int32.le_iff_toInt_le.mpr (by rw [z0]; exact h1.1)
    refine ⟨?_, ?_⟩
    · show Value.int x.toUInt32.toUInt16.toUInt32.toInt32 = _
      congr 1
      apply Int32.toBitVec_inj.mp
      apply BitVec.eq_of_toNat_eq
      have e0 : x.toInt = x.toBitVec.toInt := rfl
      rw [e0, BitVec.toInt_eq_toNat_cond] at h1
      show ((x.toBitVec.setWidth 16).setWidth 32).toNat = x.toBitVec.toNat
      rw [BitVec.toNat_setWidth, BitVec.toNat_setWidth]
      split at h1 <;> omega
    · show (decide (0 ≤ x) && decide (x ≤ 65535)) = true
      rw [Bool.and_eq_true, decide_eq_true_eq, decide_eq_true_eq]
      exact ⟨h0, Int32.le_iff_toInt_le.mpr h1.2⟩
  | _ => exact h.elim
theorem zs_putI {k ci j a : Nat} {v : Int} (C : zCx p l s m args meth c b0 Ev xs xl nL cc oc rt ini hh) (hd : decode cc pc = .ok (.putfield k, 3)) (hf : zFR oc k = some (ci, j)) (hc : mC M a = ci + 1) (hlt : ci < 13) (hq : zisq (zty ci j) = false) (hfit : zfit (zty ci j) v) (hok : zfok oc ini ci j = true) (kn : zAt p l e R s m args below meth c Q D b0 Ev nL c0 u0 w0 Mf (pc + 3) (ls) (st) (sI M (64 * ci + j) a v)) : zAt p l e R s m args below meth c Q D b0 Ev nL c0 u0 w0 Mf (pc) (ls) (zI v :: zR a :: st) (M) := by
  intro H locs cells slots ws tys lsM stM S
  obtain ⟨w, r, rfl, ⟨x, rfl, rfl⟩, h3⟩ := S.2.2.2.2.2.2.1.cons
  obtain ⟨w, r, rfl, h2, h9⟩ := h3.cons
  obtain ⟨i, ad, fs, rfl, hw, hl, hv⟩ := S.1.obj hc hlt
  rcases h2 with ⟨h2, -⟩ | ⟨i', q, h2, h4, rfl⟩
  · omega
  have : i' = i := by omega
  subst this
  have e1 : q = (ad, .inr (ci, fs)) := Option.some.inj (h4.symm.trans hw)
  subst e1
  obtain ⟨hj, hn, hlk⟩ := zFR_ok hf hlt
  obtain ⟨z1, z2⟩ := zfits hfit
  have hx : zx ws (ws.set i' (ad, .inr (ci, fs.set j (.int x)))) := zx.set hw rfl
  have kn := fun (H1 : Heap) (locs1 : List Loc) g1 g2 g3 => kn H1 locs1 cells slots _ tys lsM r (S.mem g1 (zH_sI S.1 hw hj hq rfl) S.2.2.1 g2 g3 hx rfl rfl (h9.mv hx))
  rcases hlk with hlk | ⟨hfin0, host, hlk⟩
  · cases hfin : (zT ci j).2.2.2 with
    | false => exact va_put (D := D) (ci := ci) (ty := zty ci j) C.1 C.2.1 C.2.2.2.2.1 (zu_in hlt) (zty ci) (zty_ok hlt) (znm_ok hlt) C.2.2.2.1 S.2.2.1 S.2.1 S.2.2.2.1 S.2.2.2.2.1 i' hw (zcl_at hlt) j hj (C.2.2.2.2.1 _ hlk) (fun x hx => by rwa [hn] at hx) hfin (zty_ok hlt j hj) z1 z2 (by rw [hl]; exact hj) hd kn
    | true =>
      simp only [zfok, hfin, Bool.not_true, Bool.false_or, Bool.and_eq_true, beq_iff_eq] at hok
      exact va_putF (D := D) (ci := ci) (ty := zty ci j) C.1 C.2.1 C.2.2.2.2.1 (zu_in hlt) (zty ci) (zty_ok hlt) (znm_ok hlt) C.2.2.2.1 S.2.2.1 S.2.1 S.2.2.2.1 S.2.2.2.2.1 i' hw (zcl_at hlt) j hj (C.2.2.2.2.1 _ hlk) (fun x hx => by rwa [hn] at hx) hfin (C.2.2.2.2.2.2.2.2.1 hok.1) (by rw [hn, hok.2]) (zty_ok hlt j hj) z1 z2 (by rw [hl]; exact hj) hd kn
  · have hfin : (zT ci j).2.2.2 = false := by
      cases hfin : (zT ci j).2.2.2 with
      | false => rfl
      | true =>
        simp only [zfok, hfin, Bool.not_true, Bool.false_or, Bool.and_eq_true, beq_iff_eq] at hok
        exact absurd hok.2 hfin0
    exact va_putN (D := D) (ci := ci) (host := host) (ty := zty ci j) C.1 C.2.1 C.2.2.2.2.1 (zu_in hlt) (zty ci) (zty_ok hlt) (znm_ok hlt) C.2.2.2.1 S.2.2.1 S.2.1 S.2.2.2.1 S.2.2.2.2.1 i' hw (zcl_at hlt) j hj (va_Nw.use rfl (C.2.2.2.2.2.1.2.2.2.2.2.1 _ hlk)) (fun x hx => by rwa [hn] at hx) hfin (zty_ok hlt j hj) z1 z2 (by rw [hl]; exact hj) hd kn
theorem zfitq {ty : FieldType} {ws : va_W} {a : Nat} {w : Value} (hq : zisq ty = true) (h : zrr ws a w) : narrow ty w = w ∧ fits ty w = true := by
  rcases h with ⟨-, rfl⟩ | ⟨_, _, -, -, rfl⟩ <;> cases ty <;> first | exact ⟨rfl, rfl⟩ | (exact absurd hq (by simp [zisq]))
theorem zs_putR {k ci j a v : Nat} (C : zCx p l s m args meth c b0 Ev xs xl nL cc oc rt ini hh) (hd : decode cc pc = .ok (.putfield k, 3)) (hf : zFR oc k = some (ci, j)) (hc : mC M a = ci + 1) (hlt : ci < 13) (hq : zisq (zty ci j) = true) (hok : zfok oc ini ci j = true) (kn : zAt p l e R s m args below meth c Q D b0 Ev nL c0 u0 w0 Mf (pc + 3) (ls) (st) (sR M (64 * ci + j) a v)) : zAt p l e R s m args below meth c Q D b0 Ev nL c0 u0 w0 Mf (pc) (ls) (zR v :: zR a :: st) (M) := by
  intro H locs cells slots ws tys lsM stM S
  obtain ⟨x, r, rfl, hv0, h3⟩ := S.2.2.2.2.2.2.1.cons
  have hv0 : zrr ws v x := hv0
  obtain ⟨w, r, rfl, h2, h9⟩ := h3.cons
  obtain ⟨i, ad, fs, rfl, hw, hl, hv⟩ := S.1.obj hc hlt
  rcases h2 with ⟨h2, -⟩ | ⟨i', q, h2, h4, rfl⟩
  · omega
  have : i' = i := by omega
  subst this
  have e1 : q = (ad, .inr (ci, fs)) := Option.some.inj (h4.symm.trans hw)
  subst e1
  obtain ⟨hj, hn, hlk⟩ := zFR_ok hf hlt
  obtain ⟨z1, z2⟩ := zfitq hq hv0
  have hx : zx ws (ws.set i' (ad, .inr (ci, fs.set j x))) := zx.set hw rfl
  have kn := fun (H1 : Heap) (locs1 : List Loc) g1 g2 g3 => kn H1 locs1 cells slots _ tys lsM r (S.mem g1 (zH_sR S.1 hw hj hq hv0) S.2.2.1 g2 g3 hx rfl rfl (h9.mv hx))
  rcases hlk with hlk | ⟨hfin0, host, hlk⟩
  · cases hfin : (zT ci j).2.2.2 with
    | false => exact va_put (D := D) (ci := ci) (ty := zty ci j) C.1 C.2.1 C.2.2.2.2.1 (zu_in hlt) (zty ci) (zty_ok hlt) (znm_ok hlt) C.2.2.2.1 S.2.2.1 S.2.1 S.2.2.2.1 S.2.2.2.2.1 i' hw (zcl_at hlt) j hj (C.2.2.2.2.1 _ hlk) (fun x hx => by rwa [hn] at hx) hfin (zty_ok hlt j hj) z1 z2 (by rw [hl]; exact hj) hd kn
    | true =>
      simp only [zfok, hfin, Bool.not_true, Bool.false_or, Bool.and_eq_true, beq_iff_eq] at hok
      exact va_putF (D := D) (ci := ci) (ty := zty ci j) C.1 C.2.1 C.2.2.2.2.1 (zu_in hlt) (zty ci) (zty_ok hlt) (znm_ok hlt) C.2.2.2.1 S.2.2.1 S.2.1 S.2.2.2.1 S.2.2.2.2.1 i' hw (zcl_at hlt) j hj (C.2.2.2.2.1 _ hlk) (fun x hx => by rwa [hn] at hx) hfin (C.2.2.2.2.2.2.2.2.1 hok.1) (by rw [hn, hok.2]) (zty_ok hlt j hj) z1 z2 (by rw [hl]; exact hj) hd kn
  · have hfin : (zT ci j).2.2.2 = false := by
      cases hfin : (zT ci j).2.2.2 with
      | false => rfl
      | true =>
        simp only [zfok, hfin, Bool.not_true, Bool.false_or, Bool.and_eq_true, beq_iff_eq] at hok
        exact absurd hok.2 hfin0
    exact va_putN (D := D) (ci := ci) (host := host) (ty := zty ci j) C.1 C.2.1 C.2.2.2.2.1 (zu_in hlt) (zty ci) (zty_ok hlt) (znm_ok hlt) C.2.2.2.1 S.2.2.1 S.2.1 S.2.2.2.1 S.2.2.2.2.1 i' hw (zcl_at hlt) j hj (va_Nw.use rfl (C.2.2.2.2.2.1.2.2.2.2.2.1 _ hlk)) (fun x hx => by rwa [hn] at hx) hfin (zty_ok hlt j hj) z1 z2 (by rw [hl]; exact hj) hd kn

/-- an index within -/
theorem zvin {j : Int32} {n : Nat} (h0 : 0 ≤ j.toInt) (h1 : j.toInt < n) : vp_in j n ∧ j.toNatClampNeg = j.toInt.toNat := by
  have e : j.toNatClampNeg = j.toInt.toNat := rfl
  refine ⟨?_, e⟩
  rintro (q | q)
  · have := Int32.lt_iff_toInt_lt.mp q
    have z : (0 : Int32).toInt = 0 := rfl
    omega
  · rw [e] at q; omega
theorem zaddr {ws : va_W} {i i' : Nat} {w : Value} {q : Nat × va_E} (h : zrr ws (i + 1) w) (hw : ws[i]? = some q) : w = .ref q.1 := by
  rcases h with ⟨h2, -⟩ | ⟨i', q', h2, h4, rfl⟩
  · omega
  · have : i' = i := by omega
    subst this
    rw [Option.some.inj (h4.symm.trans hw)]
theorem zs_iald {a : Nat} {j : Int} (C : zCx p l s m args meth c b0 Ev xs xl nL cc oc rt ini hh) (hd : decode cc pc = .ok (.iaload, 1)) (hc : mC M a = 20) (h0 : 0 ≤ j) (h1 : j < mN M a) (kn : zAt p l e R s m args below meth c Q D b0 Ev nL c0 u0 w0 Mf (pc + 1) (ls) (zI (mA M a j.toNat) :: st) (M)) : zAt p l e R s m args below meth c Q D b0 Ev nL c0 u0 w0 Mf (pc) (ls) (zI j :: zR a :: st) (M) := by
  intro H locs cells slots ws tys lsM stM S
  obtain ⟨w, r, rfl, ⟨x, rfl, rfl⟩, h3⟩ := S.2.2.2.2.2.2.1.cons
  obtain ⟨w, r, rfl, h2, h9⟩ := h3.cons
  obtain ⟨i, ad, cA, f, t, rfl, hw, ht, hf⟩ := S.1.ia (a := a) (ty := .int) (Or.inl ⟨hc, rfl⟩)
  have := zaddr (i' := 0) h2 hw
  subst this
  obtain ⟨z1, z2⟩ := zvin h0 h1
  refine va_iald C.1 C.2.1 S.2.2.1 S.2.1 i t hw ht z1 hd (kn _ _ _ _ _ _ _ _ (S.stk ⟨⟨_, rfl, ?_⟩, h9⟩))
  rw [z2]; exact hf _
theorem zs_bald {a : Nat} {j : Int} (C : zCx p l s m args meth c b0 Ev xs xl nL cc oc rt ini hh) (hd : decode cc pc = .ok (.baload, 1)) (hc : mC M a = 21 ∨ mC M a = 22) (h0 : 0 ≤ j) (h1 : j < mN M a) (kn : zAt p l e R s m args below meth c Q D b0 Ev nL c0 u0 w0 Mf (pc + 1) (ls) (zI (mA M a j.toNat) :: st) (M)) : zAt p l e R s m args below meth c Q D b0 Ev nL c0 u0 w0 Mf (pc) (ls) (zI j :: zR a :: st) (M) := by
  intro H locs cells slots ws tys lsM stM S
  obtain ⟨w, r, rfl, ⟨x, rfl, rfl⟩, h3⟩ := S.2.2.2.2.2.2.1.cons
  obtain ⟨w, r, rfl, h2, h9⟩ := h3.cons
  obtain ⟨z1, z2⟩ := zvin h0 h1
  rcases hc with hc | hc
  · obtain ⟨i, ad, cA, f, t, rfl, hw, ht, hf⟩ := S.1.ia (a := a) (ty := .boolean) (Or.inr (Or.inl ⟨hc, rfl⟩))
    have := zaddr (i' := 0) h2 hw
    subst this
    refine va_zald C.1 C.2.1 S.2.2.1 S.2.1 i t hw ht z1 hd (kn _ _ _ _ _ _ _ _ (S.stk ⟨⟨_, rfl, ?_⟩, h9⟩))
    rw [z2]; exact hf _
  · obtain ⟨i, ad, cA, f, t, rfl, hw, ht, hf⟩ := S.1.ia (a := a) (ty := .byte) (Or.inr (Or.inr ⟨hc, rfl⟩))
    have := zaddr (i' := 0) h2 hw
    subst this
    refine va_bald C.1 C.2.1 S.2.2.1 S.2.1 i t hw ht z1 hd (kn _ _ _ _ _ _ _ _ (S.stk ⟨⟨_, rfl, ?_⟩, h9⟩))
    rw [z2]; exact hf _
theorem zs_lald {a : Nat} {j : Int} (C : zCx p l s m args meth c b0 Ev xs xl nL cc oc rt ini hh) (hd : decode cc pc = .ok (.laload, 1)) (hc : mC M a = 23) (h0 : 0 ≤ j) (h1 : j < mN M a) (kn : zAt p l e R s m args below meth c Q D b0 Ev nL c0 u0 w0 Mf (pc + 1) (ls) (zL (mA M a j.toNat) :: st) (M)) : zAt p l e R s m args below meth c Q D b0 Ev nL c0 u0 w0 Mf (pc) (ls) (zI j :: zR a :: st) (M) := by
  intro H locs cells slots ws tys lsM stM S
  obtain ⟨w, r, rfl, ⟨x, rfl, rfl⟩, h3⟩ := S.2.2.2.2.2.2.1.cons
  obtain ⟨w, r, rfl, h2, h9⟩ := h3.cons
  obtain ⟨i, ad, cA, f, t, rfl, hw, ht, hf⟩ := S.1.la (a := a) hc
  have := zaddr (i' := 0) h2 hw
  subst this
  obtain ⟨z1, z2⟩ := zvin h0 h1
  refine va_lald C.1 C.2.1 S.2.2.1 S.2.1 i t hw ht z1 hd (kn _ _ _ _ _ _ _ _ (S.stk ⟨⟨_, rfl, ?_⟩, h9⟩))
  rw [z2]; exact hf _
theorem zs_aald {a : Nat} {j : Int} (C : zCx p l s m args meth c b0 Ev xs xl nL cc oc rt ini hh) (hd : decode cc pc = .ok (.aaload, 1)) (hc : 29 ≤ mC M a) (h0 : 0 ≤ j) (h1 : j < mN M a) (kn : zAt p l e R s m args below meth c Q D b0 Ev nL c0 u0 w0 Mf (pc + 1) (ls) (zR (mO M a j.toNat) :: st) (M)) : zAt p l e R s m args below meth c Q D b0 Ev nL c0 u0 w0 Mf (pc) (ls) (zI j :: zR a :: st) (M) := by
  intro H locs cells slots ws tys lsM stM S
  obtain ⟨w, r, rfl, ⟨x, rfl, rfl⟩, h3⟩ := S.2.2.2.2.2.2.1.cons
  obtain ⟨w, r, rfl, h2, h9⟩ := h3.cons
  obtain ⟨i, ad, cA, f, t, ty, rfl, hw, ht, hty, hf⟩ := S.1.qa (a := a) hc
  have := zaddr (i' := 0) h2 hw
  subst this
  obtain ⟨z1, z2⟩ := zvin h0 h1
  have kn := kn H locs cells slots ws tys lsM (va_rf (f x.toInt.toNat) :: r) (S.stk ⟨hf _, h9⟩)
  have hr : ty.isReference = true := by rcases hty with ⟨-, rfl⟩ | ⟨_, -, -, rfl⟩ <;> rfl
  have hlt : x.toNatClampNeg < mN M (i + 1) := Nat.not_le.mp fun q => z1 (Or.inr q)
  exact W.aald (v := va_rf (f x.toInt.toNat)) (ty := ty) C.1 C.2.1 (S.2.1 i _ hw) ((S.2.2.1.2 t _ ht).1 (mN M (i + 1)) (fun j => va_rf (f j))) hr (fun q => by cases q) (by show ¬ (x < 0 ∨ (arrV _ _ _).slots.size ≤ _); rw [arrV_size]; exact z1) (by show (arrV _ _ _).slots[_]? = _; rw [arrV_read _ _ hlt, z2]) rfl rfl hd kn
theorem zs_iast {a : Nat} {j v : Int} (C : zCx p l s m args meth c b0 Ev xs xl nL cc oc rt ini hh) (hd : decode cc pc = .ok (.iastore, 1)) (hc : mC M a = 20) (h0 : 0 ≤ j) (h1 : j < mN M a) (kn : zAt p l e R s m args below meth c Q D b0 Ev nL c0 u0 w0 Mf (pc + 1) (ls) (st) (sA M a j.toNat v)) : zAt p l e R s m args below meth c Q D b0 Ev nL c0 u0 w0 Mf (pc) (ls) (zI v :: zI j :: zR a :: st) (M) := by
  intro H locs cells slots ws tys lsM stM S
  obtain ⟨w, r, rfl, ⟨y, rfl, rfl⟩, h3⟩ := S.2.2.2.2.2.2.1.cons
  obtain ⟨w, r, rfl, ⟨x, rfl, rfl⟩, h4⟩ := h3.cons
  obtain ⟨w, r, rfl, h2, h9⟩ := h4.cons
  obtain ⟨i, ad, cA, f, t, rfl, hw, ht, hf⟩ := S.1.ia (a := a) (ty := .int) (Or.inl ⟨hc, rfl⟩)
  have := zaddr (i' := 0) h2 hw
  subst this
  obtain ⟨z1, z2⟩ := zvin h0 h1
  refine va_iast C.1 C.2.1 S.2.2.1 S.2.1 S.2.2.2.1 S.2.2.2.2.1 i t hw ht z1 hd (fun H1 locs1 g1 g2 g3 => ?_)
  rw [z2] at g1 g2
  exact kn _ _ _ _ _ _ _ _ (S.mem g1 (zH_sA S.1 hw rfl) S.2.2.1 g2 g3 (zx.set hw rfl) rfl rfl (h9.mv (zx.set hw (by rfl))))
theorem zs_bast {a : Nat} {j v : Int} (C : zCx p l s m args meth c b0 Ev xs xl nL cc oc rt ini hh) (hd : decode cc pc = .ok (.bastore, 1)) (hc : (mC M a = 21 ∧ (v = 0 ∨ v = 1)) ∨ (mC M a = 22 ∧ -128 ≤ v ∧ v ≤ 127)) (h0 : 0 ≤ j) (h1 : j < mN M a) (kn : zAt p l e R s m args below meth c Q D b0 Ev nL c0 u0 w0 Mf (pc + 1) (ls) (st) (sA M a j.toNat v)) : zAt p l e R s m args below meth c Q D b0 Ev nL c0 u0 w0 Mf (pc) (ls) (zI v :: zI j :: zR a :: st) (M) := by
  intro H locs cells slots ws tys lsM stM S
  obtain ⟨w, r, rfl, ⟨y, rfl, rfl⟩, h3⟩ := S.2.2.2.2.2.2.1.cons
  obtain ⟨w, r, rfl, ⟨x, rfl, rfl⟩, h4⟩ := h3.cons
  obtain ⟨w, r, rfl, h2, h9⟩ := h4.cons
  obtain ⟨z1, z2⟩ := zvin h0 h1
  rcases hc with ⟨hc, hv⟩ | ⟨hc, hv⟩
  · obtain ⟨i, ad, cA, f, t, rfl, hw, ht, hf⟩ := S.1.ia (a := a) (ty := .boolean) (Or.inr (Or.inl ⟨hc, rfl⟩))
    have := zaddr (i' := 0) h2 hw
    subst this
    have hn : vp_nar .boolean y = y := by unfold vp_nar; rw [(zfits (ty := .boolean) hv).1]
    refine va_zast C.1 C.2.1 S.2.2.1 S.2.1 S.2.2.2.1 S.2.2.2.2.1 i t hw ht z1 hd (fun H1 locs1 g1 g2 g3 => ?_)
    rw [z2, hn] at g1 g2
    exact kn _ _ _ _ _ _ _ _ (S.mem g1 (zH_sA S.1 hw rfl) S.2.2.1 g2 g3 (zx.set hw rfl) rfl rfl (h9.mv (zx.set hw (by rfl))))
  · obtain ⟨i, ad, cA, f, t, rfl, hw, ht, hf⟩ := S.1.ia (a := a) (ty := .byte) (Or.inr (Or.inr ⟨hc, rfl⟩))
    have := zaddr (i' := 0) h2 hw
    subst this
    have hn : vp_nar .byte y = y := by unfold vp_nar; rw [(zfits (ty := .byte) hv).1]
    refine va_bast C.1 C.2.1 S.2.2.1 S.2.1 S.2.2.2.1 S.2.2.2.2.1 i t hw ht z1 hd (fun H1 locs1 g1 g2 g3 => ?_)
    rw [z2, hn] at g1 g2
    exact kn _ _ _ _ _ _ _ _ (S.mem g1 (zH_sA S.1 hw rfl) S.2.2.1 g2 g3 (zx.set hw rfl) rfl rfl (h9.mv (zx.set hw (by rfl))))
theorem zs_last {a : Nat} {j v : Int} (C : zCx p l s m args meth c b0 Ev xs xl nL cc oc rt ini hh) (hd : decode cc pc = .ok (.lastore, 1)) (hc : mC M a = 23) (h0 : 0 ≤ j) (h1 : j < mN M a) (kn : zAt p l e R s m args below meth c Q D b0 Ev nL c0 u0 w0 Mf (pc + 1) (ls) (st) (sA M a j.toNat v)) : zAt p l e R s m args below meth c Q D b0 Ev nL c0 u0 w0 Mf (pc) (ls) (zL v :: zI j :: zR a :: st) (M) := by
  intro H locs cells slots ws tys lsM stM S
  obtain ⟨w, r, rfl, ⟨y, rfl, rfl⟩, h3⟩ := S.2.2.2.2.2.2.1.cons
  obtain ⟨w, r, rfl, ⟨x, rfl, rfl⟩, h4⟩ := h3.cons
  obtain ⟨w, r, rfl, h2, h9⟩ := h4.cons
  obtain ⟨i, ad, cA, f, t, rfl, hw, ht, hf⟩ := S.1.la (a := a) hc
  have := zaddr (i' := 0) h2 hw
  subst this
  obtain ⟨z1, z2⟩ := zvin h0 h1
  refine va_last C.1 C.2.1 S.2.2.1 S.2.1 S.2.2.2.1 S.2.2.2.2.1 i t hw ht z1 hd (fun H1 locs1 g1 g2 g3 => ?_)
  rw [z2] at g1 g2
  exact kn _ _ _ _ _ _ _ _ (S.mem g1 (zH_sL S.1 hw rfl) S.2.2.1 g2 g3 (zx.set hw rfl) rfl rfl (h9.mv (zx.set hw (by rfl))))
theorem zs_aast {a b : Nat} {j : Int} (C : zCx p l s m args meth c b0 Ev xs xl nL cc oc rt ini hh) (hd : decode cc pc = .ok (.aastore, 1)) (hc : 30 ≤ mC M a) (hc2 : mC M a < 43) (hb : mC M b + 29 = mC M a) (h0 : 0 ≤ j) (h1 : j < mN M a) (kn : zAt p l e R s m args below meth c Q D b0 Ev nL c0 u0 w0 Mf (pc + 1) (ls) (st) (sO M a j.toNat b)) : zAt p l e R s m args below meth c Q D b0 Ev nL c0 u0 w0 Mf (pc) (ls) (zR b :: zI j :: zR a :: st) (M) := by
  intro H locs cells slots ws tys lsM stM S
  obtain ⟨w, r, rfl, hv, h3⟩ := S.2.2.2.2.2.2.1.cons
  obtain ⟨w', r, rfl, ⟨x, rfl, rfl⟩, h4⟩ := h3.cons
  obtain ⟨w', r, rfl, h2, h9⟩ := h4.cons
  obtain ⟨i, ad, cA, f, t, ty, rfl, hw, ht, hty, hf⟩ := S.1.qa (a := a) (by omega)
  have := zaddr (i' := 0) h2 hw
  subst this
  obtain ⟨z1, z2⟩ := zvin h0 h1
  rcases hty with ⟨g, -⟩ | ⟨ci, g1, g2, rfl⟩
  · omega
  · obtain ⟨k, adv, fs, rfl, hwv, -, -⟩ := S.1.obj (a := b) (ci := ci) (by omega) g1
    have hv : zrr ws (k + 1) w := hv
    have := zaddr (i' := 0) hv hwv
    subst this
    refine va_astq (ci := ci) C.1 C.2.1 S.2.2.1 S.2.1 S.2.2.2.1 S.2.2.2.2.1 i t k hw ht hwv (zcl_at g1) z1 hd (fun H1 locs1 k1 k2 k3 => ?_)
    rw [z2] at k1 k2
    exact kn _ _ _ _ _ _ _ _ (S.mem k1 (zH_sO (x := some adv) S.1 hw hv) S.2.2.1 k2 k3 (zx.set hw rfl) rfl rfl (h9.mv (zx.set hw (by rfl))))
theorem zi_ofN (n : Nat) : (Int32.ofNat n).toInt = wr n := by
  rw [Int32.toInt_ofNat', ← wr_bmod]; try rfl
theorem zs_alen {a : Nat} (C : zCx p l s m args meth c b0 Ev xs xl nL cc oc rt ini hh) (hd : decode cc pc = .ok (.arraylength, 1)) (h0 : 20 ≤ mC M a) (kn : zAt p l e R s m args below meth c Q D b0 Ev nL c0 u0 w0 Mf (pc + 1) (ls) (zI (wr (mN M a)) :: st) (M)) : zAt p l e R s m args below meth c Q D b0 Ev nL c0 u0 w0 Mf (pc) (ls) (zR a :: st) (M) := by
  intro H locs cells slots ws tys lsM stM S
  obtain ⟨w, r, rfl, h2, h9⟩ := S.2.2.2.2.2.2.1.cons
  have kn := fun hw => kn H locs cells slots ws tys lsM (.int (Int32.ofNat (mN M a)) :: r) (S.stk ⟨⟨_, rfl, zi_ofN _⟩, hw⟩)
  by_cases hq : 29 ≤ mC M a
  · obtain ⟨i, ad, cA, f, t, ty, rfl, hw, ht, hty, hf⟩ := S.1.qa (a := a) hq
    have := zaddr (i' := 0) h2 hw
    subst this
    exact va_alen C.1 C.2.1 S.2.2.1 S.2.1 i t hw ht rfl hd (kn h9)
  · obtain ⟨i, ⟨ad, e⟩, h1, hw, h3⟩ := S.1.at (a := a) (by omega)
    subst h1
    have := zaddr (i' := 0) h2 hw
    subst this
    rcases e with ⟨cA, n, f | f | f | f | f⟩ | ⟨c, fs⟩
    · obtain ⟨g1, g2, g3⟩ := h3
      have : ∃ ty, (cA, ty) ∈ tys := by rcases g2 with q | q | q <;> exact ⟨_, q.2⟩
      obtain ⟨ty, hm⟩ := this
      obtain ⟨t, ht⟩ := List.getElem?_of_mem hm
      exact va_alen C.1 C.2.1 S.2.2.1 S.2.1 i t hw ht (by rw [← g1]) hd (kn h9)
    · obtain ⟨g1, g2, g3⟩ := h3
      obtain ⟨t, ht⟩ := List.getElem?_of_mem g2.2
      exact va_alen C.1 C.2.1 S.2.2.1 S.2.1 i t hw ht (by rw [← g1]) hd (kn h9)
    · exact h3.elim
    · exact h3.elim
    · obtain ⟨-, (q | ⟨_, _, q, -⟩), -⟩ := h3 <;> omega
    · obtain ⟨g1, g2, -⟩ := h3
      have g1 : mC M (i + 1) = c + 1 := g1
      have g2 : c < 13 := g2
      omega
/-- foreign arrays -/
theorem zX999 {k : Nat} (h : zXk k ≠ 0) : k ≠ 999 := by
  rintro rfl
  exact h (by decide)
theorem zs_ialdX {k : Nat} {j : Int} (C : zCx p l s m args meth c b0 Ev xs xl nL cc oc rt ini hh) (hd : decode cc pc = .ok (.iaload, 1)) (hc : zXk k = 1) (h0 : 0 ≤ j) (h1 : j < zXN xl k) (kn : zAt p l e R s m args below meth c Q D b0 Ev nL c0 u0 w0 Mf (pc + 1) (ls) (zI (zXI xs k j.toNat) :: st) (M)) : zAt p l e R s m args below meth c Q D b0 Ev nL c0 u0 w0 Mf (pc) (ls) (zI j :: zE k :: st) (M) := by
  intro H locs cells slots ws tys lsM stM S
  obtain ⟨w, r, rfl, ⟨x, rfl, rfl⟩, h3⟩ := S.2.2.2.2.2.2.1.cons
  obtain ⟨w, r, rfl, h2, h9⟩ := h3.cons
  have h2 : if k = 999 then ∃ a, w = .ref a else w = Ev k := h2
  rw [if_neg (zX999 (by rw [hc]; decide))] at h2
  obtain ⟨t, f, e1, e2, e3⟩ := C.2.2.2.2.2.1.1 k hc
  rw [e1] at h2
  subst h2
  obtain ⟨z1, z2⟩ := zvin h0 h1
  refine va_ti C.1 C.2.1 e2 S.2.2.2.2.1 z1 rfl hd (kn _ _ _ _ _ _ _ _ (S.stk ⟨⟨_, rfl, ?_⟩, h9⟩))
  rw [z2]; exact e3 _ (by omega)
theorem zs_baldX {k : Nat} {j : Int} (C : zCx p l s m args meth c b0 Ev xs xl nL cc oc rt ini hh) (hd : decode cc pc = .ok (.baload, 1)) (hc : zXk k = 2) (h0 : 0 ≤ j) (h1 : j < zXN xl k) (kn : zAt p l e R s m args below meth c Q D b0 Ev nL c0 u0 w0 Mf (pc + 1) (ls) (zI (zXI xs k j.toNat) :: st) (M)) : zAt p l e R s m args below meth c Q D b0 Ev nL c0 u0 w0 Mf (pc) (ls) (zI j :: zE k :: st) (M) := by
  intro H locs cells slots ws tys lsM stM S
  obtain ⟨w, r, rfl, ⟨x, rfl, rfl⟩, h3⟩ := S.2.2.2.2.2.2.1.cons
  obtain ⟨w, r, rfl, h2, h9⟩ := h3.cons
  have h2 : if k = 999 then ∃ a, w = .ref a else w = Ev k := h2
  rw [if_neg (zX999 (by rw [hc]; decide))] at h2
  obtain ⟨t, f, e1, e2, e3⟩ := C.2.2.2.2.2.1.2.1 k hc
  rw [e1] at h2
  subst h2
  obtain ⟨z1, z2⟩ := zvin h0 h1
  refine va_tb C.1 C.2.1 e2 S.2.2.2.2.1 z1 rfl hd (kn _ _ _ _ _ _ _ _ (S.stk ⟨⟨_, rfl, ?_⟩, h9⟩))
  rw [z2]; exact e3 _ (by omega)
theorem zs_aaldX {k : Nat} {j : Int} (C : zCx p l s m args meth c b0 Ev xs xl nL cc oc rt ini hh) (hd : decode cc pc = .ok (.aaload, 1)) (hc : zXk k = 3) (h0 : 0 ≤ j) (h1 : j < zXN xl k) (h99 : zXQ k j.toNat ≠ 999) (kn : zAt p l e R s m args below meth c Q D b0 Ev nL c0 u0 w0 Mf (pc + 1) (ls) (zE (zXQ k j.toNat) :: st) (M)) : zAt p l e R s m args below meth c Q D b0 Ev nL c0 u0 w0 Mf (pc) (ls) (zI j :: zE k :: st) (M) := by
  intro H locs cells slots ws tys lsM stM S
  obtain ⟨w, r, rfl, ⟨x, rfl, rfl⟩, h3⟩ := S.2.2.2.2.2.2.1.cons
  obtain ⟨w, r, rfl, h2, h9⟩ := h3.cons
  have h2 : if k = 999 then ∃ a, w = .ref a else w = Ev k := h2
  rw [if_neg (zX999 (by rw [hc]; decide))] at h2
  obtain ⟨t, e1, cell, c1, c2, c3, c4, c5, c6, c7⟩ := C.2.2.2.2.2.1.2.2.1 k hc
  rw [e1] at h2
  subst h2
  obtain ⟨z1, z2⟩ := zvin h0 h1
  have kn := kn H locs cells slots ws tys lsM (Ev (zXQ k x.toInt.toNat) :: r) (S.stk ⟨by show if _ then _ else _; rw [if_neg h99], h9⟩)
  have hlt : t < s.heap.size := (Array.getElem?_eq_some_iff.mp c1).1
  refine W.aald (v := Ev (zXQ k x.toInt.toNat)) (ty := .object "java/lang/String") C.1 C.2.1 (by rw [S.2.2.2.2.1.2.1 t hlt c7]; exact c1) c2 rfl c3 (fun q => q.elim (fun q => z1 (Or.inl q)) (fun q => z1 (Or.inr (Nat.le_trans c4 q)))) (by rw [c6 _ (by rw [z2]; omega), z2]) rfl rfl hd kn
theorem zs_alenX {k : Nat} (C : zCx p l s m args meth c b0 Ev xs xl nL cc oc rt ini hh) (hd : decode cc pc = .ok (.arraylength, 1)) (hc : zXk k ≠ 0) (kn : zAt p l e R s m args below meth c Q D b0 Ev nL c0 u0 w0 Mf (pc + 1) (ls) (zI (wr (zXN xl k)) :: st) (M)) : zAt p l e R s m args below meth c Q D b0 Ev nL c0 u0 w0 Mf (pc) (ls) (zE k :: st) (M) := by
  intro H locs cells slots ws tys lsM stM S
  obtain ⟨w, r, rfl, h2, h9⟩ := S.2.2.2.2.2.2.1.cons
  have h2 : if k = 999 then ∃ a, w = .ref a else w = Ev k := h2
  rw [if_neg (zX999 hc)] at h2
  have kn := kn H locs cells slots ws tys lsM (.int (Int32.ofNat (zXN xl k)) :: r) (S.stk ⟨⟨_, rfl, zi_ofN _⟩, h9⟩)
  have h4 : zXk k = 1 ∨ zXk k = 2 ∨ zXk k = 3 := by
    unfold zXk at hc ⊢
    repeat' split
    all_goals simp_all
  rcases h4 with h4 | h4 | h4
  · obtain ⟨t, f, e1, e2, e3⟩ := C.2.2.2.2.2.1.1 k h4
    rw [e1] at h2
    subst h2
    exact va_tlen C.1 C.2.1 e2 S.2.2.2.2.1 rfl hd kn
  · obtain ⟨t, f, e1, e2, e3⟩ := C.2.2.2.2.2.1.2.1 k h4
    rw [e1] at h2
    subst h2
    exact va_tlen C.1 C.2.1 e2 S.2.2.2.2.1 rfl hd kn
  · obtain ⟨t, e1, e2⟩ := C.2.2.2.2.2.1.2.2.1 k h4
    rw [e1] at h2
    subst h2
    exact va_tlen C.1 C.2.1 e2 S.2.2.2.2.1 rfl hd kn
end ZROW2
