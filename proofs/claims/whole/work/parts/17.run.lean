/-! the run of a method's code -/
theorem zX_str {xl k j : Nat} (hc : zXk k = 3) (h : j < zXN xl k) : zXQ k j ≠ 999 := by
  have h1 : k = 1 ∨ k = 2 ∨ k = 3 := by
    unfold zXk at hc
    have : zSN = 30 := rfl
    split at hc
    · omega
    · split at hc
      · omega
      · split at hc
        · omega
        · split at hc <;> omega
  have h2 : ∀ k, k < 4 → ∀ j, j < 9 → zXQ k j ≠ 999 := by decide +kernel
  have h3 : zXN xl k < 9 := by
    rcases h1 with rfl | rfl | rfl <;> exact Nat.le_of_ble_eq_true rfl
  exact h2 k (by omega) j (by omega)
theorem zmr20 : zCA.all (fun q => q.2.2.1 == 5 || q.2.2.1 == 6 || q.2.2.1 == 7 || q.2.2.1 == 3 || q.2.2.1 == 4 || decide (zMo q.2.2.2.1 ≠ 20)) = true := by decide +kernel
theorem zMR_20 {o k kd K : Nat} (h : zMR o k = some (kd, K)) (hk : kd < 3) : zMo K ≠ 20 := by
  unfold zMR at h
  cases hz : zlk zCA o k with
  | none => rw [hz] at h; cases h
  | some v =>
    obtain ⟨kd', K', md, a, b⟩ := v
    rw [hz] at h
    cases h
    have := List.all_eq_true.mp zmr20 _ (zlk_mem hz)
    simp only [Bool.or_eq_true, beq_iff_eq, decide_eq_true_eq] at this
    rcases this with ((((h | h) | h) | h) | h) | h <;> first | omega | exact h
section ZRUN
variable {p : Program} {l : Launch} {e : Env} {R : Room} {s : State} {m : MethodId} {args : Array Value} {below : List Frame} {meth : Method} {c : Code} {Q : State → Prop} {D : va_G} {b0 : Nat} {Ev : Nat → Value} {xs : Nat → Int} {xl nL c0 u0 d : Nat} {w0 : va_W} {Mf : zM} {cc : ByteArray} {oc : Nat} {rt : Option FieldType} {ini : Bool} {hh : List (Nat × Nat × Nat × Nat × Nat)}
set_option maxHeartbeats 4000000 in
theorem zrun_ok {r : zRes} (C : zCx p l s m args meth c b0 Ev xs xl nL cc oc rt ini hh) (hh13 : hh ≠ [] → oc = 13) (hok : hh.all zhok = true) (hS : zSnd l D b0 Ev xs xl d) (hR : d + 33 ≤ R.frames ∧ 64 * d + 1264 ≤ R.locals)
    (hret : ∀ (rv : Option zV) (pc : Nat) (i : Instr) (ls st : List zV) (H : Heap) (locs : List Loc) (cells slots : Nat) (ws : va_W) (tys : List (ClassId × FieldType)) (lsM : Array Slot) (stM : List Value), r = .inl rv → decode cc pc = .ok (i, 1) → zretI i rt rv st → zSt s R D b0 Ev nL c0 u0 w0 Mf ls st Mf H locs cells slots ws tys lsM stM → W p l e R s m args below meth c H locs cells slots Q (F0 m pc lsM stM))
    (hthr : ∀ (E pc k : Nat) (is ic : Nat) (ls st : List zV) (M : zM), r = .inr E → decode cc pc = .ok (.new k, 3) → decode cc (pc + 3) = .ok (.dup, 1) → decode cc (pc + 4) = .ok (.ldc is, 2) → decode cc (pc + 6) = .ok (.invokespecial ic, 3) → decode cc (pc + 9) = .ok (.athrow, 1) → zXL oc k is ic = true → zXR oc k = some E → st.length ≤ 4 → Mf = nwX M → zAt p l e R s m args below meth c Q D b0 Ev nL c0 u0 w0 Mf (pc) (ls) (st) (M)) :
    ∀ (n pc : Nat) (ls st : List zV) (M : zM), zrun (zcall xs xl d) xs xl cc oc rt ini hh n pc ls st M r Mf → zAt p l e R s m args below meth c Q D b0 Ev nL c0 u0 w0 Mf (pc) (ls) (st) (M)
  | 0, _, _, _, _, h => h.elim
  | n + 1, pc, ls, st, M, h => by
    have ih := zrun_ok (r := r) C hh13 hok hS hR hret hthr n
    have hmono := zmo_run (cr := zcall xs xl d) (xs := xs) (xl := xl) (cc := cc) (oc := oc) (rt := rt) (ini := ini) (hh := hh) (zmo_call d) n
    have hR2 : 1 ≤ R.frames ∧ 40 ≤ R.locals := ⟨by omega, by omega⟩
    unfold zrun at h
    cases hd : decode cc pc with
    | error z => rw [hd] at h; exact h.elim
    | ok q =>
      rw [hd] at h
      obtain ⟨i, len⟩ := q
      obtain ⟨hlen, h⟩ := h
      dsimp only at hlen h
      cases i
      case iconst k => simp only [zlen, beq_iff_eq] at hlen; subst hlen; exact zs_iconst C hd (ih _ _ _ _ h)
      case bipush k => simp only [zlen, beq_iff_eq] at hlen; subst hlen; exact zs_bipush C hd (ih _ _ _ _ h)
      case sipush k => simp only [zlen, beq_iff_eq] at hlen; subst hlen; exact zs_sipush C hd (ih _ _ _ _ h)
      case lconst k => simp only [zlen, beq_iff_eq] at hlen; subst hlen; exact zs_lconst C hd (ih _ _ _ _ h)
      case dconst k =>
        simp only [zlen, beq_iff_eq] at hlen
        subst hlen
        obtain ⟨h0, h⟩ := h
        subst h0
        exact zs_dconst C hd (ih _ _ _ _ h)
      case aconst_null => simp only [zlen, beq_iff_eq] at hlen; subst hlen; exact zs_null C hd (ih _ _ _ _ h)
      case ldc k =>
        simp only [zlen, beq_iff_eq] at hlen
        subst hlen
        simp only [zexe] at h
        revert h
        rcases hv : zCK oc k with _ | v <;> intro h
        · exact h.elim
        · exact zs_ldc C hd hv (ih _ _ _ _ h)
      case ldc2_w k =>
        simp only [zlen, beq_iff_eq] at hlen
        subst hlen
        simp only [zexe] at h
        revert h
        rcases hv : zCL oc k with _ | v <;> intro h
        · exact h.elim
        · exact zs_ldc2 C hd hv (ih _ _ _ _ h)
      case iload k =>
        simp only [zlen, beq_iff_eq] at hlen
        subst hlen
        simp only [zexe] at h
        revert h
        rcases hv : ls[k]? with _ | (x | x | x | x | x | x) <;> intro h <;> first | exact h.elim | exact zs_iload C hd hv (ih _ _ _ _ h)
      case iload_n k =>
        simp only [zlen, beq_iff_eq] at hlen
        subst hlen
        simp only [zexe] at h
        revert h
        rcases hv : ls[(k : Nat)]? with _ | (x | x | x | x | x | x) <;> intro h <;> first | exact h.elim | exact zs_iload_n C hd hv (ih _ _ _ _ h)
      case lload k =>
        simp only [zlen, beq_iff_eq] at hlen
        subst hlen
        simp only [zexe] at h
        revert h
        rcases hv : ls[k]? with _ | (x | x | x | x | x | x) <;> intro h <;> first | exact h.elim | exact zs_lload C hd hv (ih _ _ _ _ h)
      case lload_n k =>
        simp only [zlen, beq_iff_eq] at hlen
        subst hlen
        simp only [zexe] at h
        revert h
        rcases hv : ls[(k : Nat)]? with _ | (x | x | x | x | x | x) <;> intro h <;> first | exact h.elim | exact zs_lload_n C hd hv (ih _ _ _ _ h)
      case dload k =>
        simp only [zlen, beq_iff_eq] at hlen
        subst hlen
        simp only [zexe] at h
        revert h
        rcases hv : ls[k]? with _ | (x | x | x | x | x | x) <;> intro h <;> first | exact h.elim | exact zs_dload C hd hv (ih _ _ _ _ h)
      case aload k =>
        simp only [zlen, beq_iff_eq] at hlen
        subst hlen
        simp only [zexe] at h
        revert h
        rcases hv : ls[k]? with _ | (x | x | x | x | x | x) <;> intro h <;> first | exact h.elim | exact zs_aload C hd hv trivial (ih _ _ _ _ h)
      case aload_n k =>
        simp only [zlen, beq_iff_eq] at hlen
        subst hlen
        simp only [zexe] at h
        revert h
        rcases hv : ls[(k : Nat)]? with _ | (x | x | x | x | x | x) <;> intro h <;> first | exact h.elim | exact zs_aload_n C hd hv trivial (ih _ _ _ _ h)
      case istore k =>
        simp only [zlen, beq_iff_eq] at hlen
        subst hlen
        obtain ⟨a, s, rfl, hk, h⟩ := pI_inv h
        exact zs_istore C hd hk (ih _ _ _ _ h)
      case istore_n k =>
        simp only [zlen, beq_iff_eq] at hlen
        subst hlen
        obtain ⟨a, s, rfl, hk, h⟩ := pI_inv h
        exact zs_istore_n C hd hk (ih _ _ _ _ h)
      case lstore k =>
        simp only [zlen, beq_iff_eq] at hlen
        subst hlen
        simp only [zexe] at h
        split at h
        · exact zs_lstore C hd h.1 (ih _ _ _ _ h.2)
        · exact h.elim
      case lstore_n k =>
        simp only [zlen, beq_iff_eq] at hlen
        subst hlen
        simp only [zexe] at h
        split at h
        · exact zs_lstore_n C hd h.1 (ih _ _ _ _ h.2)
        · exact h.elim
      case dstore k =>
        simp only [zlen, beq_iff_eq] at hlen
        subst hlen
        simp only [zexe] at h
        split at h
        · exact zs_dstore C hd h.1 (ih _ _ _ _ h.2)
        · exact h.elim
      case astore k =>
        simp only [zlen, beq_iff_eq] at hlen
        subst hlen
        simp only [zexe] at h
        split at h
        · exact zs_astore C hd trivial h.1 (ih _ _ _ _ h.2)
        · exact zs_astore C hd trivial h.1 (ih _ _ _ _ h.2)
        · exact h.elim
      case astore_n k =>
        simp only [zlen, beq_iff_eq] at hlen
        subst hlen
        simp only [zexe] at h
        split at h
        · exact zs_astore_n C hd trivial h.1 (ih _ _ _ _ h.2)
        · exact zs_astore_n C hd trivial h.1 (ih _ _ _ _ h.2)
        · exact h.elim
      case iinc k n' =>
        simp only [zlen, beq_iff_eq] at hlen
        subst hlen
        simp only [zexe] at h
        revert h
        rcases hv : ls[k]? with _ | (x | x | x | x | x | x) <;> intro h <;> first | exact h.elim | exact zs_iinc C hd hv (ih _ _ _ _ h)
      case dup =>
        simp only [zlen, beq_iff_eq] at hlen
        subst hlen
        simp only [zexe] at h
        split at h
        · exact zs_dup C hd h.1 (ih _ _ _ _ h.2)
        · exact h.elim
      case pop =>
        simp only [zlen, beq_iff_eq] at hlen
        subst hlen
        simp only [zexe] at h
        split at h
        · exact zs_pop C hd h.1 (ih _ _ _ _ h.2)
        · exact h.elim
      case dup2 =>
        simp only [zlen, beq_iff_eq] at hlen
        subst hlen
        simp only [zexe] at h
        split at h
        · exact zs_dup2 C hd h.1.1 h.1.2 (ih _ _ _ _ h.2)
        · exact h.elim
      case iadd =>
        simp only [zlen, beq_iff_eq] at hlen
        subst hlen
        obtain ⟨a, b, s, rfl, h⟩ := pII_inv h
        exact zs_iadd C hd (ih _ _ _ _ h)
      case isub =>
        simp only [zlen, beq_iff_eq] at hlen
        subst hlen
        obtain ⟨a, b, s, rfl, h⟩ := pII_inv h
        exact zs_isub C hd (ih _ _ _ _ h)
      case imul =>
        simp only [zlen, beq_iff_eq] at hlen
        subst hlen
        obtain ⟨a, b, s, rfl, h⟩ := pII_inv h
        exact zs_imul C hd (ih _ _ _ _ h)
      case iand =>
        simp only [zlen, beq_iff_eq] at hlen
        subst hlen
        obtain ⟨a, b, s, rfl, h⟩ := pII_inv h
        exact zs_iand C hd (ih _ _ _ _ h)
      case ior =>
        simp only [zlen, beq_iff_eq] at hlen
        subst hlen
        obtain ⟨a, b, s, rfl, h⟩ := pII_inv h
        exact zs_ior C hd (ih _ _ _ _ h)
      case ixor =>
        simp only [zlen, beq_iff_eq] at hlen
        subst hlen
        obtain ⟨a, b, s, rfl, h⟩ := pII_inv h
        exact zs_ixor C hd (ih _ _ _ _ h)
      case ishl =>
        simp only [zlen, beq_iff_eq] at hlen
        subst hlen
        obtain ⟨a, b, s, rfl, h⟩ := pII_inv h
        exact zs_ishl C hd (ih _ _ _ _ h)
      case ishr =>
        simp only [zlen, beq_iff_eq] at hlen
        subst hlen
        obtain ⟨a, b, s, rfl, h⟩ := pII_inv h
        exact zs_ishr C hd (ih _ _ _ _ h)
      case iushr =>
        simp only [zlen, beq_iff_eq] at hlen
        subst hlen
        obtain ⟨a, b, s, rfl, h⟩ := pII_inv h
        exact zs_iushr C hd (ih _ _ _ _ h)
      case idiv =>
        simp only [zlen, beq_iff_eq] at hlen
        subst hlen
        obtain ⟨a, b, s, rfl, hb, h⟩ := pII_inv h
        exact zs_idiv C hd hb (ih _ _ _ _ h)
      case irem =>
        simp only [zlen, beq_iff_eq] at hlen
        subst hlen
        obtain ⟨a, b, s, rfl, hb, h⟩ := pII_inv h
        exact zs_irem C hd hb (ih _ _ _ _ h)
      case ladd =>
        simp only [zlen, beq_iff_eq] at hlen
        subst hlen
        obtain ⟨a, b, s, rfl, h⟩ := pLL_inv h
        exact zs_ladd C hd (ih _ _ _ _ h)
      case lsub =>
        simp only [zlen, beq_iff_eq] at hlen
        subst hlen
        obtain ⟨a, b, s, rfl, h⟩ := pLL_inv h
        exact zs_lsub C hd (ih _ _ _ _ h)
      case lmul =>
        simp only [zlen, beq_iff_eq] at hlen
        subst hlen
        obtain ⟨a, b, s, rfl, h⟩ := pLL_inv h
        exact zs_lmul C hd (ih _ _ _ _ h)
      case lcmp =>
        simp only [zlen, beq_iff_eq] at hlen
        subst hlen
        obtain ⟨a, b, s, rfl, h⟩ := pLL_inv h
        exact zs_lcmp C hd (ih _ _ _ _ h)
      case ineg =>
        simp only [zlen, beq_iff_eq] at hlen
        subst hlen
        obtain ⟨a, s, rfl, h⟩ := pI_inv h
        exact zs_ineg C hd (ih _ _ _ _ h)
      case i2l =>
        simp only [zlen, beq_iff_eq] at hlen
        subst hlen
        obtain ⟨a, s, rfl, h⟩ := pI_inv h
        exact zs_i2l C hd (ih _ _ _ _ h)
      case i2c =>
        simp only [zlen, beq_iff_eq] at hlen
        subst hlen
        obtain ⟨a, s, rfl, h⟩ := pI_inv h
        exact zs_i2c C hd (ih _ _ _ _ h)
      case i2b =>
        simp only [zlen, beq_iff_eq] at hlen
        subst hlen
        obtain ⟨a, s, rfl, h⟩ := pI_inv h
        exact zs_i2b C hd (ih _ _ _ _ h)
      case i2d =>
        simp only [zlen, beq_iff_eq] at hlen
        subst hlen
        obtain ⟨a, s, rfl, h⟩ := pI_inv h
        exact zs_i2d C hd (ih _ _ _ _ h)
      case ddiv =>
        simp only [zlen, beq_iff_eq] at hlen
        subst hlen
        obtain ⟨a, b, s, rfl, hb, h⟩ := pDD_inv h
        exact zs_ddiv C hd hb (ih _ _ _ _ h)
      case dcmp op =>
        simp only [zlen, beq_iff_eq] at hlen
        subst hlen
        obtain ⟨a, b, s, rfl, h⟩ := pDD_inv h
        exact zs_dcmp C hd (ih _ _ _ _ h)
      case ifCond cd off =>
        simp only [zlen, beq_iff_eq] at hlen
        subst hlen
        obtain ⟨a, s, rfl, t, ht, h⟩ := pI_inv h
        rcases h with ⟨hc, h⟩ | ⟨hc, h⟩
        · exact zs_if C hd ht (fun _ => ih _ _ _ _ h) (fun q => absurd hc q)
        · exact zs_if C hd ht (fun q => absurd q hc) (fun _ => ih _ _ _ _ h)
      case if_icmp cd off =>
        simp only [zlen, beq_iff_eq] at hlen
        subst hlen
        obtain ⟨a, b, s, rfl, t, ht, h⟩ := pII_inv h
        rcases h with ⟨hc, h⟩ | ⟨hc, h⟩
        · exact zs_icmp C hd ht (fun _ => ih _ _ _ _ h) (fun q => absurd hc q)
        · exact zs_icmp C hd ht (fun q => absurd q hc) (fun _ => ih _ _ _ _ h)
      case ifnull off =>
        simp only [zlen, beq_iff_eq] at hlen
        subst hlen
        obtain ⟨a, s, rfl, t, ht, h⟩ := pR_inv h
        rcases h with ⟨hc, h⟩ | ⟨hc, h⟩
        · exact zs_ifnull C hd ht (fun _ => ih _ _ _ _ h) (fun q => absurd hc q)
        · exact zs_ifnull C hd ht (fun q => absurd q hc) (fun _ => ih _ _ _ _ h)
      case ifnonnull off =>
        simp only [zlen, beq_iff_eq] at hlen
        subst hlen
        obtain ⟨a, s, rfl, t, ht, h⟩ := pR_inv h
        rcases h with ⟨hc, h⟩ | ⟨hc, h⟩
        · exact zs_ifnonnull C hd ht (fun _ => ih _ _ _ _ h) (fun q => absurd hc q)
        · exact zs_ifnonnull C hd ht (fun q => absurd q hc) (fun _ => ih _ _ _ _ h)
      case goto off =>
        simp only [zlen, beq_iff_eq] at hlen
        subst hlen
        obtain ⟨t, ht, h⟩ := h
        exact zs_goto C hd ht (ih _ _ _ _ h)
      case tableswitch dd lo hi offs =>
        obtain ⟨a, s, rfl, h⟩ := pI_inv h
        rcases h with ⟨hc, t, ht, h⟩ | ⟨hc, h⟩
        · exact zs_tabOut C hd hc ht (ih _ _ _ _ h)
        · revert h
          rcases ho : offs[(a - lo).toNat]? with _ | off <;> intro h
          · exact h.elim
          · obtain ⟨t, ht, h⟩ := h
            exact zs_tabIn C hd hc ho ht (ih _ _ _ _ h)
      case lookupswitch dd ps =>
        obtain ⟨a, s, rfl, hp, t, ht, h⟩ := pI_inv h
        exact zs_lookup C hd hp ht (ih _ _ _ _ h)
      case getfield k =>
        simp only [zlen, beq_iff_eq] at hlen
        subst hlen
        simp only [zexe] at h
        revert h
        rcases hf : zFR oc k with _ | ⟨ci, j⟩ <;> intro h
        · exact h.elim
        · dsimp only at h
          split at h
          · exact zs_getf C hd hf h.1.1 h.1.2 (ih _ _ _ _ h.2)
          · exact zs_getfX C hd hf h.1.1 h.1.2.1 h.1.2.2 (ih _ _ _ _ h.2)
          · exact h.elim
      case putfield k =>
        simp only [zlen, beq_iff_eq] at hlen
        subst hlen
        simp only [zexe] at h
        revert h
        rcases hf : zFR oc k with _ | ⟨ci, j⟩ <;> intro h
        · exact h.elim
        · dsimp only at h
          split at h
          · exact zs_putI C hd hf h.1.1 h.1.2.1 h.1.2.2.1 h.1.2.2.2.1 h.1.2.2.2.2 (ih _ _ _ _ h.2)
          · exact zs_putR C hd hf h.1.1 h.1.2.1 h.1.2.2.1 h.1.2.2.2 (ih _ _ _ _ h.2)
          · exact h.elim
      case getstatic k =>
        simp only [zlen, beq_iff_eq] at hlen
        subst hlen
        simp only [zexe] at h
        revert h
        rcases hv : zSR oc k with _ | v <;> intro h
        · exact h.elim
        · exact zs_gets C hd hv (ih _ _ _ _ h)
      case iaload =>
        simp only [zlen, beq_iff_eq] at hlen
        subst hlen
        simp only [zexe] at h
        split at h
        · exact zs_iald C hd h.1.1 h.1.2.1 h.1.2.2 (ih _ _ _ _ h.2)
        · exact zs_ialdX C hd h.1.1 h.1.2.1 h.1.2.2 (ih _ _ _ _ h.2)
        · exact h.elim
      case baload =>
        simp only [zlen, beq_iff_eq] at hlen
        subst hlen
        simp only [zexe] at h
        split at h
        · exact zs_bald C hd h.1.1 h.1.2.1 h.1.2.2 (ih _ _ _ _ h.2)
        · exact zs_baldX C hd h.1.1 h.1.2.1 h.1.2.2 (ih _ _ _ _ h.2)
        · exact h.elim
      case laload =>
        simp only [zlen, beq_iff_eq] at hlen
        subst hlen
        simp only [zexe] at h
        split at h
        · exact zs_lald C hd h.1.1 h.1.2.1 h.1.2.2 (ih _ _ _ _ h.2)
        · exact h.elim
      case aaload =>
        simp only [zlen, beq_iff_eq] at hlen
        subst hlen
        simp only [zexe] at h
        split at h
        · exact zs_aald C hd h.1.1 h.1.2.2.1 h.1.2.2.2 (ih _ _ _ _ h.2)
        · obtain ⟨⟨a1, a2, a3⟩, h⟩ := h
          exact zs_aaldX C hd a1 a2 a3 (zX_str (xl := xl) a1 (by omega)) (ih _ _ _ _ h)
        · exact h.elim
      case iastore =>
        simp only [zlen, beq_iff_eq] at hlen
        subst hlen
        simp only [zexe] at h
        split at h
        · exact zs_iast C hd h.1.1 h.1.2.1 h.1.2.2 (ih _ _ _ _ h.2)
        · exact h.elim
      case bastore =>
        simp only [zlen, beq_iff_eq] at hlen
        subst hlen
        simp only [zexe] at h
        split at h
        · exact zs_bast C hd h.1.1 h.1.2.1 h.1.2.2 (ih _ _ _ _ h.2)
        · exact h.elim
      case lastore =>
        simp only [zlen, beq_iff_eq] at hlen
        subst hlen
        simp only [zexe] at h
        split at h
        · exact zs_last C hd h.1.1 h.1.2.1 h.1.2.2 (ih _ _ _ _ h.2)
        · exact h.elim
      case aastore =>
        simp only [zlen, beq_iff_eq] at hlen
        subst hlen
        simp only [zexe] at h
        split at h
        · exact zs_aast C hd h.1.1 h.1.2.1 h.1.2.2.1 h.1.2.2.2.1 h.1.2.2.2.2 (ih _ _ _ _ h.2)
        · exact h.elim
      case arraylength =>
        simp only [zlen, beq_iff_eq] at hlen
        subst hlen
        simp only [zexe] at h
        split at h
        · exact zs_alen C hd h.1.1 (ih _ _ _ _ h.2)
        · exact zs_alenX C hd h.1 (ih _ _ _ _ h.2)
        · exact h.elim
      case newarray ty =>
        simp only [zlen, beq_iff_eq] at hlen
        subst hlen
        obtain ⟨a, s, rfl, h1, h⟩ := pI_inv h
        have hm := hmono _ _ _ _ _ _ h
        exact zs_newarray C hd h1.1 h1.2.1 h1.2.2 hm.1 hm.2 (ih _ _ _ _ h)
      case anewarray k =>
        simp only [zlen, beq_iff_eq] at hlen
        subst hlen
        simp only [zexe] at h
        revert h
        rcases hn : zNR oc k with _ | ⟨ci, nf⟩ <;> intro h
        · exact h.elim
        · obtain ⟨a, s, rfl, h1, h⟩ := pI_inv h
          have hm := hmono _ _ _ _ _ _ h
          exact zs_anew C hd hn h1.2.2 h1.1 h1.2.1 hm.1 hm.2 (ih _ _ _ _ h)
      case multianewarray k d' =>
        simp only [zlen, beq_iff_eq] at hlen
        subst hlen
        match d', hd, h with
        | 0, _, h => exact h.elim
        | 1, _, h => exact h.elim
        | 2, hd, h =>
          obtain ⟨a, b, s, rfl, h1, h5⟩ := pII_inv h
          have hm := hmono _ _ _ _ _ _ h5
          obtain ⟨g1, g2, g3, g4, g5, rfl⟩ := h1
          refine zs_mna C hd g5 g1 g2 g3 g4 ?_ ?_ (ih _ _ _ _ h5)
          · have := hm.1; have e1 : mc (nwB M a.toNat b.toNat) = mc M + 1 + a.toNat := rfl; omega
          · have := hm.2; have e1 : mu (nwB M a.toNat b.toNat) = mu M + a.toNat + a.toNat * b.toNat := rfl; omega
        | _ + 3, _, h => exact h.elim
      case new k =>
        simp only [zlen, beq_iff_eq] at hlen
        subst hlen
        simp only [zexe] at h
        revert h
        rcases hn : zNR oc k with _ | ⟨ci, nf⟩ <;> intro h
        · revert h
          rcases hE : zXR oc k with _ | E <;> intro h
          · exact h.elim
          · obtain ⟨⟨is, ic, d3, d4, d6, d9, hx⟩, hs4, hr, hM⟩ := h
            exact hthr E pc k is ic ls st M hr hd d3 d4 d6 d9 hx hE hs4 hM
        · obtain ⟨h1, h⟩ := h
          subst h1
          have hm := hmono _ _ _ _ _ _ h
          exact zs_new C hd hn hm.1 hm.2 (ih _ _ _ _ h)
      case invokestatic k =>
        simp only [zlen, beq_iff_eq] at hlen
        subst hlen
        simp only [zexe] at h
        revert h
        rcases hk : zMR oc k with _ | ⟨kd, K⟩ <;> intro h
        · exact h.elim
        match kd, hk, h with
        | 0, hk, h =>
          obtain ⟨rv, m1, h1, h2, h3, h4⟩ := h
          exact zs_static C hS hR hd hk (zMR_20 hk (by omega)) h1 h2 h3 (hmono _ _ _ _ _ _ h4) (ih _ _ _ _ h4)
        | 1, _, h => exact h.elim
        | 2, _, h => exact h.elim
        | 3, _, h => exact h.elim
        | 4, hk, h =>
          obtain ⟨n', dp, b, sp, a, s, rfl, ⟨g1, g2, g3, g4, g5, g6, g7, g8, g9⟩, h5⟩ := pCopy_inv h
          exact zs_copy C hd hk g1 g2 g3 g4 g5 g6 g7 g9 hR2 (ih _ _ _ _ h5)
        | 5, hk, h =>
          obtain ⟨a, b, s, rfl, h1, h⟩ := pII_inv h
          exact zs_max C hd hk h1 hR2 (ih _ _ _ _ h)
        | 6, hk, h =>
          obtain ⟨a, b, s, rfl, h1, h⟩ := pII_inv h
          exact zs_min C hd hk h1 hR2 (ih _ _ _ _ h)
        | 7, hk, h =>
          obtain ⟨a, s, rfl, h1, h⟩ := pI_inv h
          exact zs_abs C hd hk h1 hR2 (ih _ _ _ _ h)
        | _ + 8, _, h => exact h.elim
      case invokevirtual k =>
        simp only [zlen, beq_iff_eq] at hlen
        subst hlen
        simp only [zexe] at h
        revert h
        rcases hk : zMR oc k with _ | ⟨kd, K⟩ <;> intro h
        · exact h.elim
        match kd, hk, h with
        | 0, _, h => exact h.elim
        | 1, hk, h =>
          obtain ⟨v, rest, r1, m1, h1, h2, h3, h4, h5⟩ := h
          cases r1 with
          | inl rv => exact zs_virtual C hh13 hok hS hR hd hk h1 h2 h3 h4 (hmono _ _ _ _ _ _ h5) (ih _ _ _ _ h5)
          | inr E =>
            obtain ⟨t, ht, h5⟩ := h5
            exact zs_virtual C hh13 hok hS hR hd hk h1 h2 h3 h4 (hmono _ _ _ _ _ _ h5) ⟨t, ht, ih _ _ _ _ h5⟩
        | _ + 2, _, h => exact h.elim
      case invokespecial k =>
        simp only [zlen, beq_iff_eq] at hlen
        subst hlen
        simp only [zexe] at h
        revert h
        rcases hk : zMR oc k with _ | ⟨kd, K⟩ <;> intro h
        · exact h.elim
        match kd, hk, h with
        | 0, _, h => exact h.elim
        | 1, _, h => exact h.elim
        | 2, hk, h =>
          obtain ⟨a, rest, m1, h1, h2, h3, h4, h5⟩ := h
          exact zs_special C hS hR hd hk (zMR_20 hk (by omega)) h1 h2 h3 h4 (hmono _ _ _ _ _ _ h5) (ih _ _ _ _ h5)
        | 3, hk, h =>
          obtain ⟨a, s, rfl, ⟨g1, g2⟩, h5⟩ := pR_inv h
          exact zs_oinit C hd hk g1 g2 hR2 (ih _ _ _ _ h5)
        | _ + 4, _, h => exact h.elim
      case ireturn =>
        simp only [zlen, beq_iff_eq] at hlen
        subst hlen
        simp only [zexe] at h
        revert h
        rcases rt with _ | ty <;> intro h
        · exact h.elim
        · dsimp only at h
          split at h
          · rename_i v
            obtain ⟨h1, h2, h3⟩ := h
            subst h3
            intro H locs cells slots ws tys lsM stM S
            exact hret _ pc _ ls _ H locs cells slots ws tys lsM stM h2 hd (Or.inl ⟨rfl, ty, v, rfl, rfl, h1, rfl⟩) S
          · exact h.elim
      case lreturn =>
        simp only [zlen, beq_iff_eq] at hlen
        subst hlen
        simp only [zexe] at h
        split at h
        · rename_i v
          obtain ⟨h1, h2, h3⟩ := h
          subst h3
          intro H locs cells slots ws tys lsM stM S
          exact hret _ pc _ ls _ H locs cells slots ws tys lsM stM h2 hd (Or.inr (Or.inl ⟨rfl, v, h1, rfl, rfl⟩)) S
        · exact h.elim
      case dreturn =>
        simp only [zlen, beq_iff_eq] at hlen
        subst hlen
        simp only [zexe] at h
        split at h
        · rename_i v
          obtain ⟨h1, h2, h3⟩ := h
          subst h3
          intro H locs cells slots ws tys lsM stM S
          exact hret _ pc _ ls _ H locs cells slots ws tys lsM stM h2 hd (Or.inr (Or.inr (Or.inl ⟨rfl, v, h1, rfl, rfl⟩))) S
        · exact h.elim
      case areturn =>
        simp only [zlen, beq_iff_eq] at hlen
        subst hlen
        simp only [zexe] at h
        revert h
        rcases rt with _ | ty <;> intro h
        · exact h.elim
        · dsimp only at h
          split at h
          · rename_i v
            obtain ⟨h1, h2, h3⟩ := h
            subst h3
            intro H locs cells slots ws tys lsM stM S
            exact hret _ pc _ ls _ H locs cells slots ws tys lsM stM h2 hd (Or.inr (Or.inr (Or.inr (Or.inl ⟨rfl, ty, zR v, rfl, h1, rfl, trivial, rfl⟩)))) S
          · rename_i v
            obtain ⟨h1, h2, h3⟩ := h
            subst h3
            intro H locs cells slots ws tys lsM stM S
            exact hret _ pc _ ls _ H locs cells slots ws tys lsM stM h2 hd (Or.inr (Or.inr (Or.inr (Or.inl ⟨rfl, ty, zE v, rfl, h1, rfl, trivial, rfl⟩)))) S
          · exact h.elim
      case return_ =>
        simp only [zlen, beq_iff_eq] at hlen
        subst hlen
        simp only [zexe] at h
        split at h
        · obtain ⟨h1, h2, h3⟩ := h
          subst h3
          intro H locs cells slots ws tys lsM stM S
          exact hret _ pc _ ls _ H locs cells slots ws tys lsM stM h2 hd (Or.inr (Or.inr (Or.inr (Or.inr ⟨rfl, h1, rfl, rfl⟩)))) S
        · exact h.elim
      all_goals exact h.elim
end ZRUN
