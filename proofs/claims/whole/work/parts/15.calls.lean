/-! calls, and whole methods -/
/-- where a method ends with an answer -/
def zretI (i : Instr) (rt : Option FieldType) (rv : Option zV) (st : List zV) : Prop :=
  (i = .ireturn ∧ ∃ (ty : FieldType) (v : Int), rt = some ty ∧ st = [zI v] ∧ zfit ty v ∧ rv = some (zI v)) ∨ (i = .lreturn ∧ ∃ v : Int, rt = some .long ∧ st = [zL v] ∧ rv = some (zL v)) ∨ (i = .dreturn ∧ ∃ v : UInt64, rt = some .double ∧ st = [zD v] ∧ rv = some (zD v)) ∨ (i = .areturn ∧ ∃ (ty : FieldType) (v : zV), rt = some ty ∧ zisq ty = true ∧ st = [v] ∧ zqr v ∧ rv = some v) ∨ (i = .return_ ∧ rt = none ∧ st = [] ∧ rv = none)
def zrm (d mc ms : Nat) : Room := { frames := d + 32, cells := mc, slots := ms, locals := 64 * d + 1200 }
def zPc (D : va_G) (b0 : Nat) (Ev : Nat → Value) (xs : Nat → Int) (xl : Nat) (av : List Value) (ws : va_W) (tys : List (ClassId × FieldType)) : Array Value → State → Prop := va_Pc av (fun U => b0 ≤ U.heap.size ∧ va_P D vwCl ws U.heap ∧ va_K D vwCl tys U ∧ va_D (fun q => b0 ≤ q) ws ∧ zXt Ev xs xl (fun q => b0 ≤ q) U U.heap)
def zQc (D : va_G) (b0 : Nat) (Ev : Nat → Value) (ws : va_W) (rv : Option zV) (M' : zM) : Array Value → State → Outcome → State → Prop := fun _ st oc t => (∃ (rvM : Option Value) (ws' : va_W) (tys' : List (ClassId × FieldType)), oc = .returned rvM ∧ zsr Ev ws' rv.toList rvM.toList ∧ zH M' ws' tys' ∧ va_P D vwCl ws' t.heap ∧ va_K D vwCl tys' t ∧ va_D (fun q => b0 ≤ q) ws' ∧ zx ws ws') ∧ va_F (fun q => b0 ≤ q) st t
def zXC (D : va_G) (b0 : Nat) (ws : va_W) (E : Nat) (M' : zM) : String → State → State → Prop := fun En st t => En = zxn E ∧ (∃ (ws' : va_W) (tys' : List (ClassId × FieldType)), zH M' ws' tys' ∧ va_P D vwCl ws' t.heap ∧ va_K D vwCl tys' t ∧ va_D (fun q => b0 ≤ q) ws' ∧ zx ws ws') ∧ va_F (fun q => b0 ≤ q) st t
/-- methods, d calls deep at most, do what the plain machine does -/
def zSnd (l : Launch) (D : va_G) (b0 : Nat) (Ev : Nat → Value) (xs : Nat → Int) (xl d : Nat) : Prop := ∀ (K : Nat) (a : List zV) (M : zM) (r : zRes) (M' : zM), K < 244 → zMo K ≠ 20 → zcall xs xl d K a M r M' → ∀ (av : List Value) (ws : va_W) (tys : List (ClassId × FieldType)), zH M ws tys → zsr Ev ws a av →
  (∀ rv, r = .inl rv → Met l (zMy K) (zcw K :: zT0) (zrm d (mc M' - mc M) (mu M' - mu M)) (zPc D b0 Ev xs xl av ws tys) (zQc D b0 Ev ws rv M') (mc M' - mc M) (mu M' - mu M) (fun q => b0 ≤ q)) ∧
  (∀ E, r = .inr E → zMh K = [] → vx_Met l (zMy K) (zcw K :: zT0) (zrm d (mc M' - mc M) (mu M' - mu M)) (zPc D b0 Ev xs xl av ws tys) (fun _ _ _ _ => False) (zXC D b0 ws E M') (mc M' - mc M) (mu M' - mu M) (fun q => b0 ≤ q))
theorem zPc.blind {D : va_G} {b0 : Nat} {Ev : Nat → Value} {xs : Nat → Int} {xl : Nat} {av : List Value} {ws : va_W} {tys : List (ClassId × FieldType)} : FrameBlind (zPc D b0 Ev xs xl av ws tys) := fun a U g mk q => by
  obtain ⟨q0, q1, qP, qK, qD, qX⟩ := q
  exact ⟨q0, q1, qP, va_K.moved (u := U) (U := U.calling g mk a) (Vm.Alike.refl U.vm) qK, qD, zXt.mv (s := U) (U := U.calling g mk a) qX (State.WarmedH.refl U) q1 (fun _ _ => rfl)⟩
section ZMAIN
variable {p : Program} {l : Launch} {e : Env} {R : Room} {s : State} {m : MethodId} {args : Array Value} {below : List Frame} {meth : Method} {c : Code} {Q : State → Prop} {D : va_G} {b0 : Nat} {Ev : Nat → Value} {xs : Nat → Int} {xl nL c0 u0 d : Nat} {w0 : va_W} {Mf : zM} {cc : ByteArray} {oc : Nat} {rt : Option FieldType} {ini : Bool} {hh : List (Nat × Nat × Nat × Nat × Nat)} {pc : Nat} {ls st : List zV} {M M1 : zM}
theorem zgood (w : Jvm.Cond) (h : w ∈ zT0) : goodWord w = true := (List.mem_filter.mp h).2
theorem zgin {K : Nat} (h : K < 244) {own : Jvm.Cond} : GoodIn (own :: zT0) (zcw K :: zT0) := fun w hw => by
  have h2 : w ∈ zT0 := (List.mem_cons.mp hw).elim (fun e => by rw [e]; exact zcw_ok h) id
  exact ⟨List.mem_cons_of_mem _ h2, good_of_word (zgood w h2)⟩
theorem zgin0 {K : Nat} (h : K < 244) : GoodIn zT0 (zcw K :: zT0) := fun w hw => by
  have h2 : w ∈ zT0 := (List.mem_cons.mp hw).elim (fun e => by rw [e]; exact zcw_ok h) id
  exact ⟨h2, good_of_word (zgood w h2)⟩
/-- what a method's table row says -/
theorem zmw_is {K : Nat} (h : K < 244) : (plainName (zMy K).cls = true ∨ zMo K = 20) ∧ ((zMy K).cls ≠ "java/lang/invoke/MethodHandle" ∧ (zMy K).cls ≠ "java/lang/invoke/VarHandle") ∧ (zMy K).cls = zcn (zMo K) ∧ (parseMethodDescriptor (zMy K).desc).map (fun d => d.parameters.length) = some (zMn K) ∧ Jvm.Cond.initialized (zMy K).cls ∈ zT0 ∧ (zMi K = true → (zMy K).name = "<init>") ∧ zMl K ≤ 12 ∧ (zMh K = [] ∨ zMo K = 13) := by
  have h1 := zmw_ok h
  unfold zmw at h1
  simp only [Bool.and_eq_true, Bool.or_eq_true, decide_eq_true_eq, beq_iff_eq, Bool.not_eq_true'] at h1
  obtain ⟨⟨⟨⟨⟨h0, h1⟩, h2, h3, h4, h5⟩, h6⟩, h7⟩, h8⟩ := h1
  refine ⟨h1, ⟨h2, h3⟩, h4, h5, zp0_in h6, fun hi => h7.elim (fun z => absurd (z.symm.trans hi) (by decide)) id, h8, h0⟩
/-- behind a call that answers -/
theorem zs_run {st0 : List Value} {rest : List zV} {restM : List Value} {rv : Option zV} {a : Array Value} {H : Heap} {locs : List Loc} {cells slots : Nat} {ws : va_W} {tys : List (ClassId × FieldType)} {lsM : Array Slot} {stM : List Value} {st : List zV} (C : zCx p l s m args meth c b0 Ev xs xl nL cc oc rt ini hh) (S : zSt s R D b0 Ev nL c0 u0 w0 Mf ls st M H locs cells slots ws tys lsM stM) (hle : zle M M1) (hm : zle M1 Mf) (hrest : zsr Ev ws rest restM)
    (hr : va_Run p l e R s m args below meth c H locs cells slots (mc M1 - mc M) (mu M1 - mu M) (F0 m pc lsM st0) restM (zQc D b0 Ev ws rv M1 a) (fun q => b0 ≤ q)) (kn : zAt p l e R s m args below meth c Q D b0 Ev nL c0 u0 w0 Mf (pc + 3) (ls) (rv.toList ++ rest) (M1)) : W p l e R s m args below meth c H locs cells slots Q (F0 m pc lsM st0) := by
  intro T hT X
  obtain ⟨v, st₀, t, T', L, h0, X', hL, e1, e2, ⟨⟨rvM, ws', tys', hv, h1, h2, h3, h4, h5, h6⟩, hz, hk⟩, stp⟩ := hr T hT X
  cases hv
  rw [h0] at hz hk
  have hal : s.vm.Alike t.vm := by rw [← e2]; exact X'.warmed.alike
  have hb : b0 ≤ H.size := Nat.le_trans C.2.2.2.2.2.2.1 S.2.2.2.2.1.1
  obtain ⟨g1, g2, g3, g4, g5, g6, g7, g8, g9⟩ := S
  obtain ⟨l1, l2⟩ := hle
  obtain ⟨m1, m2⟩ := hm
  obtain ⟨t2, a1, b1⟩ := kn T'.heap (locs ++ L) (cells + (mc M1 - mc M)) (slots + (mu M1 - mu M)) ws' tys' lsM (v.toList ++ restM) ⟨h2, by rw [e1]; exact h3, va_K.moved hal.symm h4, h5, ⟨Nat.le_trans g5.1 (by rw [e1]; exact hz), fun q q1 q2 => by rw [e1, hk q (Nat.lt_of_lt_of_le q1 g5.1) q2]; exact g5.2.1 q q1 q2, fun q hq => by
      rcases List.mem_append.mp hq with h | h
      · exact g5.2.2 q h
      · exact hL q h⟩, g6.mv h6, h1.app (hrest.mv h6), g8, by omega, g9.2.tr h6⟩ T' rfl X'
  exact ⟨t2, stp t2 a1, b1⟩
/-- behind a call that throws, where it is caught -/
theorem zs_runX {st0 : List Value} {restM : List Value} {E t9 : Nat} {H : Heap} {locs : List Loc} {cells slots : Nat} {ws : va_W} {tys : List (ClassId × FieldType)} {lsM : Array Slot} {stM : List Value} {st : List zV} (C : zCx p l s m args meth c b0 Ev xs xl nL cc oc rt ini hh) (S : zSt s R D b0 Ev nL c0 u0 w0 Mf ls st M H locs cells slots ws tys lsM stM) (hle : zle M M1) (hm : zle M1 Mf)
    (hr : vx_Run p l e R s m args below meth c H locs cells slots (mc M1 - mc M) (mu M1 - mu M) (F0 m pc lsM st0) restM (fun _ _ _ => False) (zXC D b0 ws E M1) (fun q => b0 ≤ q)) (hcat : ∀ (H' : Heap) (locs' : List Loc) (cells' slots' : Nat) (ce : Cell) (q : Addr), H'[q]? = some ce → ce.vm = .none → s.vm.findClass (zxn E) = some ce.cls → W p l e R s m args below meth c H' locs' cells' slots' Q (F0 m t9 lsM [.ref q]) → vx_W p l e R s m args below meth c H' locs' cells' slots' Q (F0 m pc lsM restM) q) (kn : zAt p l e R s m args below meth c Q D b0 Ev nL c0 u0 w0 Mf (t9) (ls) ([zE 999]) (M1)) : W p l e R s m args below meth c H locs cells slots Q (F0 m pc lsM st0) := by
  intro T hT X
  rcases hr T hT X with ⟨v, st₀, t, T', L, h0, X', hL, e1, e2, hF, -⟩ | ⟨q, st₀, t, T', L, En, ce, h0, X', hL, e1, e2, ⟨rfl, ⟨ws', tys', h2, h3, h4, h5, h6⟩, hz, hk⟩, hce, hcv, hcl, stp⟩
  · exact hF.elim
  rw [h0] at hz hk
  have hal : s.vm.Alike t.vm := by rw [← e2]; exact X'.warmed.alike
  obtain ⟨g1, g2, g3, g4, g5, g6, g7, g8, g9⟩ := S
  obtain ⟨l1, l2⟩ := hle
  obtain ⟨m1, m2⟩ := hm
  have kk := kn T'.heap (locs ++ L) (cells + (mc M1 - mc M)) (slots + (mu M1 - mu M)) ws' tys' lsM [.ref q] ⟨h2, by rw [e1]; exact h3, va_K.moved hal.symm h4, h5, ⟨Nat.le_trans g5.1 (by rw [e1]; exact hz), fun q q1 q2 => by rw [e1, hk q (Nat.lt_of_lt_of_le q1 g5.1) q2]; exact g5.2.1 q q1 q2, fun q hq => by
      rcases List.mem_append.mp hq with h | h
      · exact g5.2.2 q h
      · exact hL q h⟩, g6.mv h6, ⟨by show if (999 : Nat) = 999 then (∃ a, Value.ref q = .ref a) else (Value.ref q = Ev 999); rw [if_pos rfl]; exact ⟨q, rfl⟩, trivial⟩, g8, by omega, g9.2.tr h6⟩
  obtain ⟨t2, a1, b1⟩ := hcat T'.heap (locs ++ L) _ _ ce q (by rw [e1]; exact hce) hcv hcl kk T' rfl X'
  exact ⟨t2, stp.trans a1, b1⟩
/-- the words of a call -/
theorem zcallB {own : String} {idx K mc0 ms0 : Nat} (C : zCx p l s m args meth c b0 Ev xs xl nL cc oc rt ini hh) (hK : K < 244) (hh0 : zMh K = []) (hl : Jvm.Cond.methodLink own idx (zMy K) ∈ zT0) (hR : d + 33 ≤ R.frames ∧ 64 * d + 1264 ≤ R.locals) : CallB R s args own idx (zMy K) (zMc K) (zMl K) (zMr K) (zcw K :: zT0) (zrm d mc0 ms0) mc0 ms0 (zMn K) := by
  obtain ⟨-, w2, -, w4, w5, -, w7, -⟩ := zmw_is hK
  have hw : zcw K = Jvm.Cond.code (zMy K) (zMc K) (zMl K) (zMr K) := by unfold zcw; rw [if_pos hh0]
  refine callB_of (ws' := zT0) (zMn K) C.2.2.2.2.1 (zgin0 hK) (by rw [hw]) rfl rfl (C.2.2.2.2.1 _ w5) (C.2.2.2.2.1 _ hl) ⟨w2.1, w2.2, w4⟩ ⟨hR.1, ?_⟩
  show 8 + (zMl K + 11) + (64 * d + 1200) ≤ _
  omega
theorem zcallN {own host : String} {idx K mc0 ms0 : Nat} (C : zCx p l s m args meth c b0 Ev xs xl nL cc oc rt ini hh) (hK : K < 244) (hh0 : zMh K = []) (hl : Jvm.Cond.methodLinkNest own idx (zMy K) host ∈ zT1) (hR : d + 33 ≤ R.frames ∧ 64 * d + 1264 ≤ R.locals) : va_CN R s args own idx (zMy K) host (zMc K) (zMl K) (zMr K) (zcw K :: zT0) (zrm d mc0 ms0) mc0 ms0 (zMn K) := by
  obtain ⟨-, w2, -, w4, w5, -, w7, -⟩ := zmw_is hK
  have hw : zcw K = Jvm.Cond.code (zMy K) (zMc K) (zMl K) (zMr K) := by unfold zcw; rw [if_pos hh0]
  refine va_cnB (ws' := zT0) (zMn K) C.2.2.2.2.1 (zgin0 hK) (by rw [hw]) rfl rfl (C.2.2.2.2.2.1.2.2.2.2.2.1 _ hl) (C.2.2.2.2.1 _ w5) ⟨w2.1, w2.2, w4⟩ ⟨hR.1, ?_⟩
  show 8 + (zMl K + 11) + (64 * d + 1200) ≤ _
  omega
theorem zcallfix (C : zCx p l s m args meth c b0 Ev xs xl nL cc oc rt ini hh) : CallFix p m c cc nL s args zT0 (zcn oc) := ⟨C.1, C.2.1, C.2.2.2.2.2.2.2.2.2.1, C.2.2.2.1, C.2.2.2.2.1⟩
theorem zpre {H : Heap} {locs : List Loc} {cells slots : Nat} {ws : va_W} {tys : List (ClassId × FieldType)} {lsM : Array Slot} {stM av : List Value} (C : zCx p l s m args meth c b0 Ev xs xl nL cc oc rt ini hh) (S : zSt s R D b0 Ev nL c0 u0 w0 Mf ls st M H locs cells slots ws tys lsM stM) : PreS s H (zPc D b0 Ev xs xl av ws tys) av := by
  have hb : b0 ≤ H.size := Nat.le_trans C.2.2.2.2.2.2.1 S.2.2.2.2.1.1
  refine ⟨zPc.blind, fun U hU hW => ⟨rfl, by rw [hU]; exact hb, by rw [hU]; exact S.2.1, va_K.moved hW.alike S.2.2.1, S.2.2.2.1, ?_⟩⟩
  exact zXt.mv C.2.2.2.2.2.1 hW C.2.2.2.2.2.2.1 (fun q hq => by rw [hU]; exact S.2.2.2.2.1.2.1 q (Nat.lt_of_lt_of_le hq C.2.2.2.2.2.2.1) (Nat.not_le.mpr hq))
theorem zrecv {K : Nat} {v : zV} {w : Value} {H : Heap} {locs : List Loc} {cells slots : Nat} {ws : va_W} {tys : List (ClassId × FieldType)} {lsM : Array Slot} {stM : List Value} (C : zCx p l s m args meth c b0 Ev xs xl nL cc oc rt ini hh) (S : zSt s R D b0 Ev nL c0 u0 w0 Mf ls st M H locs cells slots ws tys lsM stM) (hv : zrcv M K v) (hw : zvr Ev ws v w) : ∃ b : Nat, w = .ref b ∧ ∃ cellB : Cell, H[b]? = some cellB ∧ cellB.vm.isStatics = false ∧ s.vm.findClass (zcn (zMo K)) = some cellB.cls := by
  rcases v with i | a | i | k | dd | u
  · exact hv.elim
  · obtain ⟨h1, h2⟩ := hv
    obtain ⟨i, ad, fs, rfl, hwi, -, -⟩ := S.1.obj h1 h2
    have := zaddr (i' := 0) hw hwi
    subst this
    exact ⟨ad, rfl, va_recv S.2.2.1 S.2.1 (zcl_at h2) hwi⟩
  · exact hv.elim
  · obtain ⟨h1, h2, h3⟩ := hv
    have hw : if k = 999 then ∃ a, w = .ref a else w = Ev k := hw
    rw [if_neg (by have : zSN = 30 := rfl; omega)] at hw
    obtain ⟨q, e1, -, -, ⟨cell, f1, f2, f3, f4⟩, -⟩ := C.2.2.2.2.2.1.2.2.2.2.1 (k - 20) (by omega)
    rw [show 20 + (k - 20) = k by omega] at e1
    have hlt : q < s.heap.size := (Array.getElem?_eq_some_iff.mp f1).1
    exact ⟨q, by rw [hw, e1], cell, by rw [S.2.2.2.2.1.2.1 q hlt f4]; exact f1, f2, by rw [h1]; exact f3⟩
  · exact hv.elim
  · exact hv.elim
theorem zsplit {ws : va_W} {n : Nat} {st : List zV} {stM : List Value} (h : zsr Ev ws st stM) (hn : n ≤ st.length) : zsr Ev ws (st.take n).reverse (stM.take n).reverse ∧ zsr Ev ws (st.drop n) (stM.drop n) ∧ ((stM.take n).reverse).length = n ∧ stM = ((stM.take n).reverse).reverse ++ stM.drop n := by
  refine ⟨(h.take n).rev, h.drop n, ?_, ?_⟩
  · rw [List.length_reverse, List.length_take, ← h.len]; omega
  · rw [List.reverse_reverse, List.take_append_drop]
theorem zs_static {k K : Nat} {rv : Option zV} (C : zCx p l s m args meth c b0 Ev xs xl nL cc oc rt ini hh) (hS : zSnd l D b0 Ev xs xl d) (hR : d + 33 ≤ R.frames ∧ 64 * d + 1264 ≤ R.locals) (hd : decode cc pc = .ok (.invokestatic k, 3)) (hk : zMR oc k = some (0, K)) (h20 : zMo K ≠ 20) (hcall : zcall xs xl d K (st.take (zMn K)).reverse M (.inl rv) M1) (hn : zMn K ≤ st.length) (h4 : (st.drop (zMn K)).length ≤ 4) (hm : zle M1 Mf) (kn : zAt p l e R s m args below meth c Q D b0 Ev nL c0 u0 w0 Mf (pc + 3) (ls) (rv.toList ++ st.drop (zMn K)) (M1)) : zAt p l e R s m args below meth c Q D b0 Ev nL c0 u0 w0 Mf (pc) (ls) (st) (M) := by
  intro H locs cells slots ws tys lsM stM S
  obtain ⟨md, a', b', hl⟩ := zMR_in hk
  have hle : zle M M1 := zmo_call d K _ M _ _ hcall
  have hroom := S.room (k := mc M1 - mc M) (n := mu M1 - mu M) (by have := hle.1; have := hm.1; omega) (by have := hle.2; have := hm.2; omega)
  obtain ⟨z1, z2, z3, z4⟩ := zsplit S.2.2.2.2.2.2.1 hn
  have hsum := zsum C.2.2.2.2.2.2.2.2.2.2.1 z2
  have hW : 2 * (F0 m pc lsM stM).monitorRoom + ((stM.drop (zMn K)).map fun v => v.category).sum ≤ 8 := lv_room (by omega)
  have hsz : lsM.size = nL := S.2.2.2.2.2.1.1.trans S.2.2.2.2.2.2.2.1
  simp only [zlw, Bool.and_eq_true, decide_eq_true_eq] at hl
  obtain ⟨hl1, ⟨hK, hmd0⟩, hst0⟩ := hl
  have hst := C.2.2.2.2.1 _ (zp0_in hst0)
  have hMet := (hS K _ M _ M1 hK h20 hcall (stM.take (zMn K)).reverse ws tys S.1 z1).1 rv rfl
  obtain ⟨-, w2, -, w4, w5, -, w7, -⟩ := zmw_is hK
  by_cases hh0 : zMh K = []
  · match md, hl1 with
    | 0, hl1 => exact zs_run C S hle hm z2 (va_runS (zcallfix C) hMet ⟨zcallB C hK hh0 (zp0_in hl1) hR, hst⟩ (zpre C S) rfl z3 hsz z4 hW hd hroom) kn
    | 1, hl1 => exact zs_run C S hle hm z2 (va_runSN (zcallfix C) hMet ⟨zcallN C hK hh0 (zp1_in hl1) hR, hst, trivial⟩ (zpre C S) rfl z3 hsz z4 hW hd hroom) kn
    | _ + 2, hl1 => exact zs_run C S hle hm z2 (va_runSN (zcallfix C) hMet ⟨zcallN C hK hh0 (zp1_in hl1) hR, hst, trivial⟩ (zpre C S) rfl z3 hsz z4 hW hd hroom) kn
  · have hw : zcw K = Jvm.Cond.codeWith (zMy K) (zMc K) (zMl K) (zMr K) ((zMh K).map (fun h => (h.1, h.2.1, h.2.2.1, h.2.2.2.2))) := by unfold zcw; rw [if_neg hh0]
    have hmd := hmd0.resolve_left hh0
    subst hmd
    · have hcs : vx_CSW R s args (zcn oc) k (zMy K) (zMc K) (zMl K) (zMr K) ((zMh K).map (fun h => (h.1, h.2.1, h.2.2.1, h.2.2.2.2))) (zcw K :: zT0) (zrm d (mc M1 - mc M) (mu M1 - mu M)) (mc M1 - mc M) (mu M1 - mu M) (zMn K) := by
        refine vx_cwSW (Ts := zT0) (ws' := zT0) (zMn K) C.2.2.2.2.1 ?_ (by rw [hw]) rfl rfl ⟨w2.1, w2.2, w4⟩ ⟨hR.1, ?_⟩
        · intro w hw
          rcases List.mem_append.mp hw with h | h
          · have : w ∈ zT0 := by
              simp only [List.mem_cons, List.not_mem_nil, or_false] at h
              rcases h with rfl | rfl | rfl
              · exact zp0_in hl1
              · exact zp0_in hst0
              · exact w5
            exact ⟨this, good_of_word (zgood w this)⟩
          · exact zgin0 hK w h
        · show 8 + (zMl K + 11) + (64 * d + 1200) ≤ _
          omega
      exact zs_run C S hle hm z2 (vx_runSW (zcallfix C) hMet hcs (zpre C S) rfl z3 hsz z4 hW hd hroom) kn

end ZMAIN
