/-! exceptions, and the run of a method -/
theorem zw_cast_0 : Jvm.Cond.castable (zxn 0) (zxn 0) ∈ zT1 := List.mem_filter.mpr ⟨ztb_in (k := 2) (List.mem_of_getElem? (i := 221) rfl), rfl⟩
theorem zw_cast_1 : Jvm.Cond.castable (zxn 1) (zxn 1) ∈ zT1 := List.mem_filter.mpr ⟨ztb_in (k := 3) (List.mem_of_getElem? (i := 60) rfl), rfl⟩
theorem zw_cast_2 : Jvm.Cond.castable (zxn 2) (zxn 2) ∈ zT1 := List.mem_filter.mpr ⟨ztb_in (k := 3) (List.mem_of_getElem? (i := 85) rfl), rfl⟩
theorem zw_hl_13 : Jvm.Cond.classLink (zcn 13) 13 (zxn 0) ∈ zT0 := List.mem_filter.mpr ⟨ztb_in (k := 2) (List.mem_of_getElem? (i := 214) rfl), rfl⟩
theorem zw_hl_19 : Jvm.Cond.classLink (zcn 13) 19 (zxn 1) ∈ zT0 := List.mem_filter.mpr ⟨ztb_in (k := 3) (List.mem_of_getElem? (i := 53) rfl), rfl⟩
theorem zw_hl_24 : Jvm.Cond.classLink (zcn 13) 24 (zxn 2) ∈ zT0 := List.mem_filter.mpr ⟨ztb_in (k := 3) (List.mem_of_getElem? (i := 77) rfl), rfl⟩
def zhok (q : Nat × Nat × Nat × Nat × Nat) : Bool := (q.2.2.2.1 == 0 && q.2.2.2.2 == 13) || (q.2.2.2.1 == 1 && q.2.2.2.2 == 19) || (q.2.2.2.1 == 2 && q.2.2.2.2 == 24)
theorem zhok_is {q : Nat × Nat × Nat × Nat × Nat} (h : zhok q = true) : Jvm.Cond.classLink (zcn 13) q.2.2.2.2 (zxn q.2.2.2.1) ∈ zT0 ∧ q.2.2.2.2 ≠ 0 ∧ q.2.2.2.1 < 3 := by
  obtain ⟨a, b, t, E, k⟩ := q
  simp only [zhok, Bool.or_eq_true, Bool.and_eq_true, beq_iff_eq] at h
  rcases h with ((⟨rfl, rfl⟩ | ⟨rfl, rfl⟩) | ⟨rfl, rfl⟩)
  · exact ⟨zw_hl_13, Nat.succ_ne_zero _, Nat.le_of_ble_eq_true rfl⟩
  · exact ⟨zw_hl_19, Nat.succ_ne_zero _, Nat.le_of_ble_eq_true rfl⟩
  · exact ⟨zw_hl_24, Nat.succ_ne_zero _, Nat.le_of_ble_eq_true rfl⟩
theorem zhok_all : ∀ K, K < 244 → (zMh K).all zhok = true := by decide +kernel
theorem zhd_split : ∀ {h : List (Nat × Nat × Nat × Nat × Nat)} {pc E t : Nat}, zhd h pc E = some t → ∃ (pre : List (Nat × Nat × Nat × Nat × Nat)) (q : Nat × Nat × Nat × Nat × Nat) (suf : List (Nat × Nat × Nat × Nat × Nat)), h = pre ++ q :: suf ∧ (q.1 ≤ pc ∧ pc < q.2.1) ∧ q.2.2.2.1 = E ∧ q.2.2.1 = t ∧ ∀ z ∈ pre, ¬ (z.1 ≤ pc ∧ pc < z.2.1 ∧ z.2.2.2.1 = E)
  | [], _, _, _, h => by cases h
  | q :: l, pc, E, t, h => by
    unfold zhd at h
    split at h
    · rename_i hq
      cases h
      exact ⟨[], q, l, rfl, ⟨hq.1, hq.2.1⟩, hq.2.2, rfl, fun z hz => absurd hz List.not_mem_nil⟩
    · rename_i hq
      obtain ⟨pre, q', suf, e1, e2, e3, e4, e5⟩ := zhd_split h
      refine ⟨q :: pre, q', suf, by rw [e1]; rfl, e2, e3, e4, fun z hz => ?_⟩
      rcases List.mem_cons.mp hz with rfl | hz
      · exact hq
      · exact e5 z hz
section ZMAIN2
variable {p : Program} {l : Launch} {e : Env} {R : Room} {s : State} {m : MethodId} {args : Array Value} {below : List Frame} {meth : Method} {c : Code} {Q : State → Prop} {D : va_G} {b0 : Nat} {Ev : Nat → Value} {xs : Nat → Int} {xl nL c0 u0 d : Nat} {w0 : va_W} {Mf : zM} {cc : ByteArray} {oc : Nat} {rt : Option FieldType} {ini : Bool} {hh : List (Nat × Nat × Nat × Nat × Nat)} {pc : Nat} {ls st : List zV} {M M1 : zM}
theorem zcatch {E t : Nat} {lsM : Array Slot} {restM : List Value} {H : Heap} {locs : List Loc} {cells slots : Nat} {ce : Cell} {q : Addr} (C : zCx p l s m args meth c b0 Ev xs xl nL cc oc rt ini hh) (ho : oc = 13) (hok : hh.all zhok = true) (ht : zhd hh pc E = some t) (hcell : H[q]? = some ce) (hv : ce.vm = .none) (hcl : s.vm.findClass (zxn E) = some ce.cls) (kk : W p l e R s m args below meth c H locs cells slots Q (F0 m t lsM [.ref q])) : vx_W p l e R s m args below meth c H locs cells slots Q (F0 m pc lsM restM) q := by
  obtain ⟨pre, x, suf, e1, e2, e3, e4, e5⟩ := zhd_split ht
  subst ho
  have hall : ∀ z ∈ hh, zhok z = true := List.all_eq_true.mp hok
  obtain ⟨x1, x2, x3⟩ := zhok_is (hall x (by rw [e1]; simp))
  have hcast : Jvm.Cond.castable (zxn E) (zxn E) ∈ zT1 := by
    rw [e3] at x3
    match E, x3 with
    | 0, _ => exact zw_cast_0
    | 1, _ => exact zw_cast_1
    | 2, _ => exact zw_cast_2
  refine vx_catch (own := zcn 13) (name := zxn E) (E := zxn E) C.2.2.2.1 (pre.map (fun q => { startPc := q.1, endPc := q.2.1, handlerPc := q.2.2.1, catchType := q.2.2.2.2 })) { startPc := x.1, endPc := x.2.1, handlerPc := x.2.2.1, catchType := x.2.2.2.2 } (suf.map (fun q => { startPc := q.1, endPc := q.2.1, handlerPc := q.2.2.1, catchType := q.2.2.2.2 })) (by rw [C.2.2.2.2.2.2.2.2.2.2.2.2 (by rw [e1]; simp), e1, List.map_append, List.map_cons]) ?_ ?_ x2 (C.2.2.2.2.1 _ (by rw [← e3]; exact x1)) (va_Nw.use rfl (C.2.2.2.2.2.1.2.2.2.2.2.1 _ hcast)) hcell hv hcl (by show W p l e R s m args below meth c H locs cells slots Q (F0 m x.2.2.1 lsM [.ref q]); rw [e4]; exact kk)
  · intro z hz
    obtain ⟨y, hy, rfl⟩ := List.mem_map.mp hz
    have hn := e5 y hy
    by_cases hc : y.1 ≤ pc ∧ pc < y.2.1
    · obtain ⟨y1, y2, y3⟩ := zhok_is (hall y (by rw [e1]; exact List.mem_append_left _ hy))
      refine Or.inr ⟨y2, zxn y.2.2.2.1, C.2.2.2.2.1 _ y1, ?_⟩
      rw [e3] at x3
      exact C.2.2.2.2.2.1.2.2.2.2.2.2.2.2.2 E y.2.2.2.1 x3 y3 (fun q => hn ⟨hc.1, hc.2, q.symm⟩)
    · refine Or.inl ?_
      show (decide (y.1 ≤ pc) && decide (pc < y.2.1)) = false
      rw [← Bool.not_eq_true, Bool.and_eq_true, decide_eq_true_eq, decide_eq_true_eq]
      exact hc
  · show (decide (x.1 ≤ pc) && decide (pc < x.2.1)) = true
    rw [decide_eq_true e2.1, decide_eq_true e2.2]; rfl
theorem zs_virtual {k K : Nat} {v : zV} {rest : List zV} {r1 : zRes} (C : zCx p l s m args meth c b0 Ev xs xl nL cc oc rt ini hh) (hh13 : hh ≠ [] → oc = 13) (hok : hh.all zhok = true) (hS : zSnd l D b0 Ev xs xl d) (hR : d + 33 ≤ R.frames ∧ 64 * d + 1264 ≤ R.locals) (hd : decode cc pc = .ok (.invokevirtual k, 3)) (hk : zMR oc k = some (1, K)) (hdr : st.drop (zMn K) = v :: rest) (hv : zrcv M K v) (hcall : zcall xs xl d K (v :: (st.take (zMn K)).reverse) M r1 M1) (h4 : rest.length ≤ 4) (hm : zle M1 Mf) (kn : match r1 with
    | .inl rv => zAt p l e R s m args below meth c Q D b0 Ev nL c0 u0 w0 Mf (pc + 3) (ls) (rv.toList ++ rest) (M1)
    | .inr E => ∃ t, zhd hh pc E = some t ∧ zAt p l e R s m args below meth c Q D b0 Ev nL c0 u0 w0 Mf (t) (ls) ([zE 999]) (M1)) : zAt p l e R s m args below meth c Q D b0 Ev nL c0 u0 w0 Mf (pc) (ls) (st) (M) := by
  intro H locs cells slots ws tys lsM stM S
  obtain ⟨md, a', b', hl⟩ := zMR_in hk
  have hle : zle M M1 := zmo_call d K _ M _ _ hcall
  have hroom := S.room (k := mc M1 - mc M) (n := mu M1 - mu M) (by have := hle.1; have := hm.1; omega) (by have := hle.2; have := hm.2; omega)
  have hn : zMn K ≤ st.length := by
    apply Nat.not_lt.mp
    intro q
    rw [List.drop_eq_nil_of_le (by omega)] at hdr
    cases hdr
  obtain ⟨z1, z2, z3, z4⟩ := zsplit S.2.2.2.2.2.2.1 hn
  rw [hdr] at z2
  obtain ⟨w, restM, z5, z6, z7⟩ := z2.cons
  rw [z5] at z4
  have hsum := zsum C.2.2.2.2.2.2.2.2.2.2.1 z7
  have hW : 2 * (F0 m pc lsM stM).monitorRoom + (restM.map fun v => v.category).sum ≤ 8 := lv_room (by omega)
  have hsz : lsM.size = nL := S.2.2.2.2.2.1.1.trans S.2.2.2.2.2.2.2.1
  simp only [zlw, Bool.and_eq_true, decide_eq_true_eq] at hl
  obtain ⟨hl1, ⟨⟨hK, hh0, hmd⟩, hin⟩, hsel⟩ := hl
  have hin := C.2.2.2.2.1 _ (zp0_in hin)
  have hsel := C.2.2.2.2.1 _ (zp0_in hsel)
  have h20 : zMo K ≠ 20 := by
    rcases v with i | a | i | k | dd | u
    · exact hv.elim
    · have := hv.2; omega
    · exact hv.elim
    · have := hv.1; omega
    · exact hv.elim
    · exact hv.elim
  have hsnd := hS K _ M _ M1 hK h20 hcall (w :: (stM.take (zMn K)).reverse) ws tys S.1 ⟨z6, z1⟩
  obtain ⟨b, rfl, hrecv⟩ := zrecv C S hv z6
  have hp := zpre (av := .ref b :: (stM.take (zMn K)).reverse) C S
  cases r1 with
  | inl rv =>
    have hMet := hsnd.1 rv rfl
    match md, hl1 with
    | 0, hl1 => exact zs_run C S hle hm z7 (va_runV (zcallfix C) hMet ⟨zcallB C hK hh0 (zp0_in hl1) hR, hin, hsel⟩ ⟨hp.1, hrecv, hp.2⟩ rfl z3 hsz z4 hW hd hroom) kn
    | 1, hl1 => exact zs_run C S hle hm z7 (va_runVN (zcallfix C) hMet ⟨zcallN C hK hh0 (zp1_in hl1) hR, hin, hsel⟩ ⟨hp.1, hrecv, hp.2⟩ rfl z3 hsz z4 hW hd hroom) kn
    | _ + 2, hl1 => exact zs_run C S hle hm z7 (va_runVN (zcallfix C) hMet ⟨zcallN C hK hh0 (zp1_in hl1) hR, hin, hsel⟩ ⟨hp.1, hrecv, hp.2⟩ rfl z3 hsz z4 hW hd hroom) kn
  | inr E =>
    obtain ⟨t, ht, kn⟩ := kn
    have ho : oc = 13 := hh13 (by rintro rfl; cases ht)
    have hmd := hmd.resolve_left (fun q => q ho)
    subst hmd
    have hMet := hsnd.2 E rfl hh0
    exact zs_runX C S hle hm (vx_runV (zcallfix C) hMet ⟨zcallB C hK hh0 (zp0_in hl1) hR, hin, hsel⟩ ⟨hp.1, hrecv, hp.2⟩ rfl z3 hsz z4 hW hd hroom) (fun H' locs' cells' slots' ce q g1 g2 g3 g4 => zcatch C ho hok ht g1 g2 g3 g4) kn
theorem zs_special {k K a : Nat} {rest : List zV} (C : zCx p l s m args meth c b0 Ev xs xl nL cc oc rt ini hh) (hS : zSnd l D b0 Ev xs xl d) (hR : d + 33 ≤ R.frames ∧ 64 * d + 1264 ≤ R.locals) (hd : decode cc pc = .ok (.invokespecial k, 3)) (hk : zMR oc k = some (2, K)) (h20 : zMo K ≠ 20) (hdr : st.drop (zMn K) = zR a :: rest) (ha : a ≠ 0) (hcall : zcall xs xl d K (zR a :: (st.take (zMn K)).reverse) M (.inl none) M1) (h4 : rest.length ≤ 4) (hm : zle M1 Mf) (kn : zAt p l e R s m args below meth c Q D b0 Ev nL c0 u0 w0 Mf (pc + 3) (ls) (rest) (M1)) : zAt p l e R s m args below meth c Q D b0 Ev nL c0 u0 w0 Mf (pc) (ls) (st) (M) := by
  intro H locs cells slots ws tys lsM stM S
  obtain ⟨md, a', b', hl⟩ := zMR_in hk
  have hle : zle M M1 := zmo_call d K _ M _ _ hcall
  have hroom := S.room (k := mc M1 - mc M) (n := mu M1 - mu M) (by have := hle.1; have := hm.1; omega) (by have := hle.2; have := hm.2; omega)
  have hn : zMn K ≤ st.length := by
    apply Nat.not_lt.mp
    intro q
    rw [List.drop_eq_nil_of_le (by omega)] at hdr
    cases hdr
  obtain ⟨z1, z2, z3, z4⟩ := zsplit S.2.2.2.2.2.2.1 hn
  rw [hdr] at z2
  obtain ⟨w, restM, z5, z6, z7⟩ := z2.cons
  rw [z5] at z4
  have hsum := zsum C.2.2.2.2.2.2.2.2.2.2.1 z7
  have hW : 2 * (F0 m pc lsM stM).monitorRoom + (restM.map fun v => v.category).sum ≤ 8 := lv_room (by omega)
  have hsz : lsM.size = nL := S.2.2.2.2.2.1.1.trans S.2.2.2.2.2.2.2.1
  simp only [zlw, Bool.and_eq_true, decide_eq_true_eq] at hl
  obtain ⟨hl1, ⟨hK, hh0, hini, hret⟩, hin⟩ := hl
  have hin := C.2.2.2.2.1 _ (zp0_in hin)
  have hMet := (hS K _ M _ M1 hK h20 hcall (w :: (stM.take (zMn K)).reverse) ws tys S.1 ⟨z6, z1⟩).1 none rfl
  rcases z6 with ⟨z6, -⟩ | ⟨i, q, -, -, rfl⟩
  · exact absurd z6 ha
  have hp := zpre (av := .ref q.1 :: (stM.take (zMn K)).reverse) C S
  match md, hl1 with
  | 0, hl1 =>
    have hB := zcallB (mc0 := mc M1 - mc M) (ms0 := mu M1 - mu M) C hK hh0 (zp0_in hl1) hR
    rw [hret] at hB
    exact zs_run C S hle hm z7 (va_runI (zcallfix C) hMet ⟨hB, hini, hin⟩ hp rfl z3 hsz z4 hW hd hroom) kn
  | 1, hl1 =>
    have hB := zcallN (mc0 := mc M1 - mc M) (ms0 := mu M1 - mu M) C hK hh0 (zp1_in hl1) hR
    rw [hret] at hB
    exact zs_run C S hle hm z7 (va_runIN (zcallfix C) hMet ⟨hB, hini, hin⟩ hp rfl z3 hsz z4 hW hd hroom) kn
  | _ + 2, hl1 =>
    have hB := zcallN (mc0 := mc M1 - mc M) (ms0 := mu M1 - mu M) C hK hh0 (zp1_in hl1) hR
    rw [hret] at hB
    exact zs_run C S hle hm z7 (va_runIN (zcallfix C) hMet ⟨hB, hini, hin⟩ hp rfl z3 hsz z4 hW hd hroom) kn
end ZMAIN2
