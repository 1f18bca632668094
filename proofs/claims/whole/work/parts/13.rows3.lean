/-! constants, statics, new objects and arrays -/
def zkP (q : Nat × Nat × zV) : Prop := (∃ n : Int32, q.2.2 = zI n.toInt ∧ Jvm.Cond.constant (zcn q.1) q.2.1 n ∈ zT0) ∨ ∃ i : Nat, q.2.2 = zE (20 + i) ∧ i < zSN ∧ (zSC.getD i (0, 0, [])).1 = q.1 ∧ (zSC.getD i (0, 0, [])).2.1 = q.2.1
theorem zkP_all : ∀ q ∈ zKL, zkP q := List.forall_mem_cons.mpr ⟨Or.inl ⟨1000000, rfl, List.mem_filter.mpr ⟨ztb_in (k := 3) (List.mem_of_getElem? (i := 222) rfl), rfl⟩⟩, List.forall_mem_cons.mpr ⟨Or.inr ⟨0, rfl, by decide, rfl, rfl⟩, List.forall_mem_cons.mpr ⟨Or.inr ⟨1, rfl, by decide, rfl, rfl⟩, List.forall_mem_cons.mpr ⟨Or.inr ⟨2, rfl, by decide, rfl, rfl⟩, List.forall_mem_cons.mpr ⟨Or.inr ⟨3, rfl, by decide, rfl, rfl⟩, List.forall_mem_cons.mpr ⟨Or.inr ⟨4, rfl, by decide, rfl, rfl⟩, List.forall_mem_cons.mpr ⟨Or.inr ⟨5, rfl, by decide, rfl, rfl⟩, List.forall_mem_cons.mpr ⟨Or.inr ⟨6, rfl, by decide, rfl, rfl⟩, List.forall_mem_cons.mpr ⟨Or.inr ⟨7, rfl, by decide, rfl, rfl⟩, List.forall_mem_cons.mpr ⟨Or.inr ⟨8, rfl, by decide, rfl, rfl⟩, List.forall_mem_cons.mpr ⟨Or.inr ⟨9, rfl, by decide, rfl, rfl⟩, List.forall_mem_cons.mpr ⟨Or.inr ⟨10, rfl, by decide, rfl, rfl⟩, List.forall_mem_cons.mpr ⟨Or.inr ⟨11, rfl, by decide, rfl, rfl⟩, List.forall_mem_cons.mpr ⟨Or.inr ⟨12, rfl, by decide, rfl, rfl⟩, List.forall_mem_cons.mpr ⟨Or.inr ⟨13, rfl, by decide, rfl, rfl⟩, List.forall_mem_cons.mpr ⟨Or.inr ⟨14, rfl, by decide, rfl, rfl⟩, List.forall_mem_cons.mpr ⟨Or.inr ⟨15, rfl, by decide, rfl, rfl⟩, List.forall_mem_cons.mpr ⟨Or.inr ⟨16, rfl, by decide, rfl, rfl⟩, List.forall_mem_cons.mpr ⟨Or.inr ⟨17, rfl, by decide, rfl, rfl⟩, List.forall_mem_cons.mpr ⟨Or.inr ⟨18, rfl, by decide, rfl, rfl⟩, List.forall_mem_cons.mpr ⟨Or.inr ⟨19, rfl, by decide, rfl, rfl⟩, List.forall_mem_cons.mpr ⟨Or.inr ⟨20, rfl, by decide, rfl, rfl⟩, List.forall_mem_cons.mpr ⟨Or.inr ⟨21, rfl, by decide, rfl, rfl⟩, List.forall_mem_cons.mpr ⟨Or.inr ⟨22, rfl, by decide, rfl, rfl⟩, List.forall_mem_cons.mpr ⟨Or.inr ⟨23, rfl, by decide, rfl, rfl⟩, List.forall_mem_cons.mpr ⟨Or.inr ⟨24, rfl, by decide, rfl, rfl⟩, List.forall_mem_cons.mpr ⟨Or.inr ⟨25, rfl, by decide, rfl, rfl⟩, List.forall_mem_cons.mpr ⟨Or.inr ⟨26, rfl, by decide, rfl, rfl⟩, List.forall_mem_cons.mpr ⟨Or.inr ⟨27, rfl, by decide, rfl, rfl⟩, List.forall_mem_cons.mpr ⟨Or.inr ⟨28, rfl, by decide, rfl, rfl⟩, List.forall_mem_cons.mpr ⟨Or.inr ⟨29, rfl, by decide, rfl, rfl⟩, fun _ h => absurd h List.not_mem_nil⟩⟩⟩⟩⟩⟩⟩⟩⟩⟩⟩⟩⟩⟩⟩⟩⟩⟩⟩⟩⟩⟩⟩⟩⟩⟩⟩⟩⟩⟩⟩
def zqP (q : Nat × Nat × Int) : Prop := ∃ n : Int64, q.2.2 = n.toInt ∧ Jvm.Cond.constantLong (zcn q.1) q.2.1 n ∈ zT0
theorem zqP_all : ∀ q ∈ zQL, zqP q := List.forall_mem_cons.mpr ⟨⟨467, rfl, List.mem_filter.mpr ⟨ztb_in (k := 2) (List.mem_of_getElem? (i := 160) rfl), rfl⟩⟩, List.forall_mem_cons.mpr ⟨⟨31, rfl, List.mem_filter.mpr ⟨ztb_in (k := 2) (List.mem_of_getElem? (i := 161) rfl), rfl⟩⟩, List.forall_mem_cons.mpr ⟨⟨32, rfl, List.mem_filter.mpr ⟨ztb_in (k := 3) (List.mem_of_getElem? (i := 132) rfl), rfl⟩⟩, List.forall_mem_cons.mpr ⟨⟨97, rfl, List.mem_filter.mpr ⟨ztb_in (k := 3) (List.mem_of_getElem? (i := 133) rfl), rfl⟩⟩, List.forall_mem_cons.mpr ⟨⟨467, rfl, List.mem_filter.mpr ⟨ztb_in (k := 8) (List.mem_of_getElem? (i := 6) rfl), rfl⟩⟩, List.forall_mem_cons.mpr ⟨⟨31, rfl, List.mem_filter.mpr ⟨ztb_in (k := 8) (List.mem_of_getElem? (i := 7) rfl), rfl⟩⟩, fun _ h => absurd h List.not_mem_nil⟩⟩⟩⟩⟩⟩
def zsP (q : Nat × Nat × zV) : Prop := ∃ C n d : String, (q.1, q.2.1, C, n, d, q.2.2) ∈ zSD ∧ (Jvm.Cond.fieldLink (zcn q.1) q.2.1 C n d ∈ zT0 ∨ Jvm.Cond.fieldLinkNest (zcn q.1) q.2.1 C n d "BendYardModel" ∈ zT1)
theorem zsP_all : ∀ q ∈ zSL, zsP q := List.forall_mem_cons.mpr ⟨⟨"java/lang/String", "COMPACT_STRINGS", "Z", List.mem_of_getElem? (i := 0) rfl, Or.inl (List.mem_filter.mpr ⟨ztb_in (k := 3) (List.mem_of_getElem? (i := 147) rfl), rfl⟩)⟩, List.forall_mem_cons.mpr ⟨⟨"jdk/internal/util/Preconditions", "SIOOBE_FORMATTER", "Ljava/util/function/BiFunction;", List.mem_of_getElem? (i := 1) rfl, Or.inl (List.mem_filter.mpr ⟨ztb_in (k := 3) (List.mem_of_getElem? (i := 163) rfl), rfl⟩)⟩, List.forall_mem_cons.mpr ⟨⟨"BendYardModel", "DEEDS", "[Ljava/lang/String;", List.mem_of_getElem? (i := 2) rfl, Or.inl (List.mem_filter.mpr ⟨ztb_in (k := 6) (List.mem_of_getElem? (i := 203) rfl), rfl⟩)⟩, List.forall_mem_cons.mpr ⟨⟨"BendYardModel", "FRAMES", "[Ljava/lang/String;", List.mem_of_getElem? (i := 3) rfl, Or.inl (List.mem_filter.mpr ⟨ztb_in (k := 6) (List.mem_of_getElem? (i := 209) rfl), rfl⟩)⟩, List.forall_mem_cons.mpr ⟨⟨"BendYardModel", "WOODS", "[Ljava/lang/String;", List.mem_of_getElem? (i := 4) rfl, Or.inl (List.mem_filter.mpr ⟨ztb_in (k := 6) (List.mem_of_getElem? (i := 211) rfl), rfl⟩)⟩, List.forall_mem_cons.mpr ⟨⟨"BendYardModel", "NUMBERS", "[I", List.mem_of_getElem? (i := 5) rfl, Or.inl (List.mem_filter.mpr ⟨ztb_in (k := 6) (List.mem_of_getElem? (i := 213) rfl), rfl⟩)⟩, List.forall_mem_cons.mpr ⟨⟨"BendYardModel", "LOW", "[I", List.mem_of_getElem? (i := 6) rfl, Or.inl (List.mem_filter.mpr ⟨ztb_in (k := 7) (List.mem_of_getElem? (i := 0) rfl), rfl⟩)⟩, List.forall_mem_cons.mpr ⟨⟨"BendYardModel", "HIGH", "[I", List.mem_of_getElem? (i := 7) rfl, Or.inl (List.mem_filter.mpr ⟨ztb_in (k := 7) (List.mem_of_getElem? (i := 2) rfl), rfl⟩)⟩, List.forall_mem_cons.mpr ⟨⟨"BendYardModel", "STIFF", "[I", List.mem_of_getElem? (i := 8) rfl, Or.inr (List.mem_filter.mpr ⟨ztb_in (k := 7) (List.mem_of_getElem? (i := 175) rfl), rfl⟩)⟩, fun _ h => absurd h List.not_mem_nil⟩⟩⟩⟩⟩⟩⟩⟩⟩
def zwP (q : Nat × Nat × Nat × Nat) : Prop := Jvm.Cond.classLink (zcn q.1) q.2.1 (zcn q.2.2.1) ∈ zT0 ∧ q.2.2.1 < 13 ∧ (q.2.2.2 = zN q.2.2.1 → Jvm.Cond.instantiable (zcn q.2.2.1) (zN q.2.2.1) ∈ zT0 ∧ Jvm.Cond.initialized (zcn q.2.2.1) ∈ zT0)
theorem zwP_all : ∀ q ∈ zWL, zwP q := List.forall_mem_cons.mpr ⟨⟨List.mem_filter.mpr ⟨ztb_in (k := 1) (List.mem_of_getElem? (i := 59) rfl), rfl⟩, by decide, fun _ => ⟨List.mem_filter.mpr ⟨ztb_in (k := 1) (List.mem_of_getElem? (i := 60) rfl), rfl⟩, List.mem_filter.mpr ⟨ztb_in (k := 1) (List.mem_of_getElem? (i := 4) rfl), rfl⟩⟩⟩, List.forall_mem_cons.mpr ⟨⟨List.mem_filter.mpr ⟨ztb_in (k := 4) (List.mem_of_getElem? (i := 25) rfl), rfl⟩, by decide, fun _ => ⟨List.mem_filter.mpr ⟨ztb_in (k := 4) (List.mem_of_getElem? (i := 26) rfl), rfl⟩, List.mem_filter.mpr ⟨ztb_in (k := 1) (List.mem_of_getElem? (i := 24) rfl), rfl⟩⟩⟩, List.forall_mem_cons.mpr ⟨⟨List.mem_filter.mpr ⟨ztb_in (k := 1) (List.mem_of_getElem? (i := 187) rfl), rfl⟩, by decide, fun _ => ⟨List.mem_filter.mpr ⟨ztb_in (k := 1) (List.mem_of_getElem? (i := 188) rfl), rfl⟩, List.mem_filter.mpr ⟨ztb_in (k := 1) (List.mem_of_getElem? (i := 9) rfl), rfl⟩⟩⟩, List.forall_mem_cons.mpr ⟨⟨List.mem_filter.mpr ⟨ztb_in (k := 1) (List.mem_of_getElem? (i := 134) rfl), rfl⟩, by decide, fun _ => ⟨List.mem_filter.mpr ⟨ztb_in (k := 1) (List.mem_of_getElem? (i := 136) rfl), rfl⟩, List.mem_filter.mpr ⟨ztb_in (k := 1) (List.mem_of_getElem? (i := 7) rfl), rfl⟩⟩⟩, List.forall_mem_cons.mpr ⟨⟨List.mem_filter.mpr ⟨ztb_in (k := 1) (List.mem_of_getElem? (i := 128) rfl), rfl⟩, by decide, fun _ => ⟨List.mem_filter.mpr ⟨ztb_in (k := 1) (List.mem_of_getElem? (i := 129) rfl), rfl⟩, List.mem_filter.mpr ⟨ztb_in (k := 1) (List.mem_of_getElem? (i := 6) rfl), rfl⟩⟩⟩, List.forall_mem_cons.mpr ⟨⟨List.mem_filter.mpr ⟨ztb_in (k := 1) (List.mem_of_getElem? (i := 178) rfl), rfl⟩, by decide, fun _ => ⟨List.mem_filter.mpr ⟨ztb_in (k := 1) (List.mem_of_getElem? (i := 182) rfl), rfl⟩, List.mem_filter.mpr ⟨ztb_in (k := 1) (List.mem_of_getElem? (i := 8) rfl), rfl⟩⟩⟩, List.forall_mem_cons.mpr ⟨⟨List.mem_filter.mpr ⟨ztb_in (k := 1) (List.mem_of_getElem? (i := 36) rfl), rfl⟩, by decide, fun _ => ⟨List.mem_filter.mpr ⟨ztb_in (k := 1) (List.mem_of_getElem? (i := 37) rfl), rfl⟩, List.mem_filter.mpr ⟨ztb_in (k := 1) (List.mem_of_getElem? (i := 2) rfl), rfl⟩⟩⟩, List.forall_mem_cons.mpr ⟨⟨List.mem_filter.mpr ⟨ztb_in (k := 1) (List.mem_of_getElem? (i := 53) rfl), rfl⟩, by decide, fun _ => ⟨List.mem_filter.mpr ⟨ztb_in (k := 1) (List.mem_of_getElem? (i := 54) rfl), rfl⟩, List.mem_filter.mpr ⟨ztb_in (k := 1) (List.mem_of_getElem? (i := 3) rfl), rfl⟩⟩⟩, List.forall_mem_cons.mpr ⟨⟨List.mem_filter.mpr ⟨ztb_in (k := 1) (List.mem_of_getElem? (i := 120) rfl), rfl⟩, by decide, fun _ => ⟨List.mem_filter.mpr ⟨ztb_in (k := 2) (List.mem_of_getElem? (i := 80) rfl), rfl⟩, List.mem_filter.mpr ⟨ztb_in (k := 1) (List.mem_of_getElem? (i := 10) rfl), rfl⟩⟩⟩, List.forall_mem_cons.mpr ⟨⟨List.mem_filter.mpr ⟨ztb_in (k := 1) (List.mem_of_getElem? (i := 122) rfl), rfl⟩, by decide, fun _ => ⟨List.mem_filter.mpr ⟨ztb_in (k := 1) (List.mem_of_getElem? (i := 123) rfl), rfl⟩, List.mem_filter.mpr ⟨ztb_in (k := 1) (List.mem_of_getElem? (i := 5) rfl), rfl⟩⟩⟩, List.forall_mem_cons.mpr ⟨⟨List.mem_filter.mpr ⟨ztb_in (k := 5) (List.mem_of_getElem? (i := 181) rfl), rfl⟩, by decide, fun _ => ⟨List.mem_filter.mpr ⟨ztb_in (k := 5) (List.mem_of_getElem? (i := 182) rfl), rfl⟩, List.mem_filter.mpr ⟨ztb_in (k := 1) (List.mem_of_getElem? (i := 12) rfl), rfl⟩⟩⟩, List.forall_mem_cons.mpr ⟨⟨List.mem_filter.mpr ⟨ztb_in (k := 1) (List.mem_of_getElem? (i := 28) rfl), rfl⟩, by decide, fun _ => ⟨List.mem_filter.mpr ⟨ztb_in (k := 1) (List.mem_of_getElem? (i := 29) rfl), rfl⟩, List.mem_filter.mpr ⟨ztb_in (k := 1) (List.mem_of_getElem? (i := 1) rfl), rfl⟩⟩⟩, List.forall_mem_cons.mpr ⟨⟨List.mem_filter.mpr ⟨ztb_in (k := 5) (List.mem_of_getElem? (i := 175) rfl), rfl⟩, by decide, fun _ => ⟨List.mem_filter.mpr ⟨ztb_in (k := 5) (List.mem_of_getElem? (i := 176) rfl), rfl⟩, List.mem_filter.mpr ⟨ztb_in (k := 1) (List.mem_of_getElem? (i := 11) rfl), rfl⟩⟩⟩, List.forall_mem_cons.mpr ⟨⟨List.mem_filter.mpr ⟨ztb_in (k := 2) (List.mem_of_getElem? (i := 85) rfl), rfl⟩, by decide, fun h => absurd h (by decide)⟩, fun _ h => absurd h List.not_mem_nil⟩⟩⟩⟩⟩⟩⟩⟩⟩⟩⟩⟩⟩⟩
theorem zw_arr_int : Jvm.Cond.arrayClass .int ∈ zT0 := List.mem_filter.mpr ⟨ztb_in (k := 1) (List.mem_of_getElem? (i := 84) rfl), rfl⟩
theorem zw_arr_byte : Jvm.Cond.arrayClass .byte ∈ zT0 := List.mem_filter.mpr ⟨ztb_in (k := 1) (List.mem_of_getElem? (i := 52) rfl), rfl⟩
theorem zw_arr_boolean : Jvm.Cond.arrayClass .boolean ∈ zT0 := List.mem_filter.mpr ⟨ztb_in (k := 6) (List.mem_of_getElem? (i := 83) rfl), rfl⟩
theorem zw_arr_long : Jvm.Cond.arrayClass .long ∈ zT0 := List.mem_filter.mpr ⟨ztb_in (k := 8) (List.mem_of_getElem? (i := 8) rfl), rfl⟩
theorem zw_mk : Jvm.Cond.classLink (zcn 9) zmk ("[" ++ (FieldType.array .int).toString) ∈ zT0 := List.mem_filter.mpr ⟨ztb_in (k := 1) (List.mem_of_getElem? (i := 180) rfl), rfl⟩
section ZROW3
variable {p : Program} {l : Launch} {e : Env} {R : Room} {s : State} {m : MethodId} {args : Array Value} {below : List Frame} {meth : Method} {c : Code} {Q : State → Prop} {D : va_G} {b0 : Nat} {Ev : Nat → Value} {xs : Nat → Int} {xl nL c0 u0 : Nat} {w0 : va_W} {Mf : zM} {cc : ByteArray} {oc : Nat} {rt : Option FieldType} {ini : Bool} {hh : List (Nat × Nat × Nat × Nat × Nat)} {pc : Nat} {ls st : List zV} {M : zM}
theorem zs_ldc {k : Nat} {v : zV} (C : zCx p l s m args meth c b0 Ev xs xl nL cc oc rt ini hh) (hd : decode cc pc = .ok (.ldc k, 2)) (hv : zCK oc k = some v) (kn : zAt p l e R s m args below meth c Q D b0 Ev nL c0 u0 w0 Mf (pc + 2) (ls) (v :: st) (M)) : zAt p l e R s m args below meth c Q D b0 Ev nL c0 u0 w0 Mf (pc) (ls) (st) (M) := by
  intro H locs cells slots ws tys lsM stM S
  rcases zkP_all _ (zlk_mem hv) with ⟨n, h1, h2⟩ | ⟨i, h1, h2, h3, h4⟩
  · have h1 : v = zI n.toInt := h1
    subst h1
    exact lv_ldc C.1 C.2.1 C.2.2.2.1 (C.2.2.2.2.1 _ h2) hd (kn _ _ _ _ _ _ _ _ (S.stk ⟨⟨_, rfl, rfl⟩, S.2.2.2.2.2.2.1⟩))
  · have h1 : v = zE (20 + i) := h1
    subst h1
    obtain ⟨q, e1, -, -, -, tx, e2⟩ := C.2.2.2.2.2.1.2.2.2.2.1 i h2
    rw [h3, h4] at e2
    refine va_ldcS C.1 C.2.1 C.2.2.2.1 e2 hd (kn _ _ _ _ _ _ _ _ (S.stk ⟨?_, S.2.2.2.2.2.2.1⟩))
    show if 20 + i = 999 then _ else _ = Ev (20 + i)
    rw [if_neg (by have : zSN = 30 := rfl; omega), e1]
theorem zs_ldc2 {k : Nat} {v : Int} (C : zCx p l s m args meth c b0 Ev xs xl nL cc oc rt ini hh) (hd : decode cc pc = .ok (.ldc2_w k, 3)) (hv : zCL oc k = some v) (kn : zAt p l e R s m args below meth c Q D b0 Ev nL c0 u0 w0 Mf (pc + 3) (ls) (zL v :: st) (M)) : zAt p l e R s m args below meth c Q D b0 Ev nL c0 u0 w0 Mf (pc) (ls) (st) (M) := by
  intro H locs cells slots ws tys lsM stM S
  obtain ⟨n, h1, h2⟩ := zqP_all _ (zlk_mem hv)
  have h1 : v = n.toInt := h1
  subst h1
  exact lv_ldc2 C.1 C.2.1 C.2.2.2.1 (C.2.2.2.2.1 _ h2) hd (kn _ _ _ _ _ _ _ _ (S.stk ⟨⟨_, rfl, rfl⟩, S.2.2.2.2.2.2.1⟩))
theorem zs_gets {k : Nat} {v : zV} (C : zCx p l s m args meth c b0 Ev xs xl nL cc oc rt ini hh) (hd : decode cc pc = .ok (.getstatic k, 3)) (hv : zSR oc k = some v) (kn : zAt p l e R s m args below meth c Q D b0 Ev nL c0 u0 w0 Mf (pc + 3) (ls) (v :: st) (M)) : zAt p l e R s m args below meth c Q D b0 Ev nL c0 u0 w0 Mf (pc) (ls) (st) (M) := by
  intro H locs cells slots ws tys lsM stM S
  obtain ⟨Cn, n, d, h1, h2⟩ := zsP_all _ (zlk_mem hv)
  obtain ⟨w, e1, e2⟩ := C.2.2.2.2.2.1.2.2.2.1 _ h1
  rcases h2 with h2 | h2
  · exact va_gets C.1 C.2.1 e2 S.2.2.2.2.1 C.2.2.2.1 (C.2.2.2.2.1 _ h2) (fun _ h => h) hd (kn _ _ _ _ _ _ _ _ (S.stk ⟨zvr.mv (fun i q h => by simp at h) e1, S.2.2.2.2.2.2.1⟩))
  · exact va_getsN C.1 C.2.1 e2 S.2.2.2.2.1 C.2.2.2.1 (va_Nw.use rfl (C.2.2.2.2.2.1.2.2.2.2.2.1 _ h2)) (fun _ h => h) hd (kn _ _ _ _ _ _ _ _ (S.stk ⟨zvr.mv (fun i q h => by simp at h) e1, S.2.2.2.2.2.2.1⟩))
/-- cells more -/
theorem zSt.grow {M' : zM} {ls st st' : List zV} {H H' : Heap} {locs : List Loc} {cells slots k n : Nat} {ws ws' : va_W} {tys tys' : List (ClassId × FieldType)} {lsM : Array Slot} {stM stM' : List Value} (h : zSt s R D b0 Ev nL c0 u0 w0 Mf ls st M H locs cells slots ws tys lsM stM) (h2 : va_P D vwCl ws' H') (h1 : zH M' ws' tys') (h3 : va_K D vwCl tys' s) (h4 : va_D (fun q => b0 ≤ q) ws') (h5 : va_S (fun q => b0 ≤ q) s.heap H' locs) (hx : zx ws ws') (hc : mc M' = mc M + k) (hu : mu M' = mu M + n) (hm1 : mc M + k ≤ mc Mf) (hm2 : mu M + n ≤ mu Mf) (h7 : zsr Ev ws' st' stM') : zSt s R D b0 Ev nL c0 u0 w0 Mf ls st' M' H' locs (cells + k) (slots + n) ws' tys' lsM stM' := by
  obtain ⟨-, -, -, -, -, g6, -, g8, g9⟩ := h
  exact ⟨h1, h2, h3, h4, h5, g6.mv hx, h7, g8, by omega, g9.2.tr hx⟩
theorem zSt.room {ls st : List zV} {H : Heap} {locs : List Loc} {cells slots k n : Nat} {ws : va_W} {tys : List (ClassId × FieldType)} {lsM : Array Slot} {stM : List Value} (h : zSt s R D b0 Ev nL c0 u0 w0 Mf ls st M H locs cells slots ws tys lsM stM) (hm1 : mc M + k ≤ mc Mf) (hm2 : mu M + n ≤ mu Mf) : cells + k ≤ R.cells ∧ slots + n ≤ R.slots := by
  obtain ⟨-, -, -, -, -, -, -, -, g9⟩ := h
  omega
theorem zrr.last {ws : va_W} {ad : Nat} {x : va_E} {M : zM} {tys : List (ClassId × FieldType)} (h : zH M ws tys) : zrr (ws ++ [(ad, x)]) (mz M) (.ref ad) := by
  refine Or.inr ⟨ws.length, (ad, x), by rw [h.1], ?_, rfl⟩
  rw [List.getElem?_append_right (Nat.le_refl _), Nat.sub_self]
  rfl
theorem zdef {ci : Nat} (h : ci < 13) : ∀ k, k < zN ci → (zisq (zty ci k) = true ∧ defaultValue (zty ci k) = .null) ∨ (zisq (zty ci k) = false ∧ defaultValue (zty ci k) = .int 0) := by
  intro k _
  have h0 : ∀ k, k < 64 → zisq (zty ci k) = true ∨ (zty ci k = .int ∨ zty ci k = .boolean) := by
    match ci, h with
    | 0, _ => decide +kernel
    | 1, _ => decide +kernel
    | 2, _ => decide +kernel
    | 3, _ => decide +kernel
    | 4, _ => decide +kernel
    | 5, _ => decide +kernel
    | 6, _ => decide +kernel
    | 7, _ => decide +kernel
    | 8, _ => decide +kernel
    | 9, _ => decide +kernel
    | 10, _ => decide +kernel
    | 11, _ => decide +kernel
    | 12, _ => decide +kernel
  have hN : zN ci ≤ 64 := by
    have : ∀ c, c < 13 → zN c ≤ 64 := by decide +kernel
    exact this ci h
  rcases h0 k (by omega) with g | g | g
  · refine Or.inl ⟨g, ?_⟩
    cases hz : zty ci k <;> rw [hz] at g <;> first | rfl | (exact absurd g (by decide))
  · exact Or.inr (by rw [g]; exact ⟨rfl, rfl⟩)
  · exact Or.inr (by rw [g]; exact ⟨rfl, rfl⟩)
theorem zs_new {k ci : Nat} (C : zCx p l s m args meth c b0 Ev xs xl nL cc oc rt ini hh) (hd : decode cc pc = .ok (.new k, 3)) (hn : zNR oc k = some (ci, zN ci)) (hm1 : mc M + 1 ≤ mc Mf) (hm2 : mu M + zN ci ≤ mu Mf) (kn : zAt p l e R s m args below meth c Q D b0 Ev nL c0 u0 w0 Mf (pc + 3) (ls) (zR (mz M) :: st) (nwO M ci (zN ci))) : zAt p l e R s m args below meth c Q D b0 Ev nL c0 u0 w0 Mf (pc) (ls) (st) (M) := by
  intro H locs cells slots ws tys lsM stM S
  obtain ⟨h1, h2, h3⟩ := zwP_all _ (zlk_mem hn)
  obtain ⟨h3, h4⟩ := h3 rfl
  have h2 : ci < 13 := h2
  have hroom := S.room hm1 hm2
  have hfs : ∀ j, j < zN ci → ((List.range (zN ci)).map (fun k => defaultValue (zty ci k)))[j]? = some (defaultValue (zty ci j)) := fun j hj => by rw [List.getElem?_map, List.getElem?_range hj]; rfl
  refine va_new (D := D) (ci := ci) (fs := (List.range (zN ci)).map (fun k => defaultValue (zty ci k))) C.1 C.2.1 C.2.2.2.2.1 (zu_in h2) (zty ci) (zty_ok h2) C.2.2.2.1 (C.2.2.2.2.1 _ h1) (C.2.2.2.2.1 _ h3) (C.2.2.2.2.1 _ h4) S.2.2.1 S.2.1 S.2.2.2.1 S.2.2.2.2.1 (fun q hq => Nat.le_trans C.2.2.2.2.2.2.1 hq) (zcl_at h2) (fun j hj => ?_) hroom.1 hroom.2 hd (fun q H1 g1 g2 g3 => ?_)
  · unfold vp_V
    rw [List.getD_eq_getElem?_getD, hfs j hj]; rfl
  · exact kn _ _ _ _ _ _ _ _ (S.grow g1 (zH_nwO S.1 h2 (by simp) (fun k hk => ⟨_, hfs k hk, rfl⟩) (zdef h2)) S.2.2.1 g2 g3 zx.app rfl rfl hm1 hm2 ⟨zrr.last S.1, S.2.2.2.2.2.2.1.mv zx.app⟩)
theorem zs_newarray {ty : ClassFile.ArrayType} {n : Int} (C : zCx p l s m args meth c b0 Ev xs xl nL cc oc rt ini hh) (hd : decode cc pc = .ok (.newarray ty, 2)) (h0 : 0 ≤ n) (h1 : n ≤ 60000000) (hk : zak ty ≠ 0) (hm1 : mc M + 1 ≤ mc Mf) (hm2 : mu M + n.toNat ≤ mu Mf) (kn : zAt p l e R s m args below meth c Q D b0 Ev nL c0 u0 w0 Mf (pc + 2) (ls) (zR (mz M) :: st) (nwA M (zak ty) n.toNat)) : zAt p l e R s m args below meth c Q D b0 Ev nL c0 u0 w0 Mf (pc) (ls) (zI n :: st) (M) := by
  intro H locs cells slots ws tys lsM stM S
  obtain ⟨w, r, rfl, ⟨x, rfl, rfl⟩, h9⟩ := S.2.2.2.2.2.2.1.cons
  have hroom := S.room hm1 hm2
  have hx : ¬ x < 0 := fun q => by
    have := Int32.lt_iff_toInt_lt.mp q
    have z : (0 : Int32).toInt = 0 := rfl
    omega
  have hA : ∀ q, s.heap.size ≤ q → b0 ≤ q := fun q hq => Nat.le_trans C.2.2.2.2.2.2.1 hq
  cases ty with
  | int => exact va_newa (atype := .int) (a0 := (x.toInt.toNat, .inl (fun _ => 0))) C.1 C.2.1 (C.2.2.2.2.1 _ zw_arr_int) rfl S.2.2.1 S.2.1 S.2.2.2.1 S.2.2.2.2.1 hA (fun _ => rfl) hx rfl (by show x.toInt.toNat * 4 ≤ _; omega) hroom.1 hroom.2 hd (fun q cA H1 k1 g1 g2 g3 => kn _ _ _ _ _ _ _ _ (S.grow g1 (zH_nwA S.1 (Or.inl ⟨rfl, rfl, rfl⟩)) k1 g2 g3 zx.app rfl rfl hm1 hm2 ⟨zrr.last S.1, h9.mv zx.app⟩))
  | boolean => exact va_newa (atype := .boolean) (a0 := (x.toInt.toNat, .inl (fun _ => 0))) C.1 C.2.1 (C.2.2.2.2.1 _ zw_arr_boolean) rfl S.2.2.1 S.2.1 S.2.2.2.1 S.2.2.2.2.1 hA (fun _ => rfl) hx rfl (by show x.toInt.toNat * 1 ≤ _; omega) hroom.1 hroom.2 hd (fun q cA H1 k1 g1 g2 g3 => kn _ _ _ _ _ _ _ _ (S.grow g1 (zH_nwA S.1 (Or.inr (Or.inl ⟨rfl, rfl, rfl⟩))) k1 g2 g3 zx.app rfl rfl hm1 hm2 ⟨zrr.last S.1, h9.mv zx.app⟩))
  | byte => exact va_newa (atype := .byte) (a0 := (x.toInt.toNat, .inl (fun _ => 0))) C.1 C.2.1 (C.2.2.2.2.1 _ zw_arr_byte) rfl S.2.2.1 S.2.1 S.2.2.2.1 S.2.2.2.2.1 hA (fun _ => rfl) hx rfl (by show x.toInt.toNat * 1 ≤ _; omega) hroom.1 hroom.2 hd (fun q cA H1 k1 g1 g2 g3 => kn _ _ _ _ _ _ _ _ (S.grow g1 (zH_nwA S.1 (Or.inr (Or.inr (Or.inl ⟨rfl, rfl, rfl⟩)))) k1 g2 g3 zx.app rfl rfl hm1 hm2 ⟨zrr.last S.1, h9.mv zx.app⟩))
  | long => exact va_newa (atype := .long) (a0 := (x.toInt.toNat, .inr (.inl (fun _ => 0)))) C.1 C.2.1 (C.2.2.2.2.1 _ zw_arr_long) rfl S.2.2.1 S.2.1 S.2.2.2.1 S.2.2.2.2.1 hA (fun _ => rfl) hx rfl (by show x.toInt.toNat * 8 ≤ _; omega) hroom.1 hroom.2 hd (fun q cA H1 k1 g1 g2 g3 => kn _ _ _ _ _ _ _ _ (S.grow g1 (zH_nwA S.1 (Or.inr (Or.inr (Or.inr (Or.inl ⟨rfl, rfl, rfl⟩))))) k1 g2 g3 zx.app rfl rfl hm1 hm2 ⟨zrr.last S.1, h9.mv zx.app⟩))
  | _ => exact absurd rfl hk
theorem zs_anew {k ci nf : Nat} {n : Int} (C : zCx p l s m args meth c b0 Ev xs xl nL cc oc rt ini hh) (hd : decode cc pc = .ok (.anewarray k, 3)) (hn : zNR oc k = some (ci, nf)) (hok : zaok ci = true) (h0 : 0 ≤ n) (h1 : n ≤ 60000000) (hm1 : mc M + 1 ≤ mc Mf) (hm2 : mu M + n.toNat ≤ mu Mf) (kn : zAt p l e R s m args below meth c Q D b0 Ev nL c0 u0 w0 Mf (pc + 3) (ls) (zR (mz M) :: st) (nwA M (30 + ci) n.toNat)) : zAt p l e R s m args below meth c Q D b0 Ev nL c0 u0 w0 Mf (pc) (ls) (zI n :: st) (M) := by
  intro H locs cells slots ws tys lsM stM S
  obtain ⟨w, r, rfl, ⟨x, rfl, rfl⟩, h9⟩ := S.2.2.2.2.2.2.1.cons
  obtain ⟨c1, c2, -⟩ := zwP_all _ (zlk_mem hn)
  have hroom := S.room hm1 hm2
  have hx : ¬ x < 0 := fun q => by
    have := Int32.lt_iff_toInt_lt.mp q
    have z : (0 : Int32).toInt = 0 := rfl
    omega
  have hA : ∀ q, s.heap.size ≤ q → b0 ≤ q := fun q hq => Nat.le_trans C.2.2.2.2.2.2.1 hq
  exact va_newq (N' := x.toInt.toNat) C.1 C.2.1 C.2.2.2.1 (C.2.2.2.2.1 _ c1) (C.2.2.2.2.2.1.2.2.2.2.2.2.1.1 ci hok) S.2.2.1 S.2.1 S.2.2.2.1 S.2.2.2.2.1 hA hx rfl (by omega) hroom.1 hroom.2 hd (fun q cA H1 k1 g1 g2 g3 => kn _ _ _ _ _ _ _ _ (S.grow g1 (zH_nwA S.1 (Or.inr (Or.inr (Or.inr (Or.inr ⟨ci, c2, rfl, rfl, rfl⟩))))) k1 g2 g3 zx.app rfl rfl hm1 hm2 ⟨zrr.last S.1, h9.mv zx.app⟩))
theorem zs_mna {n j : Int} (C : zCx p l s m args meth c b0 Ev xs xl nL cc oc rt ini hh) (hd : decode cc pc = .ok (.multianewarray zmk 2, 4)) (ho : oc = 9) (h0 : 0 ≤ n) (h1 : n ≤ 60000) (h2 : 0 ≤ j) (h3 : j ≤ 60000) (hm1 : mc M + (1 + n.toNat) ≤ mc Mf) (hm2 : mu M + (n.toNat + n.toNat * j.toNat) ≤ mu Mf) (kn : zAt p l e R s m args below meth c Q D b0 Ev nL c0 u0 w0 Mf (pc + 4) (ls) (zR (mz M) :: st) (nwB M n.toNat j.toNat)) : zAt p l e R s m args below meth c Q D b0 Ev nL c0 u0 w0 Mf (pc) (ls) (zI j :: zI n :: st) (M) := by
  subst ho
  intro H locs cells slots ws tys lsM stM S
  obtain ⟨w, r, rfl, ⟨y, rfl, rfl⟩, h8⟩ := S.2.2.2.2.2.2.1.cons
  obtain ⟨w, r, rfl, ⟨x, rfl, rfl⟩, h9⟩ := h8.cons
  have hroom := S.room hm1 hm2
  have hlt : ∀ z : Int32, 0 ≤ z.toInt → ¬ z < 0 := fun z hz q => by
    have := Int32.lt_iff_toInt_lt.mp q
    have z : (0 : Int32).toInt = 0 := rfl
    omega
  have hA : ∀ q, s.heap.size ≤ q → b0 ≤ q := fun q hq => Nat.le_trans C.2.2.2.2.2.2.1 hq
  obtain ⟨cy, f1, f2, f3⟩ := C.2.2.2.2.2.1.2.2.2.2.2.2.1.2.2
  have hnil : ∀ f : Nat → va_E, ws ++ va_pl [] f = ws := fun f => by simp [va_pl]
  have f0 : Nat → va_E := fun _ => .inr (0, [])
  have hP : va_P D vwCl (ws ++ va_pl [] f0) H := by rw [hnil]; exact S.2.1
  have hD : va_D (fun q => b0 ≤ q) (ws ++ va_pl [] f0) := by rw [hnil]; exact S.2.2.2.1
  refine va_mna (cl := vwCl) (z := (y.toInt.toNat, .inl (fun _ => 0))) C.1 C.2.1 C.2.2.2.1 (C.2.2.2.2.1 _ zw_mk) (C.2.2.2.2.2.1.2.2.2.2.2.2.1.2.1) (C.2.2.2.2.1 _ zw_arr_int) f1 S.2.2.1 hP hD S.2.2.2.2.1 hA (hlt x h0) (hlt y h2) rfl rfl ?_ ?_ ?_ rfl rfl hroom.1 hroom.2 (fun _ => ?_) hd (fun q r' cA H1 _ _ g1 g2 g3 g4 => ?_)
  · show x.toInt.toNat * 4 ≤ _; omega
  · show y.toInt.toNat * 4 ≤ _; omega
  · show y.toInt.toNat ≤ _; omega
  · show Jvm.Free.Multi.innerC _ _ (.int 0) = _
    rw [vp_cell_i, ← arrV_new]
    rfl
  · have e1 : ((ws ++ [(q, .inl (cA, x.toInt.toNat, .inr (.inr (.inr (.inr (fun i => if i < x.toInt.toNat then some (r' i) else none))))))]) ++ va_pl ([] ++ (List.range x.toInt.toNat).map r') (vr_up f0 ((List.range x.toInt.toNat).map r') (.inl (cy, (y.toInt.toNat, .inl (fun _ => 0)))))) = ws ++ ((q, .inl (cA, x.toInt.toNat, .inr (.inr (.inr (.inr (fun i => if i < x.toInt.toNat then some (r' i) else none)))))) :: ((List.range x.toInt.toNat).map r').map (fun a => (a, .inl (cy, y.toInt.toNat, .inl (fun _ => 0))))) := by
      rw [List.append_assoc]
      congr 1
      rw [List.singleton_append, List.nil_append]
      congr 1
      unfold va_pl
      apply List.map_congr_left
      intro a ha
      rw [vr_up_in ha]
    have g2 : va_P D vwCl _ H1 := g2
    have g3 : va_D (fun q => b0 ≤ q) _ := g3
    rw [show x.toNatClampNeg = x.toInt.toNat from rfl] at g2 g3
    rw [e1] at g2 g3
    have g1' : va_K D vwCl (tys ++ [(cA, .array .int), (cy, .int)]) s := by
      have := g1.app (t2 := [(cy, .int)]) ⟨g1.1, fun k q hk => by
        cases k with
        | zero => cases hk; exact ⟨f2, f3⟩
        | succ k => cases hk⟩
      rwa [List.append_assoc] at this
    have fin := kn H1 locs (cells + (1 + x.toInt.toNat)) (slots + (x.toInt.toNat + x.toInt.toNat * y.toInt.toNat)) _ _ lsM (.ref q :: r) (S.grow g2 (zH_nwB S.1) g1' g3 g4 zx.app (by show mc M + 1 + _ = _; omega) (by show mu M + _ + _ = _; omega) hm1 hm2 ⟨?_, h9.mv zx.app⟩)
    · rw [show cells + 1 + x.toNatClampNeg = cells + (1 + x.toInt.toNat) by rw [show x.toNatClampNeg = x.toInt.toNat from rfl]; omega, show slots + x.toNatClampNeg + x.toNatClampNeg * y.toNatClampNeg = slots + (x.toInt.toNat + x.toInt.toNat * y.toInt.toNat) by rw [show x.toNatClampNeg = x.toInt.toNat from rfl, show y.toNatClampNeg = y.toInt.toNat from rfl]; omega]
      exact fin
    · refine Or.inr ⟨ws.length, (q, .inl (cA, x.toInt.toNat, .inr (.inr (.inr (.inr (fun i => if i < x.toInt.toNat then some (r' i) else none)))))), S.1.1, ?_, rfl⟩
      rw [List.getElem?_append_right (Nat.le_refl _), Nat.sub_self]
      rfl
/-- what is left on the stack is little -/
theorem zsum (hE : ∀ k, (∃ a, Ev k = .ref a) ∨ Ev k = .null) {ws : va_W} : ∀ {l : List zV} {r : List Value}, zsr Ev ws l r → (r.map fun v => v.category).sum ≤ 2 * l.length
  | [], [], _ => by simp
  | v :: l, w :: r, h => by
    have := zsum hE h.2
    have hc : w.category ≤ 2 := by cases w <;> simp [Value.category]
    simp only [List.map_cons, List.sum_cons, List.length_cons]
    omega
  | [], _ :: _, h => h.elim
  | _ :: _, [], h => h.elim
theorem zs_oinit {k K a : Nat} (C : zCx p l s m args meth c b0 Ev xs xl nL cc oc rt ini hh) (hd : decode cc pc = .ok (.invokespecial k, 3)) (hk : zMR oc k = some (3, K)) (ha : a ≠ 0) (hs : st.length ≤ 4) (hR : 1 ≤ R.frames ∧ 40 ≤ R.locals) (kn : zAt p l e R s m args below meth c Q D b0 Ev nL c0 u0 w0 Mf (pc + 3) (ls) (st) (M)) : zAt p l e R s m args below meth c Q D b0 Ev nL c0 u0 w0 Mf (pc) (ls) (zR a :: st) (M) := by
  intro H locs cells slots ws tys lsM stM S
  obtain ⟨w, r, rfl, h2, h9⟩ := S.2.2.2.2.2.2.1.cons
  rcases h2 with ⟨h2, -⟩ | ⟨i, q, -, -, rfl⟩
  · exact absurd h2 ha
  obtain ⟨md, a', b', hl⟩ := zMR_in hk
  have hl2 : Jvm.Cond.methodLink (zcn oc) k Lib.objectInit ∈ zT0 := by
    simp only [zlw] at hl
    match md, hl with
    | 0, hl => exact zp0_in (Bool.and_eq_true_iff.mp hl).1
    | _ + 1, hl => exact absurd (Bool.and_eq_true_iff.mp hl).2 (by simp)
  have hsum := zsum C.2.2.2.2.2.2.2.2.2.2.1 h9
  have hsz : lsM.size = c.maxLocals := by rw [S.2.2.2.2.2.1.1, S.2.2.2.2.2.2.2.1, C.2.2.2.2.2.2.2.2.2.1]
  refine W.objInit (R := R) C.1 C.2.1 C.2.2.2.1 (C.2.2.2.2.1 _ hl2) (C.2.2.2.2.1 _ zw_oi) (C.2.2.2.2.1 _ zw_oc) rfl hsz rfl hd hR.1 (by show 2 * 0 + _ + 12 ≤ _; omega) (kn _ _ _ _ _ _ _ _ (S.stk h9))
theorem zmathw {k K : Nat} {kd : Nat} {nm : MethodName} (hk : zMR oc k = some (kd, K)) (h5 : kd = 5 ∧ nm = Lib.Math.max.name ∨ kd = 6 ∧ nm = Lib.Math.min.name ∨ kd = 7 ∧ nm = Lib.Math.abs.name) : Jvm.Cond.methodLink (zcn oc) k nm ∈ zT0 := by
  obtain ⟨md, a', b', hl⟩ := zMR_in hk
  simp only [zlw] at hl
  rcases h5 with ⟨rfl, rfl⟩ | ⟨rfl, rfl⟩ | ⟨rfl, rfl⟩
  all_goals
    match md, hl with
    | 0, hl =>
      have h2 := of_decide_eq_true (Bool.and_eq_true_iff.mp hl).2
      have h1 := zp0_in (Bool.and_eq_true_iff.mp hl).1
      simp only [if_neg (by decide : ¬ (5 : Nat) = 3), if_neg (by decide : ¬ (5 : Nat) = 4), if_neg (by decide : ¬ (6 : Nat) = 3), if_neg (by decide : ¬ (6 : Nat) = 4), if_neg (by decide : ¬ (7 : Nat) = 3), if_neg (by decide : ¬ (7 : Nat) = 4)] at h1
      rw [h2.2] at h1
      exact h1
    | n + 1, hl => exact absurd (of_decide_eq_true (Bool.and_eq_true_iff.mp hl).2).1 (by omega)
theorem zs_max {k K : Nat} {a b : Int} (C : zCx p l s m args meth c b0 Ev xs xl nL cc oc rt ini hh) (hd : decode cc pc = .ok (.invokestatic k, 3)) (hk : zMR oc k = some (5, K)) (hs : st.length ≤ 4) (hR : 1 ≤ R.frames ∧ 40 ≤ R.locals) (kn : zAt p l e R s m args below meth c Q D b0 Ev nL c0 u0 w0 Mf (pc + 3) (ls) (zI (if a < b then b else a) :: st) (M)) : zAt p l e R s m args below meth c Q D b0 Ev nL c0 u0 w0 Mf (pc) (ls) (zI b :: zI a :: st) (M) := by
  intro H locs cells slots ws tys lsM stM S
  obtain ⟨w, r, rfl, ⟨y, rfl, rfl⟩, h3⟩ := S.2.2.2.2.2.2.1.cons
  obtain ⟨w', r, rfl, ⟨x, rfl, rfl⟩, h5⟩ := h3.cons
  have hsum := zsum C.2.2.2.2.2.2.2.2.2.2.1 h5
  have hsz : c.maxLocals = lsM.size := by rw [S.2.2.2.2.2.1.1, S.2.2.2.2.2.2.2.1, C.2.2.2.2.2.2.2.2.2.1]
  have hroom := S.room (k := 0) (n := 0) (by have := S.2.2.2.2.2.2.2.2; omega) (by have := S.2.2.2.2.2.2.2.2; omega)
  refine va_mmax C.1 C.2.1 hsz C.2.2.2.1 (C.2.2.2.2.1 _ (zmathw hk (Or.inl ⟨rfl, rfl⟩))) (C.2.2.2.2.1 _ zw_m5s) (C.2.2.2.2.1 _ zw_mi) (C.2.2.2.2.1 _ zw_m5c) hR.1 (by omega) hroom.1 hroom.2 hd (kn _ _ _ _ _ _ _ _ (S.stk ⟨⟨_, rfl, ?_⟩, h5⟩))
  by_cases h : x < y
  · rw [if_pos h, if_pos (Int32.lt_iff_toInt_lt.mp h)]
  · rw [if_neg h, if_neg (fun q => h (Int32.lt_iff_toInt_lt.mpr q))]
theorem zs_min {k K : Nat} {a b : Int} (C : zCx p l s m args meth c b0 Ev xs xl nL cc oc rt ini hh) (hd : decode cc pc = .ok (.invokestatic k, 3)) (hk : zMR oc k = some (6, K)) (hs : st.length ≤ 4) (hR : 1 ≤ R.frames ∧ 40 ≤ R.locals) (kn : zAt p l e R s m args below meth c Q D b0 Ev nL c0 u0 w0 Mf (pc + 3) (ls) (zI (if b < a then b else a) :: st) (M)) : zAt p l e R s m args below meth c Q D b0 Ev nL c0 u0 w0 Mf (pc) (ls) (zI b :: zI a :: st) (M) := by
  intro H locs cells slots ws tys lsM stM S
  obtain ⟨w, r, rfl, ⟨y, rfl, rfl⟩, h3⟩ := S.2.2.2.2.2.2.1.cons
  obtain ⟨w', r, rfl, ⟨x, rfl, rfl⟩, h5⟩ := h3.cons
  have hsum := zsum C.2.2.2.2.2.2.2.2.2.2.1 h5
  have hsz : c.maxLocals = lsM.size := by rw [S.2.2.2.2.2.1.1, S.2.2.2.2.2.2.2.1, C.2.2.2.2.2.2.2.2.2.1]
  have hroom := S.room (k := 0) (n := 0) (by have := S.2.2.2.2.2.2.2.2; omega) (by have := S.2.2.2.2.2.2.2.2; omega)
  refine va_mmin C.1 C.2.1 hsz C.2.2.2.1 (C.2.2.2.2.1 _ (zmathw hk (Or.inr (Or.inl ⟨rfl, rfl⟩)))) (C.2.2.2.2.1 _ zw_m6s) (C.2.2.2.2.1 _ zw_mi) (C.2.2.2.2.1 _ zw_m6c) hR.1 (by omega) hroom.1 hroom.2 hd (kn _ _ _ _ _ _ _ _ (S.stk ⟨⟨_, rfl, ?_⟩, h5⟩))
  by_cases h : y < x
  · rw [if_pos h, if_pos (Int32.lt_iff_toInt_lt.mp h)]
  · rw [if_neg h, if_neg (fun q => h (Int32.lt_iff_toInt_lt.mpr q))]
theorem zs_abs {k K : Nat} {a : Int} (C : zCx p l s m args meth c b0 Ev xs xl nL cc oc rt ini hh) (hd : decode cc pc = .ok (.invokestatic k, 3)) (hk : zMR oc k = some (7, K)) (hs : st.length ≤ 6) (hR : 1 ≤ R.frames ∧ 40 ≤ R.locals) (kn : zAt p l e R s m args below meth c Q D b0 Ev nL c0 u0 w0 Mf (pc + 3) (ls) (zI (if 0 ≤ a then a else wr (0 - a)) :: st) (M)) : zAt p l e R s m args below meth c Q D b0 Ev nL c0 u0 w0 Mf (pc) (ls) (zI a :: st) (M) := by
  intro H locs cells slots ws tys lsM stM S
  obtain ⟨w', r, rfl, ⟨x, rfl, rfl⟩, h5⟩ := S.2.2.2.2.2.2.1.cons
  have hsum := zsum C.2.2.2.2.2.2.2.2.2.2.1 h5
  have hsz : c.maxLocals = lsM.size := by rw [S.2.2.2.2.2.1.1, S.2.2.2.2.2.2.2.1, C.2.2.2.2.2.2.2.2.2.1]
  have hroom := S.room (k := 0) (n := 0) (by have := S.2.2.2.2.2.2.2.2; omega) (by have := S.2.2.2.2.2.2.2.2; omega)
  refine va_mabs C.1 C.2.1 hsz C.2.2.2.1 (C.2.2.2.2.1 _ (zmathw hk (Or.inr (Or.inr ⟨rfl, rfl⟩)))) (C.2.2.2.2.1 _ zw_m7s) (C.2.2.2.2.1 _ zw_mi) (C.2.2.2.2.1 _ zw_m7c) hR.1 (by omega) hroom.1 hroom.2 hd (kn _ _ _ _ _ _ _ _ (S.stk ⟨⟨_, rfl, ?_⟩, h5⟩))
  by_cases h : 0 ≤ x
  · rw [if_pos h, if_pos (show 0 ≤ x.toInt from Int32.le_iff_toInt_le.mp h)]
  · rw [if_neg h, if_neg (fun q : 0 ≤ x.toInt => h (Int32.le_iff_toInt_le.mpr q)), zi_sub]; rfl
theorem zs_copy {k K a b : Nat} {n sp dp : Int} (C : zCx p l s m args meth c b0 Ev xs xl nL cc oc rt ini hh) (hd : decode cc pc = .ok (.invokestatic k, 3)) (hk : zMR oc k = some (4, K)) (h1 : 0 ≤ n) (h2 : 0 ≤ dp) (h3 : 0 ≤ sp) (h4 : sp + n ≤ mN M a) (h5 : dp + n ≤ mN M b) (h6 : mC M a = mC M b) (h7 : mC M a = 20 ∨ (mC M a = 21 ∧ ∀ j : Nat, sp ≤ j → j < sp + n → mA M a j = 0 ∨ mA M a j = 1)) (hs : st.length ≤ 4) (hR : 1 ≤ R.frames ∧ 40 ≤ R.locals) (kn : zAt p l e R s m args below meth c Q D b0 Ev nL c0 u0 w0 Mf (pc + 3) (ls) (st) (cpA M a sp.toNat b dp.toNat n.toNat)) : zAt p l e R s m args below meth c Q D b0 Ev nL c0 u0 w0 Mf (pc) (ls) (zI n :: zI dp :: zR b :: zI sp :: zR a :: st) (M) := by
  intro H locs cells slots ws tys lsM stM S
  obtain ⟨w, r, rfl, ⟨z, rfl, rfl⟩, g1⟩ := S.2.2.2.2.2.2.1.cons
  obtain ⟨w, r, rfl, ⟨y, rfl, rfl⟩, g2⟩ := g1.cons
  obtain ⟨wb, r, rfl, hb, g3⟩ := g2.cons
  obtain ⟨w, r, rfl, ⟨x, rfl, rfl⟩, g4⟩ := g3.cons
  obtain ⟨wa, r, rfl, ha, g5⟩ := g4.cons
  have hsum := zsum C.2.2.2.2.2.2.2.2.2.2.1 g5
  have hsz : c.maxLocals = lsM.size := by rw [S.2.2.2.2.2.1.1, S.2.2.2.2.2.2.2.1, C.2.2.2.2.2.2.2.2.2.1]
  obtain ⟨md, a', b', hl⟩ := zMR_in hk
  have hl2 : Jvm.Cond.methodLink (zcn oc) k arraycopyName ∈ zT0 := by
    simp only [zlw] at hl
    match md, hl with
    | 0, hl => exact zp0_in (Bool.and_eq_true_iff.mp hl).1
    | _ + 1, hl => exact absurd (Bool.and_eq_true_iff.mp hl).2 (by simp)
  have hlt : ∀ z : Int32, 0 ≤ z.toInt → ¬ z < 0 := fun z hz q => by
    have := Int32.lt_iff_toInt_lt.mp q
    have z : (0 : Int32).toInt = 0 := rfl
    omega
  have hnf : nativeFrameWords "java/lang/System" "arraycopy" 5 + 11 ≤ 32 := by decide +kernel
  have fin : ∀ (ty : FieldType) (ia ib ada adb : Nat) (ca cb : ClassId) (fa fb : Nat → Int32) (ta tb : Nat), a = ia + 1 → b = ib + 1 → ws[ia]? = some (ada, .inl (ca, mN M a, .inl fa)) → ws[ib]? = some (adb, .inl (cb, mN M b, .inl fb)) → tys[ta]? = some (ca, ty) → tys[tb]? = some (cb, ty) → refKind ty = false → (∀ i, i < z.toNatClampNeg → fits ty (.int (fa (x.toNatClampNeg + i))) = true) → W p l e R s m args below meth c H locs cells slots Q (F0 m pc lsM (.int z :: .int y :: wb :: .int x :: wa :: r)) := by
    intro ty ia ib ada adb ca cb fa fb ta tb ea eb wa' wb' hta htb hrk hfit
    subst ea; subst eb
    have e1 := zaddr (i' := 0) ha wa'
    have e2 := zaddr (i' := 0) hb wb'
    subst e1; subst e2
    refine va_copyi C.1 C.2.1 hsz C.2.2.2.1 (C.2.2.2.2.1 _ hl2) (C.2.2.2.2.1 _ zw_an) (C.2.2.2.2.1 _ zw_as) (C.2.2.2.2.1 _ zw_ai) S.2.2.1 S.2.1 S.2.2.2.1 S.2.2.2.2.1 ia ib ta tb wa' wb' hta htb hrk (hlt x h3) (hlt y h2) (hlt z h1) (by show x.toInt.toNat + z.toInt.toNat ≤ _; omega) (by show y.toInt.toNat + z.toInt.toNat ≤ _; omega) hfit hR.1 (by omega) hd (fun H1 locs1 k1 k2 k3 => ?_)
    exact kn _ _ _ _ _ _ _ _ (S.mem k1 (zH_cpA S.1 wa' wb') S.2.2.1 k2 k3 (zx.set wb' (by rfl)) rfl rfl (g5.mv (zx.set wb' (by rfl))))
  rcases h7 with h7 | ⟨h7, h8⟩
  · obtain ⟨ia, ada, ca, fa, ta, ea, wa', hta, -⟩ := S.1.ia (a := a) (ty := .int) (Or.inl ⟨h7, rfl⟩)
    obtain ⟨ib, adb, cb, fb, tb, eb, wb', htb, -⟩ := S.1.ia (a := b) (ty := .int) (Or.inl ⟨by omega, rfl⟩)
    exact fin .int ia ib ada adb ca cb fa fb ta tb ea eb wa' wb' hta htb rfl (fun _ _ => rfl)
  · obtain ⟨ia, ada, ca, fa, ta, ea, wa', hta, hfa⟩ := S.1.ia (a := a) (ty := .boolean) (Or.inr (Or.inl ⟨h7, rfl⟩))
    obtain ⟨ib, adb, cb, fb, tb, eb, wb', htb, -⟩ := S.1.ia (a := b) (ty := .boolean) (Or.inr (Or.inl ⟨by omega, rfl⟩))
    refine fin .boolean ia ib ada adb ca cb fa fb ta tb ea eb wa' wb' hta htb rfl (fun i hi => ?_)
    have hz : z.toNatClampNeg = z.toInt.toNat := rfl
    have hx : x.toNatClampNeg = x.toInt.toNat := rfl
    refine (zfits (ty := .boolean) ?_).2
    show _ = 0 ∨ _ = 1
    rw [hfa]
    exact h8 _ (by omega) (by omega)
end ZROW3
