/-! every method does what the plain machine does -/
theorem zw_xi_0 : Jvm.Cond.initialized (zxn 0) ∈ zT0 := List.mem_filter.mpr ⟨ztb_in (k := 1) (List.mem_of_getElem? (i := 16) rfl), rfl⟩
theorem zw_xi_1 : Jvm.Cond.initialized (zxn 1) ∈ zT0 := List.mem_filter.mpr ⟨ztb_in (k := 1) (List.mem_of_getElem? (i := 17) rfl), rfl⟩
theorem zw_xi_2 : Jvm.Cond.initialized (zxn 2) ∈ zT0 := List.mem_filter.mpr ⟨ztb_in (k := 1) (List.mem_of_getElem? (i := 18) rfl), rfl⟩
theorem zw_xk_10_46 : Jvm.Cond.classLink (zcn 10) 46 (zxn 0) ∈ zT0 := List.mem_filter.mpr ⟨ztb_in (k := 2) (List.mem_of_getElem? (i := 219) rfl), rfl⟩
theorem zw_xk_10_57 : Jvm.Cond.classLink (zcn 10) 57 (zxn 1) ∈ zT0 := List.mem_filter.mpr ⟨ztb_in (k := 3) (List.mem_of_getElem? (i := 58) rfl), rfl⟩
theorem zw_xk_10_66 : Jvm.Cond.classLink (zcn 10) 66 (zxn 2) ∈ zT0 := List.mem_filter.mpr ⟨ztb_in (k := 3) (List.mem_of_getElem? (i := 83) rfl), rfl⟩
def zxP (q : Nat × Nat × Nat) : Prop := Jvm.Cond.classLink (zcn q.1) q.2.1 (zxn q.2.2) ∈ zT0 ∧ q.2.2 < 3
theorem zxP_all : ∀ q ∈ zXT, zxP q := List.forall_mem_cons.mpr ⟨⟨zw_xk_10_46, by decide⟩, List.forall_mem_cons.mpr ⟨⟨zw_xk_10_57, by decide⟩, List.forall_mem_cons.mpr ⟨⟨zw_xk_10_66, by decide⟩, fun _ h => absurd h List.not_mem_nil⟩⟩⟩
set_option maxRecDepth 100000 in
theorem zw_at_10_50 : ((vx_atS (zcn 10) 50 (zxn 0) zxs).all fun w => (goodWord w || zng w) && decide (w ∈ lw_tbl)) = true := by decide +kernel
theorem zw_ot_10_50 : ((vx_atS (zcn 10) 50 (zxn 0) zxs).all vx_ot) = true := by decide +kernel
set_option maxRecDepth 100000 in
theorem zw_at_10_61 : ((vx_atS (zcn 10) 61 (zxn 1) zxs).all fun w => (goodWord w || zng w) && decide (w ∈ lw_tbl)) = true := by decide +kernel
theorem zw_ot_10_61 : ((vx_atS (zcn 10) 61 (zxn 1) zxs).all vx_ot) = true := by decide +kernel
set_option maxRecDepth 100000 in
theorem zw_at_10_70 : ((vx_atS (zcn 10) 70 (zxn 2) zxs).all fun w => (goodWord w || zng w) && decide (w ∈ lw_tbl)) = true := by decide +kernel
theorem zw_ot_10_70 : ((vx_atS (zcn 10) 70 (zxn 2) zxs).all vx_ot) = true := by decide +kernel
def zyP (q : Nat × Nat × Nat × Nat) : Prop := ∃ E, zXR q.1 q.2.1 = some E ∧ ((vx_atS (zcn q.1) q.2.2.2 (zxn E) zxs).all fun w => (goodWord w || zng w) && decide (w ∈ lw_tbl)) = true ∧ ((vx_atS (zcn q.1) q.2.2.2 (zxn E) zxs).all vx_ot) = true
theorem zyP_all : ∀ q ∈ zYL, zyP q := List.forall_mem_cons.mpr ⟨⟨0, rfl, zw_at_10_50, zw_ot_10_50⟩, List.forall_mem_cons.mpr ⟨⟨0, rfl, zw_at_10_50, zw_ot_10_50⟩, List.forall_mem_cons.mpr ⟨⟨0, rfl, zw_at_10_50, zw_ot_10_50⟩, List.forall_mem_cons.mpr ⟨⟨0, rfl, zw_at_10_50, zw_ot_10_50⟩, List.forall_mem_cons.mpr ⟨⟨0, rfl, zw_at_10_50, zw_ot_10_50⟩, List.forall_mem_cons.mpr ⟨⟨0, rfl, zw_at_10_50, zw_ot_10_50⟩, List.forall_mem_cons.mpr ⟨⟨0, rfl, zw_at_10_50, zw_ot_10_50⟩, List.forall_mem_cons.mpr ⟨⟨1, rfl, zw_at_10_61, zw_ot_10_61⟩, List.forall_mem_cons.mpr ⟨⟨1, rfl, zw_at_10_61, zw_ot_10_61⟩, List.forall_mem_cons.mpr ⟨⟨1, rfl, zw_at_10_61, zw_ot_10_61⟩, List.forall_mem_cons.mpr ⟨⟨1, rfl, zw_at_10_61, zw_ot_10_61⟩, List.forall_mem_cons.mpr ⟨⟨1, rfl, zw_at_10_61, zw_ot_10_61⟩, List.forall_mem_cons.mpr ⟨⟨1, rfl, zw_at_10_61, zw_ot_10_61⟩, List.forall_mem_cons.mpr ⟨⟨1, rfl, zw_at_10_61, zw_ot_10_61⟩, List.forall_mem_cons.mpr ⟨⟨1, rfl, zw_at_10_61, zw_ot_10_61⟩, List.forall_mem_cons.mpr ⟨⟨2, rfl, zw_at_10_70, zw_ot_10_70⟩, List.forall_mem_cons.mpr ⟨⟨2, rfl, zw_at_10_70, zw_ot_10_70⟩, List.forall_mem_cons.mpr ⟨⟨2, rfl, zw_at_10_70, zw_ot_10_70⟩, List.forall_mem_cons.mpr ⟨⟨2, rfl, zw_at_10_70, zw_ot_10_70⟩, List.forall_mem_cons.mpr ⟨⟨2, rfl, zw_at_10_70, zw_ot_10_70⟩, List.forall_mem_cons.mpr ⟨⟨2, rfl, zw_at_10_70, zw_ot_10_70⟩, List.forall_mem_cons.mpr ⟨⟨2, rfl, zw_at_10_70, zw_ot_10_70⟩, List.forall_mem_cons.mpr ⟨⟨2, rfl, zw_at_10_70, zw_ot_10_70⟩, List.forall_mem_cons.mpr ⟨⟨2, rfl, zw_at_10_70, zw_ot_10_70⟩, List.forall_mem_cons.mpr ⟨⟨2, rfl, zw_at_10_70, zw_ot_10_70⟩, fun _ h => absurd h List.not_mem_nil⟩⟩⟩⟩⟩⟩⟩⟩⟩⟩⟩⟩⟩⟩⟩⟩⟩⟩⟩⟩⟩⟩⟩⟩⟩
theorem zw_xi : ∀ {E : Nat}, E < 3 → Jvm.Cond.initialized (zxn E) ∈ zT0
  | 0, _ => zw_xi_0
  | 1, _ => zw_xi_1
  | 2, _ => zw_xi_2
  | _ + 3, h => absurd h (by omega)
theorem zfit_x : ∀ E, E < 3 → Bundle.fit (zxn E) = true := by decide +kernel
theorem zfit_s : ∀ n ∈ zxs, Bundle.fit n = true := by decide +kernel
section ZALL
variable {p : Program} {l : Launch} {e : Env} {R : Room} {s : State} {m : MethodId} {args : Array Value} {below : List Frame} {meth : Method} {c : Code} {Q : State → Prop} {D : va_G} {b0 : Nat} {Ev : Nat → Value} {xs : Nat → Int} {xl nL c0 u0 d : Nat} {w0 : va_W} {Mf : zM} {cc : ByteArray} {oc : Nat} {rt : Option FieldType} {ini : Bool} {hh : List (Nat × Nat × Nat × Nat × Nat)}
/-- a throw leaves the method -/
theorem zs_throw {E pc k is ic : Nat} {ls st : List zV} {M : zM} (C : zCx p l s m args meth c b0 Ev xs xl nL cc oc rt ini hh) (hR : 20 ≤ R.frames ∧ 200 ≤ R.locals) (htab : ∀ x ∈ c.exceptionTable.toList, False) (hst : st.length ≤ 4) (d0 : decode cc pc = .ok (.new k, 3)) (d3 : decode cc (pc + 3) = .ok (.dup, 1)) (d4 : decode cc (pc + 4) = .ok (.ldc is, 2)) (d6 : decode cc (pc + 6) = .ok (.invokespecial ic, 3)) (d9 : decode cc (pc + 9) = .ok (.athrow, 1)) (hx : zXL oc k is ic = true) (hE : zXR oc k = some E) (hM : Mf = nwX M) (hc0 : c0 ≤ mc Mf) (hu0 : u0 ≤ mu Mf) :
    zAt p l e R s m args below meth c (vx_MQ below (fun _ _ _ _ => False) (zXC D b0 w0 E Mf) args s (mc Mf - c0) (mu Mf - u0) (fun q => b0 ≤ q)) D b0 Ev nL c0 u0 w0 Mf pc ls st M := by
  intro H locs cells slots ws tys lsM stM S
  have hz : (oc, k, is, ic) ∈ zYL := by
    unfold zXL at hx
    exact List.contains_iff_mem.mp hx
  obtain ⟨E', e1, e2, e3⟩ := zyP_all _ hz
  have : E' = E := by have e1 : zXR oc k = some E' := e1; rw [hE] at e1; exact (Option.some.inj e1).symm
  subst this
  obtain ⟨x1, x2⟩ := zxP_all _ (zlk_mem hE)
  have x2 : E' < 3 := x2
  have xi : Jvm.Cond.initialized (zxn E') ∈ zT0 := by
    exact zw_xi x2
  obtain ⟨tx, sa, hstr⟩ := C.2.2.2.2.2.1.2.2.2.2.2.2.2.2.1 _ hz
  have hat : ∀ w ∈ vx_atS (zcn oc) ic (zxn E') zxs, w.before args s = true := fun w hw => by
    have := List.all_eq_true.mp e2 w hw
    simp only [Bool.and_eq_true, Bool.or_eq_true, decide_eq_true_eq] at this
    rcases this.1 with g | g
    · exact C.2.2.2.2.1 _ (List.mem_filter.mpr ⟨this.2, g⟩)
    · have hz1 := C.2.2.2.2.2.1.2.2.2.2.2.1 _ (List.mem_filter.mpr ⟨this.2, g⟩)
      have ht : w.onTables = true := by cases w <;> first | rfl | (exact absurd g (by simp [zng]))
      exact va_Nw.use ht hz1
  have hgood : ∀ w ∈ Jvm.Cond.classLink (zcn oc) k (zxn E') :: Jvm.Cond.initialized (zxn E') :: vx_atS (zcn oc) ic (zxn E') zxs, vx_ot w = true := fun w hw => by
    rcases List.mem_cons.mp hw with rfl | hw
    · rfl
    · rcases List.mem_cons.mp hw with rfl | hw
      · rfl
      · exact List.all_eq_true.mp e3 w hw
  have hsum := zsum C.2.2.2.2.2.2.2.2.2.2.1 S.2.2.2.2.2.2.1
  have hsz : lsM.size = c.maxLocals := by rw [S.2.2.2.2.2.1.1, S.2.2.2.2.2.2.2.1, C.2.2.2.2.2.2.2.2.2.1]
  have hcnt := S.2.2.2.2.2.2.2.2
  have em : mc Mf = mc M + 1 := by rw [hM]; rfl
  have eu : mu Mf = mu M + 6 := by rw [hM]; rfl
  have hx0 := S.2.2.2.2.2.2.2.2.2
  refine vx_throwS (names := zxs) (XC := zXC D b0 w0 E' Mf) C.1 C.2.1 C.2.2.2.2.2.2.2.2.2.2.2.1 C.2.2.2.1 (zfit_x E' x2) zfit_s (C.2.2.2.2.1 _ x1) (C.2.2.2.2.1 _ xi) hstr hat hgood C.2.2.2.2.2.1.2.2.2.2.2.2.2.1.1 C.2.2.2.2.2.1.2.2.2.2.2.2.2.1.2 S.2.2.2.2.1 hsz d0 d3 d4 d6 d9 (fun x hx => (htab x hx).elim) (by show 2 + 3 < _; omega) (by show _ + (13 * (2 + 1) + 43) ≤ _; omega) (by omega) (by omega) C.2.2.2.2.2.2.2.1 (fun t hal hz hk => ?_) S.2.2.2.2.1.2.2 (by omega) (by omega)
  refine ⟨rfl, ⟨ws, tys, by rw [hM]; exact zH_nwX S.1, S.2.1.kept (fun k q hq => hk q.1 ((S.2.1 k q hq).lt)), va_K.moved hal S.2.2.1, S.2.2.2.1, hx0⟩, Nat.le_trans S.2.2.2.2.1.1 hz, fun q q1 q2 => (hk q (Nat.lt_of_lt_of_le q1 S.2.2.2.2.1.1)).trans (S.2.2.2.2.1.2.1 q q1 q2)⟩
/-- the locals at a method's entry -/
theorem zargs_at (hE : ∀ k, (∃ a, Ev k = .ref a) ∨ Ev k = .null) {ws : va_W} : ∀ {a : List zV} {av : List Value}, zsr Ev ws a av → (∀ v ∈ a, v ≠ zU) → (zargs a).length = (lg_sl av).length ∧ ∀ (off i : Nat) (v : zV), (zargs a)[i]? = some v → v = zU ∨ ∃ w : Value, (off + i, w) ∈ lv_args off av ∧ zvr Ev ws v w
  | [], [], _, _ => ⟨rfl, fun off i v h => by simp [zargs] at h⟩
  | v :: a, w :: av, h, hu => by
    obtain ⟨i1, i2⟩ := zargs_at hE h.2 (fun v hv => hu v (List.mem_cons_of_mem _ hv))
    have hc : w.category = zcat v := by
      have h1 := h.1
      rcases v with i | x | i | k | dd | u
      · obtain ⟨y, rfl, -⟩ := h1; rfl
      · rcases h1 with ⟨-, rfl⟩ | ⟨_, _, -, -, rfl⟩ <;> rfl
      · obtain ⟨y, rfl, -⟩ := h1; rfl
      · have h1 : if k = 999 then ∃ a, w = .ref a else w = Ev k := h1
        split at h1
        · obtain ⟨y, rfl⟩ := h1; rfl
        · rcases hE k with ⟨y, g⟩ | g <;> rw [h1, g] <;> rfl
      · have h1 : w = .double dd := h1
        subst h1; rfl
      · exact absurd rfl (hu _ List.mem_cons_self)
    unfold zargs lv_args
    by_cases h2 : zcat v = 2
    · have e1 : w.category = 2 := hc.trans h2
      have e2 : lg_sl (w :: av) = Slot.val w :: Slot.second :: lg_sl av := by simp [lg_sl, e1]
      simp only [if_pos h2, if_pos e1, e2]
      refine ⟨by simp [i1], fun off i u hi => ?_⟩
      match i, hi with
      | 0, hi => cases hi; exact Or.inr ⟨w, by simp, h.1⟩
      | 1, hi => cases hi; exact Or.inl rfl
      | i + 2, hi =>
        refine (i2 (off + 2) i u hi).imp id (fun ⟨w', g1, g2⟩ => ⟨w', List.mem_cons_of_mem _ ?_, g2⟩)
        rwa [show off + (i + 2) = off + 2 + i by omega]
    · have e1 : ¬ w.category = 2 := by rw [hc]; exact h2
      have e2 : lg_sl (w :: av) = Slot.val w :: lg_sl av := by simp [lg_sl, e1]
      simp only [if_neg h2, if_neg e1, e2]
      refine ⟨by simp [i1], fun off i u hi => ?_⟩
      match i, hi with
      | 0, hi => cases hi; exact Or.inr ⟨w, by simp, h.1⟩
      | i + 1, hi =>
        refine (i2 (off + 1) i u hi).imp id (fun ⟨w', g1, g2⟩ => ⟨w', List.mem_cons_of_mem _ ?_, g2⟩)
        rwa [show off + (i + 1) = off + 1 + i by omega]
  | [], _ :: _, h, _ => h.elim
  | _ :: _, [], h, _ => h.elim
theorem zent_lr (hE : ∀ k, (∃ a, Ev k = .ref a) ∨ Ev k = .null) {ws : va_W} {a : List zV} {av : List Value} {n : Nat} (h : zsr Ev ws a av) (hu : ∀ v ∈ a, v ≠ zU) (hn : (zargs a).length ≤ n) : zlr Ev ws (zent n a) ((lg_sl av ++ List.replicate (n - (lg_sl av).length) Slot.unset).toArray) ∧ (zent n a).length = n := by
  obtain ⟨h1, h2⟩ := zargs_at hE h hu
  have hl := lv_entry av (n := n) (by rw [← h1]; exact hn)
  have hlen : (zent n a).length = n := by unfold zent; simp; omega
  refine ⟨⟨by rw [hl.1, hlen], hl.2.1, fun i v hv => ?_⟩, hlen⟩
  unfold zent at hv
  by_cases hi : i < (zargs a).length
  · rw [List.getElem?_append_left hi] at hv
    refine (h2 0 i v hv).imp id (fun ⟨w, g1, g2⟩ => ⟨w, hl.2.2 (i, w) (by rwa [Nat.zero_add] at g1), g2⟩)
  · rw [List.getElem?_append_right (by omega)] at hv
    have := List.mem_of_getElem? hv
    exact Or.inl (List.eq_of_mem_replicate this)
/-- what a method's walk stands on, and its first state -/
theorem zstart {l : Launch} (hlt : l.stackTraces = false) (hE : ∀ k, (∃ a, Ev k = .ref a) ∨ Ev k = .null) {K dd mc0 ms0 : Nat} {a : List zV} {av : List Value} {ws : va_W} {tys : List (ClassId × FieldType)} {M Mf : zM} {s₁ : State} (hK : K < 244) (B : BodyLoose p l (zMy K) (headSpec (zcw K :: zT0) (zrm dd mc0 ms0)) (zMc K) (zMl K) (zMr K) e s m args below meth c s₁) (hml : c.maxLocals = zMl K) (hv : zPc D b0 Ev xs xl av ws tys args s) (hH : zH M ws tys) (ha : zsr Ev ws a av) (hu : ∀ v ∈ a, v ≠ zU) (hn : (zargs a).length ≤ zMl K) (hle : zle M Mf) (h1 : mc Mf ≤ mc M + mc0) (h2 : mu Mf ≤ mu M + ms0) :
    zCx p l s m args meth c b0 Ev xs xl (zMl K) (zMc K) (zMo K) (zMr K) (zMi K) (zMh K) ∧ args = av.toArray ∧ ∃ lsM : Array Slot, entryFrame m args (zMl K) = F0 m 0 lsM [] ∧ zSt s (zrm dd mc0 ms0) D b0 Ev (zMl K) (mc M) (mu M) ws Mf (zent (zMl K) a) [] M s.heap [] 0 0 ws tys lsM [] := by
  obtain ⟨rfl, hb, hP, hK2, hD, hX⟩ := hv
  obtain ⟨w1, w2, w3, w4, w5, w6, w7, w8⟩ := zmw_is hK
  have hts := atoms_spec (ws := zcw K :: zT0) B.pre
  have hown := findClass_of_methodNamed B.named
  rw [w3] at hown
  obtain ⟨g1, g2⟩ := zent_lr hE ha hu hn
  refine ⟨⟨B.exec, B.bytes, B.returns, hown, fun w hw => hts w (List.mem_cons_of_mem _ hw), hX, hb, B.notSynchronized, fun hi => (name_of_methodNamed B.named B.method).1.trans (w6 hi), hml, hE, hlt, fun hne => ?_⟩, rfl, _, lg_entry_eq m av (zMl K), hH, hP, hK2, hD, va_S.rf, g1, trivial, g2, by have := hle.1; have := hle.2; show 0 + mc M = mc M ∧ 0 + mu M = mu M ∧ _ ∧ _ ∧ mc Mf ≤ mc M + mc0 ∧ mu Mf ≤ mu M + ms0; omega, zx.rf⟩
  have hcw := hts _ List.mem_cons_self
  unfold zcw at hcw
  rw [if_neg hne] at hcw
  rw [vx_table (x := zMy K) B hcw]
  unfold tableOf
  rw [List.map_map]
  rfl
end ZALL
