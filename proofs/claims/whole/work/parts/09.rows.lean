/-- a state of the walk: the plain machine's and the machine's -/
def zSt (s : State) (R : Room) (D : va_G) (b0 : Nat) (Ev : Nat → Value) (nL c0 u0 : Nat) (w0 : va_W) (Mf : zM) (ls st : List zV) (M : zM) (H : Heap) (locs : List Loc) (cells slots : Nat) (ws : va_W) (tys : List (ClassId × FieldType)) (lsM : Array Slot) (stM : List Value) : Prop :=
  zH M ws tys ∧ va_P D vwCl ws H ∧ va_K D vwCl tys s ∧ va_D (fun q => b0 ≤ q) ws ∧ va_S (fun q => b0 ≤ q) s.heap H locs ∧ zlr Ev ws ls lsM ∧ zsr Ev ws st stM ∧ ls.length = nL ∧ (cells + c0 = mc M ∧ slots + u0 = mu M ∧ mc M ≤ mc Mf ∧ mu M ≤ mu Mf ∧ mc Mf ≤ c0 + R.cells ∧ mu Mf ≤ u0 + R.slots) ∧ zx w0 ws
/-- from here the machine comes to its end -/
def zAt (p : Program) (l : Launch) (e : Env) (R : Room) (s : State) (m : MethodId) (args : Array Value) (below : List Frame) (meth : Method) (c : Code) (Q : State → Prop) (D : va_G) (b0 : Nat) (Ev : Nat → Value) (nL c0 u0 : Nat) (w0 : va_W) (Mf : zM) (pc : Nat) (ls st : List zV) (M : zM) : Prop :=
  ∀ (H : Heap) (locs : List Loc) (cells slots : Nat) (ws : va_W) (tys : List (ClassId × FieldType)) (lsM : Array Slot) (stM : List Value), zSt s R D b0 Ev nL c0 u0 w0 Mf ls st M H locs cells slots ws tys lsM stM → W p l e R s m args below meth c H locs cells slots Q (F0 m pc lsM stM)
/-- what a method's walk stands on -/
def zCx (p : Program) (l : Launch) (s : State) (m : MethodId) (args : Array Value) (meth : Method) (c : Code) (b0 : Nat) (Ev : Nat → Value) (xs : Nat → Int) (xl nL : Nat) (cc : ByteArray) (oc : Nat) (rt : Option FieldType) (ini : Bool) (hh : List (Nat × Nat × Nat × Nat × Nat)) : Prop :=
  p.tables.exec = Jvm.exec ∧ c.code = cc ∧ meth.sig.returnType = rt ∧ s.vm.findClass (zcn oc) = some m.cls ∧ (∀ w ∈ zT0, w.before args s = true) ∧ zXt Ev xs xl (fun q => b0 ≤ q) s s.heap ∧ b0 ≤ s.heap.size ∧ meth.locks = false ∧ (ini = true → meth.name = "<init>") ∧ c.maxLocals = nL ∧ (∀ k, (∃ a, Ev k = .ref a) ∨ Ev k = .null) ∧ l.stackTraces = false ∧ (hh ≠ [] → c.exceptionTable.toList = hh.map (fun q => { startPc := q.1, endPc := q.2.1, handlerPc := q.2.2.1, catchType := q.2.2.2.2 }))
section ZROW
variable {p : Program} {l : Launch} {e : Env} {R : Room} {s : State} {m : MethodId} {args : Array Value} {below : List Frame} {meth : Method} {c : Code} {Q : State → Prop} {D : va_G} {b0 : Nat} {Ev : Nat → Value} {xs : Nat → Int} {xl nL c0 u0 : Nat} {w0 : va_W} {Mf : zM} {cc : ByteArray} {oc : Nat} {rt : Option FieldType} {ini : Bool} {hh : List (Nat × Nat × Nat × Nat × Nat)} {pc : Nat} {ls st : List zV} {M : zM}
/-- the stack alone changed -/
theorem zSt.stk {ls st st' : List zV} {H : Heap} {locs : List Loc} {cells slots : Nat} {ws : va_W} {tys : List (ClassId × FieldType)} {lsM : Array Slot} {stM stM' : List Value} (h : zSt s R D b0 Ev nL c0 u0 w0 Mf ls st M H locs cells slots ws tys lsM stM) (h' : zsr Ev ws st' stM') : zSt s R D b0 Ev nL c0 u0 w0 Mf ls st' M H locs cells slots ws tys lsM stM' := by
  obtain ⟨g1, g2, g3, g4, g5, g6, g7, g8, g9⟩ := h
  exact ⟨g1, g2, g3, g4, g5, g6, h', g8, g9⟩
/-- the locals and the stack -/
theorem zSt.lok {ls ls' st st' : List zV} {H : Heap} {locs : List Loc} {cells slots : Nat} {ws : va_W} {tys : List (ClassId × FieldType)} {lsM lsM' : Array Slot} {stM stM' : List Value} (h : zSt s R D b0 Ev nL c0 u0 w0 Mf ls st M H locs cells slots ws tys lsM stM) (h' : zsr Ev ws st' stM') (hl : zlr Ev ws ls' lsM') (hn : ls'.length = ls.length) : zSt s R D b0 Ev nL c0 u0 w0 Mf ls' st' M H locs cells slots ws tys lsM' stM' := by
  obtain ⟨g1, g2, g3, g4, g5, g6, g7, g8, g9⟩ := h
  exact ⟨g1, g2, g3, g4, g5, hl, h', hn.trans g8, g9⟩
theorem zi_ofInt (n : Int) : (Int32.ofInt n).toInt = wr n := by rw [Int32.toInt_ofInt, ← wr_bmod]; try rfl
theorem zi_of8 (n : Int) : (Int8.ofInt n).toInt32.toInt = w8 n := by
  rw [Int8.toInt_toInt32, Int8.toInt_ofInt]
  show n.bmod 256 = _
  unfold w8 Int.bmod
  dsimp only
  split <;> omega
theorem zi_of16 (n : Int) : (Int16.ofInt n).toInt32.toInt = w16 n := by
  rw [Int16.toInt_toInt32, Int16.toInt_ofInt]
  show n.bmod 65536 = _
  unfold w16 Int.bmod
  dsimp only
  split <;> omega
theorem zi_back (x : Int32) : Int32.ofInt x.toInt = x := Int32.ofInt_toInt x
theorem zs_iconst {n : Int} (C : zCx p l s m args meth c b0 Ev xs xl nL cc oc rt ini hh) (hd : decode cc pc = .ok (.iconst n, 1)) (k : zAt p l e R s m args below meth c Q D b0 Ev nL c0 u0 w0 Mf (pc + 1) (ls) (zI (wr n) :: st) (M)) : zAt p l e R s m args below meth c Q D b0 Ev nL c0 u0 w0 Mf (pc) (ls) (st) (M) := by
  intro H locs cells slots ws tys lsM stM S
  exact lv_iconst C.1 C.2.1 hd rfl (k _ _ _ _ _ _ _ _ (S.stk ⟨⟨_, rfl, zi_ofInt n⟩, S.2.2.2.2.2.2.1⟩))
theorem zs_bipush {n : Int} (C : zCx p l s m args meth c b0 Ev xs xl nL cc oc rt ini hh) (hd : decode cc pc = .ok (.bipush n, 2)) (k : zAt p l e R s m args below meth c Q D b0 Ev nL c0 u0 w0 Mf (pc + 2) (ls) (zI (w8 n) :: st) (M)) : zAt p l e R s m args below meth c Q D b0 Ev nL c0 u0 w0 Mf (pc) (ls) (st) (M) := by
  intro H locs cells slots ws tys lsM stM S
  exact lv_bipush C.1 C.2.1 hd rfl (k _ _ _ _ _ _ _ _ (S.stk ⟨⟨_, rfl, zi_of8 n⟩, S.2.2.2.2.2.2.1⟩))
theorem zs_sipush {n : Int} (C : zCx p l s m args meth c b0 Ev xs xl nL cc oc rt ini hh) (hd : decode cc pc = .ok (.sipush n, 3)) (k : zAt p l e R s m args below meth c Q D b0 Ev nL c0 u0 w0 Mf (pc + 3) (ls) (zI (w16 n) :: st) (M)) : zAt p l e R s m args below meth c Q D b0 Ev nL c0 u0 w0 Mf (pc) (ls) (st) (M) := by
  intro H locs cells slots ws tys lsM stM S
  exact lv_sipush C.1 C.2.1 hd rfl (k _ _ _ _ _ _ _ _ (S.stk ⟨⟨_, rfl, zi_of16 n⟩, S.2.2.2.2.2.2.1⟩))
theorem zs_lconst {n : Fin 2} (C : zCx p l s m args meth c b0 Ev xs xl nL cc oc rt ini hh) (hd : decode cc pc = .ok (.lconst n, 1)) (k : zAt p l e R s m args below meth c Q D b0 Ev nL c0 u0 w0 Mf (pc + 1) (ls) (zL (n : Nat) :: st) (M)) : zAt p l e R s m args below meth c Q D b0 Ev nL c0 u0 w0 Mf (pc) (ls) (st) (M) := by
  intro H locs cells slots ws tys lsM stM S
  refine lv_lconst C.1 C.2.1 hd rfl (k _ _ _ _ _ _ _ _ (S.stk ⟨⟨_, rfl, ?_⟩, S.2.2.2.2.2.2.1⟩))
  match n with
  | 0 => rfl
  | 1 => rfl
theorem zs_dconst (C : zCx p l s m args meth c b0 Ev xs xl nL cc oc rt ini hh) (hd : decode cc pc = .ok (.dconst 0, 1)) (k : zAt p l e R s m args below meth c Q D b0 Ev nL c0 u0 w0 Mf (pc + 1) (ls) (zD FP.dconst0 :: st) (M)) : zAt p l e R s m args below meth c Q D b0 Ev nL c0 u0 w0 Mf (pc) (ls) (st) (M) := by
  intro H locs cells slots ws tys lsM stM S
  exact lv_dconst0 C.1 C.2.1 hd (k _ _ _ _ _ _ _ _ (S.stk ⟨rfl, S.2.2.2.2.2.2.1⟩))
theorem zs_null (C : zCx p l s m args meth c b0 Ev xs xl nL cc oc rt ini hh) (hd : decode cc pc = .ok (.aconst_null, 1)) (k : zAt p l e R s m args below meth c Q D b0 Ev nL c0 u0 w0 Mf (pc + 1) (ls) (zR 0 :: st) (M)) : zAt p l e R s m args below meth c Q D b0 Ev nL c0 u0 w0 Mf (pc) (ls) (st) (M) := by
  intro H locs cells slots ws tys lsM stM S
  exact lv_null C.1 C.2.1 hd (k _ _ _ _ _ _ _ _ (S.stk ⟨Or.inl ⟨rfl, rfl⟩, S.2.2.2.2.2.2.1⟩))
/-- a local that is known -/
theorem zlr.at {ws : va_W} {lsM : Array Slot} (h : zlr Ev ws ls lsM) {i : Nat} {v : zV} (hv : ls[i]? = some v) (hn : v ≠ zU) : ∃ w : Value, lsM[i]? = some (.val w) ∧ zvr Ev ws v w := (h.2.2 i v hv).elim (fun q => absurd q hn) id
theorem zs_iload {k : Nat} {x : Int} (C : zCx p l s m args meth c b0 Ev xs xl nL cc oc rt ini hh) (hd : decode cc pc = .ok (.iload k, 2)) (hl : ls[k]? = some (zI x)) (kn : zAt p l e R s m args below meth c Q D b0 Ev nL c0 u0 w0 Mf (pc + 2) (ls) (zI x :: st) (M)) : zAt p l e R s m args below meth c Q D b0 Ev nL c0 u0 w0 Mf (pc) (ls) (st) (M) := by
  intro H locs cells slots ws tys lsM stM S
  obtain ⟨w, h1, y, rfl, h2⟩ := S.2.2.2.2.2.1.at hl (by simp)
  exact lv_iload C.1 C.2.1 hd h1 (kn _ _ _ _ _ _ _ _ (S.stk ⟨⟨y, rfl, h2⟩, S.2.2.2.2.2.2.1⟩))
theorem zs_iload_n {k : Fin 4} {x : Int} (C : zCx p l s m args meth c b0 Ev xs xl nL cc oc rt ini hh) (hd : decode cc pc = .ok (.iload_n k, 1)) (hl : ls[(k : Nat)]? = some (zI x)) (kn : zAt p l e R s m args below meth c Q D b0 Ev nL c0 u0 w0 Mf (pc + 1) (ls) (zI x :: st) (M)) : zAt p l e R s m args below meth c Q D b0 Ev nL c0 u0 w0 Mf (pc) (ls) (st) (M) := by
  intro H locs cells slots ws tys lsM stM S
  obtain ⟨w, h1, y, rfl, h2⟩ := S.2.2.2.2.2.1.at hl (by simp)
  exact lv_iload_n C.1 C.2.1 hd rfl h1 (kn _ _ _ _ _ _ _ _ (S.stk ⟨⟨y, rfl, h2⟩, S.2.2.2.2.2.2.1⟩))
theorem zs_lload {k : Nat} {x : Int} (C : zCx p l s m args meth c b0 Ev xs xl nL cc oc rt ini hh) (hd : decode cc pc = .ok (.lload k, 2)) (hl : ls[k]? = some (zL x)) (kn : zAt p l e R s m args below meth c Q D b0 Ev nL c0 u0 w0 Mf (pc + 2) (ls) (zL x :: st) (M)) : zAt p l e R s m args below meth c Q D b0 Ev nL c0 u0 w0 Mf (pc) (ls) (st) (M) := by
  intro H locs cells slots ws tys lsM stM S
  obtain ⟨w, h1, y, rfl, h2⟩ := S.2.2.2.2.2.1.at hl (by simp)
  exact lv_lload C.1 C.2.1 hd h1 (kn _ _ _ _ _ _ _ _ (S.stk ⟨⟨y, rfl, h2⟩, S.2.2.2.2.2.2.1⟩))
theorem zs_lload_n {k : Fin 4} {x : Int} (C : zCx p l s m args meth c b0 Ev xs xl nL cc oc rt ini hh) (hd : decode cc pc = .ok (.lload_n k, 1)) (hl : ls[(k : Nat)]? = some (zL x)) (kn : zAt p l e R s m args below meth c Q D b0 Ev nL c0 u0 w0 Mf (pc + 1) (ls) (zL x :: st) (M)) : zAt p l e R s m args below meth c Q D b0 Ev nL c0 u0 w0 Mf (pc) (ls) (st) (M) := by
  intro H locs cells slots ws tys lsM stM S
  obtain ⟨w, h1, y, rfl, h2⟩ := S.2.2.2.2.2.1.at hl (by simp)
  exact lv_lload_n C.1 C.2.1 hd rfl h1 (kn _ _ _ _ _ _ _ _ (S.stk ⟨⟨y, rfl, h2⟩, S.2.2.2.2.2.2.1⟩))
theorem zs_dload {k : Nat} {x : UInt64} (C : zCx p l s m args meth c b0 Ev xs xl nL cc oc rt ini hh) (hd : decode cc pc = .ok (.dload k, 2)) (hl : ls[k]? = some (zD x)) (kn : zAt p l e R s m args below meth c Q D b0 Ev nL c0 u0 w0 Mf (pc + 2) (ls) (zD x :: st) (M)) : zAt p l e R s m args below meth c Q D b0 Ev nL c0 u0 w0 Mf (pc) (ls) (st) (M) := by
  intro H locs cells slots ws tys lsM stM S
  obtain ⟨w, h1, h2⟩ := S.2.2.2.2.2.1.at hl (by simp)
  have h2 : w = .double x := h2
  subst h2
  exact lv_dload C.1 C.2.1 hd h1 (kn _ _ _ _ _ _ _ _ (S.stk ⟨rfl, S.2.2.2.2.2.2.1⟩))
/-- a reference, own or foreign -/
def zqr (v : zV) : Prop := match v with
  | .inr (.inl _) => True
  | .inr (.inr (.inr (.inl _))) => True
  | _ => False
theorem zqr_or (hE : ∀ k, (∃ a, Ev k = .ref a) ∨ Ev k = .null) {ws : va_W} {v : zV} {w : Value} (h : zvr Ev ws v w) (hv : zqr v) : (∃ a, w = .ref a) ∨ w = .null := by
  rcases v with i | a | i | k | d | u
  · exact hv.elim
  · rcases h with ⟨-, rfl⟩ | ⟨_, q, -, -, rfl⟩
    · exact Or.inr rfl
    · exact Or.inl ⟨_, rfl⟩
  · exact hv.elim
  · have h : if k = 999 then ∃ a, w = .ref a else w = Ev k := h
    split at h
    · exact Or.inl h
    · rcases hE k with ⟨a, q⟩ | q
      · exact Or.inl ⟨a, h.trans q⟩
      · exact Or.inr (h.trans q)
  · exact hv.elim
  · exact hv.elim
theorem zqr_ne {v : zV} (h : zqr v) : v ≠ zU := by rintro rfl; exact h
theorem zs_aload {k : Nat} {v : zV} (C : zCx p l s m args meth c b0 Ev xs xl nL cc oc rt ini hh) (hd : decode cc pc = .ok (.aload k, 2)) (hl : ls[k]? = some v) (hq : zqr v) (kn : zAt p l e R s m args below meth c Q D b0 Ev nL c0 u0 w0 Mf (pc + 2) (ls) (v :: st) (M)) : zAt p l e R s m args below meth c Q D b0 Ev nL c0 u0 w0 Mf (pc) (ls) (st) (M) := by
  intro H locs cells slots ws tys lsM stM S
  obtain ⟨w, h1, h2⟩ := S.2.2.2.2.2.1.at hl (zqr_ne hq)
  have kn := kn _ _ _ _ _ _ _ _ (S.stk (stM' := w :: stM) ⟨h2, S.2.2.2.2.2.2.1⟩)
  rcases zqr_or C.2.2.2.2.2.2.2.2.2.2.1 h2 hq with ⟨a, rfl⟩ | rfl
  · exact lv_aload C.1 C.2.1 hd h1 kn
  · exact lv_aloadN C.1 C.2.1 hd h1 kn
theorem zs_aload_n {k : Fin 4} {v : zV} (C : zCx p l s m args meth c b0 Ev xs xl nL cc oc rt ini hh) (hd : decode cc pc = .ok (.aload_n k, 1)) (hl : ls[(k : Nat)]? = some v) (hq : zqr v) (kn : zAt p l e R s m args below meth c Q D b0 Ev nL c0 u0 w0 Mf (pc + 1) (ls) (v :: st) (M)) : zAt p l e R s m args below meth c Q D b0 Ev nL c0 u0 w0 Mf (pc) (ls) (st) (M) := by
  intro H locs cells slots ws tys lsM stM S
  obtain ⟨w, h1, h2⟩ := S.2.2.2.2.2.1.at hl (zqr_ne hq)
  have kn := kn _ _ _ _ _ _ _ _ (S.stk (stM' := w :: stM) ⟨h2, S.2.2.2.2.2.2.1⟩)
  rcases zqr_or C.2.2.2.2.2.2.2.2.2.2.1 h2 hq with ⟨a, rfl⟩ | rfl
  · exact lv_aload_n C.1 C.2.1 hd rfl h1 kn
  · exact lv_aload_nN C.1 C.2.1 hd rfl h1 kn
theorem zs_istore {k : Nat} {x : Int} (C : zCx p l s m args meth c b0 Ev xs xl nL cc oc rt ini hh) (hd : decode cc pc = .ok (.istore k, 2)) (hk : k < ls.length) (kn : zAt p l e R s m args below meth c Q D b0 Ev nL c0 u0 w0 Mf (pc + 2) (zst1 k (zI x) ls) (st) (M)) : zAt p l e R s m args below meth c Q D b0 Ev nL c0 u0 w0 Mf (pc) (ls) (zI x :: st) (M) := by
  intro H locs cells slots ws tys lsM stM S
  obtain ⟨w, r, rfl, ⟨y, rfl, h2⟩, h3⟩ := S.2.2.2.2.2.2.1.cons
  have hl := S.2.2.2.2.2.1
  refine lv_istore C.1 C.2.1 hd (zlv_has hl.2.1) (by rw [hl.1]; exact hk) rfl (fun ls' h' => kn _ _ _ _ _ _ _ _ (S.lok h3 (zlr_st1 C.2.2.2.2.2.2.2.2.2.2.1 (v := zI x) (w := .int y) hl ⟨y, rfl, h2⟩ hk h') (zst1_len _ _ _)))
theorem zs_istore_n {k : Fin 4} {x : Int} (C : zCx p l s m args meth c b0 Ev xs xl nL cc oc rt ini hh) (hd : decode cc pc = .ok (.istore_n k, 1)) (hk : (k : Nat) < ls.length) (kn : zAt p l e R s m args below meth c Q D b0 Ev nL c0 u0 w0 Mf (pc + 1) (zst1 (k : Nat) (zI x) ls) (st) (M)) : zAt p l e R s m args below meth c Q D b0 Ev nL c0 u0 w0 Mf (pc) (ls) (zI x :: st) (M) := by
  intro H locs cells slots ws tys lsM stM S
  obtain ⟨w, r, rfl, ⟨y, rfl, h2⟩, h3⟩ := S.2.2.2.2.2.2.1.cons
  have hl := S.2.2.2.2.2.1
  refine lv_istore_n C.1 C.2.1 hd rfl (zlv_has hl.2.1) (by rw [hl.1]; exact hk) rfl (fun ls' h' => kn _ _ _ _ _ _ _ _ (S.lok h3 (zlr_st1 C.2.2.2.2.2.2.2.2.2.2.1 (v := zI x) (w := .int y) hl ⟨y, rfl, h2⟩ hk h') (zst1_len _ _ _)))
theorem zs_lstore {k : Nat} {x : Int} (C : zCx p l s m args meth c b0 Ev xs xl nL cc oc rt ini hh) (hd : decode cc pc = .ok (.lstore k, 2)) (hk : k + 1 < ls.length) (kn : zAt p l e R s m args below meth c Q D b0 Ev nL c0 u0 w0 Mf (pc + 2) (zst2 k (zL x) ls) (st) (M)) : zAt p l e R s m args below meth c Q D b0 Ev nL c0 u0 w0 Mf (pc) (ls) (zL x :: st) (M) := by
  intro H locs cells slots ws tys lsM stM S
  obtain ⟨w, r, rfl, ⟨y, rfl, h2⟩, h3⟩ := S.2.2.2.2.2.2.1.cons
  have hl := S.2.2.2.2.2.1
  refine lv_lstore C.1 C.2.1 hd (zlv_has hl.2.1) (by rw [hl.1]; exact hk) rfl (fun ls' h' => kn _ _ _ _ _ _ _ _ (S.lok h3 (zlr_st2 C.2.2.2.2.2.2.2.2.2.2.1 (v := zL x) (w := .long y) hl ⟨y, rfl, h2⟩ hk h') (zst2_len _ _ _)))
theorem zs_lstore_n {k : Fin 4} {x : Int} (C : zCx p l s m args meth c b0 Ev xs xl nL cc oc rt ini hh) (hd : decode cc pc = .ok (.lstore_n k, 1)) (hk : (k : Nat) + 1 < ls.length) (kn : zAt p l e R s m args below meth c Q D b0 Ev nL c0 u0 w0 Mf (pc + 1) (zst2 (k : Nat) (zL x) ls) (st) (M)) : zAt p l e R s m args below meth c Q D b0 Ev nL c0 u0 w0 Mf (pc) (ls) (zL x :: st) (M) := by
  intro H locs cells slots ws tys lsM stM S
  obtain ⟨w, r, rfl, ⟨y, rfl, h2⟩, h3⟩ := S.2.2.2.2.2.2.1.cons
  have hl := S.2.2.2.2.2.1
  refine lv_lstore_n C.1 C.2.1 hd rfl (zlv_has hl.2.1) (by rw [hl.1]; exact hk) rfl (fun ls' h' => kn _ _ _ _ _ _ _ _ (S.lok h3 (zlr_st2 C.2.2.2.2.2.2.2.2.2.2.1 (v := zL x) (w := .long y) hl ⟨y, rfl, h2⟩ hk h') (zst2_len _ _ _)))
theorem zs_dstore {k : Nat} {x : UInt64} (C : zCx p l s m args meth c b0 Ev xs xl nL cc oc rt ini hh) (hd : decode cc pc = .ok (.dstore k, 2)) (hk : k + 1 < ls.length) (kn : zAt p l e R s m args below meth c Q D b0 Ev nL c0 u0 w0 Mf (pc + 2) (zst2 k (zD x) ls) (st) (M)) : zAt p l e R s m args below meth c Q D b0 Ev nL c0 u0 w0 Mf (pc) (ls) (zD x :: st) (M) := by
  intro H locs cells slots ws tys lsM stM S
  obtain ⟨w, r, rfl, h2, h3⟩ := S.2.2.2.2.2.2.1.cons
  have h2 : w = .double x := h2
  subst h2
  have hl := S.2.2.2.2.2.1
  refine lv_dstore C.1 C.2.1 hd (zlv_has hl.2.1) (by rw [hl.1]; exact hk) rfl (fun ls' h' => kn _ _ _ _ _ _ _ _ (S.lok h3 (zlr_st2 C.2.2.2.2.2.2.2.2.2.2.1 (v := zD x) (w := .double x) hl rfl hk h') (zst2_len _ _ _)))
theorem zs_astore {k : Nat} {v : zV} (C : zCx p l s m args meth c b0 Ev xs xl nL cc oc rt ini hh) (hd : decode cc pc = .ok (.astore k, 2)) (hq : zqr v) (hk : k < ls.length) (kn : zAt p l e R s m args below meth c Q D b0 Ev nL c0 u0 w0 Mf (pc + 2) (zst1 k v ls) (st) (M)) : zAt p l e R s m args below meth c Q D b0 Ev nL c0 u0 w0 Mf (pc) (ls) (v :: st) (M) := by
  intro H locs cells slots ws tys lsM stM S
  obtain ⟨w, r, rfl, h2, h3⟩ := S.2.2.2.2.2.2.1.cons
  have hl := S.2.2.2.2.2.1
  rcases zqr_or C.2.2.2.2.2.2.2.2.2.2.1 h2 hq with ⟨a, rfl⟩ | rfl
  · exact lv_astore C.1 C.2.1 hd (zlv_has hl.2.1) (by rw [hl.1]; exact hk) rfl (fun ls' h' => kn _ _ _ _ _ _ _ _ (S.lok h3 (zlr_st1 C.2.2.2.2.2.2.2.2.2.2.1 hl h2 hk h') (zst1_len _ _ _)))
  · exact lv_astoreN C.1 C.2.1 hd (zlv_has hl.2.1) (by rw [hl.1]; exact hk) rfl (fun ls' h' => kn _ _ _ _ _ _ _ _ (S.lok h3 (zlr_st1 C.2.2.2.2.2.2.2.2.2.2.1 hl h2 hk h') (zst1_len _ _ _)))
theorem zs_astore_n {k : Fin 4} {v : zV} (C : zCx p l s m args meth c b0 Ev xs xl nL cc oc rt ini hh) (hd : decode cc pc = .ok (.astore_n k, 1)) (hq : zqr v) (hk : (k : Nat) < ls.length) (kn : zAt p l e R s m args below meth c Q D b0 Ev nL c0 u0 w0 Mf (pc + 1) (zst1 (k : Nat) v ls) (st) (M)) : zAt p l e R s m args below meth c Q D b0 Ev nL c0 u0 w0 Mf (pc) (ls) (v :: st) (M) := by
  intro H locs cells slots ws tys lsM stM S
  obtain ⟨w, r, rfl, h2, h3⟩ := S.2.2.2.2.2.2.1.cons
  have hl := S.2.2.2.2.2.1
  rcases zqr_or C.2.2.2.2.2.2.2.2.2.2.1 h2 hq with ⟨a, rfl⟩ | rfl
  · exact lv_astore_n C.1 C.2.1 hd rfl (zlv_has hl.2.1) (by rw [hl.1]; exact hk) rfl (fun ls' h' => kn _ _ _ _ _ _ _ _ (S.lok h3 (zlr_st1 C.2.2.2.2.2.2.2.2.2.2.1 hl h2 hk h') (zst1_len _ _ _)))
  · exact lv_astore_nN C.1 C.2.1 hd rfl (zlv_has hl.2.1) (by rw [hl.1]; exact hk) rfl (fun ls' h' => kn _ _ _ _ _ _ _ _ (S.lok h3 (zlr_st1 C.2.2.2.2.2.2.2.2.2.2.1 hl h2 hk h') (zst1_len _ _ _)))
theorem zi_add (x y : Int32) : (x + y).toInt = wr (x.toInt + y.toInt) := by rw [Int32.toInt_add, ← wr_bmod]; try rfl
theorem zi_sub (x y : Int32) : (x - y).toInt = wr (x.toInt - y.toInt) := by rw [Int32.toInt_sub, ← wr_bmod]; try rfl
theorem zi_mul (x y : Int32) : (x * y).toInt = wr (x.toInt * y.toInt) := by rw [Int32.toInt_mul, ← wr_bmod]; try rfl
theorem zi_neg (x : Int32) : (-x).toInt = wr (-x.toInt) := by rw [Int32.toInt_neg, ← wr_bmod]; try rfl
theorem zi_div (x y : Int32) : (x / y).toInt = wr (x.toInt.tdiv y.toInt) := by rw [Int32.toInt_div, ← wr_bmod]; try rfl
theorem zl_add (x y : Int64) : (x + y).toInt = wl (x.toInt + y.toInt) := by rw [Int64.toInt_add, ← wl_bmod]; try rfl
theorem zl_sub (x y : Int64) : (x - y).toInt = wl (x.toInt - y.toInt) := by rw [Int64.toInt_sub, ← wl_bmod]; try rfl
theorem zl_mul (x y : Int64) : (x * y).toInt = wl (x.toInt * y.toInt) := by rw [Int64.toInt_mul, ← wl_bmod]; try rfl
theorem zi_iinc (x : Int32) (n : Int) : (x + Int32.ofInt n).toInt = wr (x.toInt + n) := by
  rw [zi_add, zi_ofInt]
  unfold wr
  omega
theorem zi_cmp (x y : Int64) : (lg_cmp x y).toInt = bCmp x.toInt y.toInt := by
  unfold lg_cmp bCmp
  by_cases h : x > y
  · rw [if_pos h, if_pos (Int64.lt_iff_toInt_lt.mp h)]; rfl
  · rw [if_neg h, if_neg (fun q => h (Int64.lt_iff_toInt_lt.mpr q))]
    by_cases h2 : x = y
    · rw [if_pos h2, if_pos (by rw [h2])]; rfl
    · rw [if_neg h2, if_neg (fun q => h2 (Int64.toInt_inj.mp q))]; rfl
theorem zs_iinc {k : Nat} {x n : Int} (C : zCx p l s m args meth c b0 Ev xs xl nL cc oc rt ini hh) (hd : decode cc pc = .ok (.iinc k n, 3)) (hl0 : ls[k]? = some (zI x)) (kn : zAt p l e R s m args below meth c Q D b0 Ev nL c0 u0 w0 Mf (pc + 3) (zst1 k (zI (wr (x + n))) ls) (st) (M)) : zAt p l e R s m args below meth c Q D b0 Ev nL c0 u0 w0 Mf (pc) (ls) (st) (M) := by
  intro H locs cells slots ws tys lsM stM S
  have hl := S.2.2.2.2.2.1
  obtain ⟨w, h1, y, rfl, h2⟩ := hl.at hl0 (by simp)
  have hk := (List.getElem?_eq_some_iff.mp hl0).1
  obtain ⟨j, hj⟩ := List.getElem?_of_mem (zlv_mem.mpr h1)
  exact lv_iinc C.1 C.2.1 hd (zlv_has hl.2.1) hj rfl (by rw [hl.1]; exact hk) rfl (fun ls' h' => kn _ _ _ _ _ _ _ _ (S.lok S.2.2.2.2.2.2.1 (zlr_st1 C.2.2.2.2.2.2.2.2.2.2.1 (v := zI (wr (x + n))) (w := .int (y + Int32.ofInt n)) hl ⟨_, rfl, by rw [zi_iinc, h2]⟩ hk h') (zst1_len _ _ _)))
theorem zs_dup {v : zV} (C : zCx p l s m args meth c b0 Ev xs xl nL cc oc rt ini hh) (hd : decode cc pc = .ok (.dup, 1)) (hv : zone v) (kn : zAt p l e R s m args below meth c Q D b0 Ev nL c0 u0 w0 Mf (pc + 1) (ls) (v :: v :: st) (M)) : zAt p l e R s m args below meth c Q D b0 Ev nL c0 u0 w0 Mf (pc) (ls) (v :: st) (M) := by
  intro H locs cells slots ws tys lsM stM S
  obtain ⟨w, r, rfl, h2, h3⟩ := S.2.2.2.2.2.2.1.cons
  exact lv_dup C.1 C.2.1 hd (zcat_one C.2.2.2.2.2.2.2.2.2.2.1 h2 hv) (kn _ _ _ _ _ _ _ _ (S.stk ⟨h2, h2, h3⟩))
theorem zs_pop {v : zV} (C : zCx p l s m args meth c b0 Ev xs xl nL cc oc rt ini hh) (hd : decode cc pc = .ok (.pop, 1)) (hv : zone v) (kn : zAt p l e R s m args below meth c Q D b0 Ev nL c0 u0 w0 Mf (pc + 1) (ls) (st) (M)) : zAt p l e R s m args below meth c Q D b0 Ev nL c0 u0 w0 Mf (pc) (ls) (v :: st) (M) := by
  intro H locs cells slots ws tys lsM stM S
  obtain ⟨w, r, rfl, h2, h3⟩ := S.2.2.2.2.2.2.1.cons
  exact lv_pop C.1 C.2.1 hd (zcat_one C.2.2.2.2.2.2.2.2.2.2.1 h2 hv) (kn _ _ _ _ _ _ _ _ (S.stk h3))
theorem zs_dup2 {v u : zV} (C : zCx p l s m args meth c b0 Ev xs xl nL cc oc rt ini hh) (hd : decode cc pc = .ok (.dup2, 1)) (hv : zone v) (hu : zone u) (kn : zAt p l e R s m args below meth c Q D b0 Ev nL c0 u0 w0 Mf (pc + 1) (ls) (v :: u :: v :: u :: st) (M)) : zAt p l e R s m args below meth c Q D b0 Ev nL c0 u0 w0 Mf (pc) (ls) (v :: u :: st) (M) := by
  intro H locs cells slots ws tys lsM stM S
  obtain ⟨w, r, rfl, h2, h3⟩ := S.2.2.2.2.2.2.1.cons
  obtain ⟨w', r, rfl, h4, h5⟩ := h3.cons
  exact lv_dup2_11 C.1 C.2.1 hd (zcat_one C.2.2.2.2.2.2.2.2.2.2.1 h2 hv) (zcat_one C.2.2.2.2.2.2.2.2.2.2.1 h4 hu) (kn _ _ _ _ _ _ _ _ (S.stk ⟨h2, h4, h2, h4, h5⟩))
theorem zs_iadd {a b : Int} (C : zCx p l s m args meth c b0 Ev xs xl nL cc oc rt ini hh) (hd : decode cc pc = .ok (.iadd, 1)) (kn : zAt p l e R s m args below meth c Q D b0 Ev nL c0 u0 w0 Mf (pc + 1) (ls) (zI (wr (a + b)) :: st) (M)) : zAt p l e R s m args below meth c Q D b0 Ev nL c0 u0 w0 Mf (pc) (ls) (zI b :: zI a :: st) (M) := by
  intro H locs cells slots ws tys lsM stM S
  obtain ⟨w, r, rfl, ⟨y, rfl, rfl⟩, h3⟩ := S.2.2.2.2.2.2.1.cons
  obtain ⟨w', r, rfl, ⟨x, rfl, rfl⟩, h5⟩ := h3.cons
  exact lv_iadd C.1 C.2.1 hd (kn _ _ _ _ _ _ _ _ (S.stk ⟨⟨_, rfl, zi_add x y⟩, h5⟩))
theorem zs_isub {a b : Int} (C : zCx p l s m args meth c b0 Ev xs xl nL cc oc rt ini hh) (hd : decode cc pc = .ok (.isub, 1)) (kn : zAt p l e R s m args below meth c Q D b0 Ev nL c0 u0 w0 Mf (pc + 1) (ls) (zI (wr (a - b)) :: st) (M)) : zAt p l e R s m args below meth c Q D b0 Ev nL c0 u0 w0 Mf (pc) (ls) (zI b :: zI a :: st) (M) := by
  intro H locs cells slots ws tys lsM stM S
  obtain ⟨w, r, rfl, ⟨y, rfl, rfl⟩, h3⟩ := S.2.2.2.2.2.2.1.cons
  obtain ⟨w', r, rfl, ⟨x, rfl, rfl⟩, h5⟩ := h3.cons
  exact lv_isub C.1 C.2.1 hd (kn _ _ _ _ _ _ _ _ (S.stk ⟨⟨_, rfl, zi_sub x y⟩, h5⟩))
theorem zs_imul {a b : Int} (C : zCx p l s m args meth c b0 Ev xs xl nL cc oc rt ini hh) (hd : decode cc pc = .ok (.imul, 1)) (kn : zAt p l e R s m args below meth c Q D b0 Ev nL c0 u0 w0 Mf (pc + 1) (ls) (zI (wr (a * b)) :: st) (M)) : zAt p l e R s m args below meth c Q D b0 Ev nL c0 u0 w0 Mf (pc) (ls) (zI b :: zI a :: st) (M) := by
  intro H locs cells slots ws tys lsM stM S
  obtain ⟨w, r, rfl, ⟨y, rfl, rfl⟩, h3⟩ := S.2.2.2.2.2.2.1.cons
  obtain ⟨w', r, rfl, ⟨x, rfl, rfl⟩, h5⟩ := h3.cons
  exact lv_imul C.1 C.2.1 hd (kn _ _ _ _ _ _ _ _ (S.stk ⟨⟨_, rfl, zi_mul x y⟩, h5⟩))
theorem zs_idiv {a b : Int} (C : zCx p l s m args meth c b0 Ev xs xl nL cc oc rt ini hh) (hd : decode cc pc = .ok (.idiv, 1)) (hb : b ≠ 0) (kn : zAt p l e R s m args below meth c Q D b0 Ev nL c0 u0 w0 Mf (pc + 1) (ls) (zI (wr (a.tdiv b)) :: st) (M)) : zAt p l e R s m args below meth c Q D b0 Ev nL c0 u0 w0 Mf (pc) (ls) (zI b :: zI a :: st) (M) := by
  intro H locs cells slots ws tys lsM stM S
  obtain ⟨w, r, rfl, ⟨y, rfl, rfl⟩, h3⟩ := S.2.2.2.2.2.2.1.cons
  obtain ⟨w', r, rfl, ⟨x, rfl, rfl⟩, h5⟩ := h3.cons
  exact lv_idiv C.1 C.2.1 hd (fun q => hb (by rw [q]; rfl)) (kn _ _ _ _ _ _ _ _ (S.stk ⟨⟨_, rfl, zi_div x y⟩, h5⟩))
theorem zs_irem {a b : Int} (C : zCx p l s m args meth c b0 Ev xs xl nL cc oc rt ini hh) (hd : decode cc pc = .ok (.irem, 1)) (hb : b ≠ 0) (kn : zAt p l e R s m args below meth c Q D b0 Ev nL c0 u0 w0 Mf (pc + 1) (ls) (zI (wr (a - wr (wr (a.tdiv b) * b))) :: st) (M)) : zAt p l e R s m args below meth c Q D b0 Ev nL c0 u0 w0 Mf (pc) (ls) (zI b :: zI a :: st) (M) := by
  intro H locs cells slots ws tys lsM stM S
  obtain ⟨w, r, rfl, ⟨y, rfl, rfl⟩, h3⟩ := S.2.2.2.2.2.2.1.cons
  obtain ⟨w', r, rfl, ⟨x, rfl, rfl⟩, h5⟩ := h3.cons
  exact lv_irem C.1 C.2.1 hd (fun q => hb (by rw [q]; rfl)) (kn _ _ _ _ _ _ _ _ (S.stk ⟨⟨_, rfl, by rw [zi_sub, zi_mul, zi_div]⟩, h5⟩))
theorem zs_iand {a b : Int} (C : zCx p l s m args meth c b0 Ev xs xl nL cc oc rt ini hh) (hd : decode cc pc = .ok (.iand, 1)) (kn : zAt p l e R s m args below meth c Q D b0 Ev nL c0 u0 w0 Mf (pc + 1) (ls) (zI (bAnd a b) :: st) (M)) : zAt p l e R s m args below meth c Q D b0 Ev nL c0 u0 w0 Mf (pc) (ls) (zI b :: zI a :: st) (M) := by
  intro H locs cells slots ws tys lsM stM S
  obtain ⟨w, r, rfl, ⟨y, rfl, rfl⟩, h3⟩ := S.2.2.2.2.2.2.1.cons
  obtain ⟨w', r, rfl, ⟨x, rfl, rfl⟩, h5⟩ := h3.cons
  exact lv_iand C.1 C.2.1 hd (kn _ _ _ _ _ _ _ _ (S.stk ⟨⟨_, rfl, by unfold bAnd; rw [zi_back, zi_back]⟩, h5⟩))
theorem zs_ior {a b : Int} (C : zCx p l s m args meth c b0 Ev xs xl nL cc oc rt ini hh) (hd : decode cc pc = .ok (.ior, 1)) (kn : zAt p l e R s m args below meth c Q D b0 Ev nL c0 u0 w0 Mf (pc + 1) (ls) (zI (bOr a b) :: st) (M)) : zAt p l e R s m args below meth c Q D b0 Ev nL c0 u0 w0 Mf (pc) (ls) (zI b :: zI a :: st) (M) := by
  intro H locs cells slots ws tys lsM stM S
  obtain ⟨w, r, rfl, ⟨y, rfl, rfl⟩, h3⟩ := S.2.2.2.2.2.2.1.cons
  obtain ⟨w', r, rfl, ⟨x, rfl, rfl⟩, h5⟩ := h3.cons
  exact lv_ior C.1 C.2.1 hd (kn _ _ _ _ _ _ _ _ (S.stk ⟨⟨_, rfl, by unfold bOr; rw [zi_back, zi_back]⟩, h5⟩))
theorem zs_ixor {a b : Int} (C : zCx p l s m args meth c b0 Ev xs xl nL cc oc rt ini hh) (hd : decode cc pc = .ok (.ixor, 1)) (kn : zAt p l e R s m args below meth c Q D b0 Ev nL c0 u0 w0 Mf (pc + 1) (ls) (zI (bXor a b) :: st) (M)) : zAt p l e R s m args below meth c Q D b0 Ev nL c0 u0 w0 Mf (pc) (ls) (zI b :: zI a :: st) (M) := by
  intro H locs cells slots ws tys lsM stM S
  obtain ⟨w, r, rfl, ⟨y, rfl, rfl⟩, h3⟩ := S.2.2.2.2.2.2.1.cons
  obtain ⟨w', r, rfl, ⟨x, rfl, rfl⟩, h5⟩ := h3.cons
  exact lv_ixor C.1 C.2.1 hd (kn _ _ _ _ _ _ _ _ (S.stk ⟨⟨_, rfl, by unfold bXor; rw [zi_back, zi_back]⟩, h5⟩))
theorem zs_ishl {a b : Int} (C : zCx p l s m args meth c b0 Ev xs xl nL cc oc rt ini hh) (hd : decode cc pc = .ok (.ishl, 1)) (kn : zAt p l e R s m args below meth c Q D b0 Ev nL c0 u0 w0 Mf (pc + 1) (ls) (zI (bShl a b) :: st) (M)) : zAt p l e R s m args below meth c Q D b0 Ev nL c0 u0 w0 Mf (pc) (ls) (zI b :: zI a :: st) (M) := by
  intro H locs cells slots ws tys lsM stM S
  obtain ⟨w, r, rfl, ⟨y, rfl, rfl⟩, h3⟩ := S.2.2.2.2.2.2.1.cons
  obtain ⟨w', r, rfl, ⟨x, rfl, rfl⟩, h5⟩ := h3.cons
  exact lv_ishl C.1 C.2.1 hd (kn _ _ _ _ _ _ _ _ (S.stk ⟨⟨_, rfl, by unfold bShl; rw [zi_back, zi_back]⟩, h5⟩))
theorem zs_ishr {a b : Int} (C : zCx p l s m args meth c b0 Ev xs xl nL cc oc rt ini hh) (hd : decode cc pc = .ok (.ishr, 1)) (kn : zAt p l e R s m args below meth c Q D b0 Ev nL c0 u0 w0 Mf (pc + 1) (ls) (zI (bShr a b) :: st) (M)) : zAt p l e R s m args below meth c Q D b0 Ev nL c0 u0 w0 Mf (pc) (ls) (zI b :: zI a :: st) (M) := by
  intro H locs cells slots ws tys lsM stM S
  obtain ⟨w, r, rfl, ⟨y, rfl, rfl⟩, h3⟩ := S.2.2.2.2.2.2.1.cons
  obtain ⟨w', r, rfl, ⟨x, rfl, rfl⟩, h5⟩ := h3.cons
  exact lv_ishr C.1 C.2.1 hd (kn _ _ _ _ _ _ _ _ (S.stk ⟨⟨_, rfl, by unfold bShr; rw [zi_back, zi_back]⟩, h5⟩))
theorem zs_iushr {a b : Int} (C : zCx p l s m args meth c b0 Ev xs xl nL cc oc rt ini hh) (hd : decode cc pc = .ok (.iushr, 1)) (kn : zAt p l e R s m args below meth c Q D b0 Ev nL c0 u0 w0 Mf (pc + 1) (ls) (zI (bUsh a b) :: st) (M)) : zAt p l e R s m args below meth c Q D b0 Ev nL c0 u0 w0 Mf (pc) (ls) (zI b :: zI a :: st) (M) := by
  intro H locs cells slots ws tys lsM stM S
  obtain ⟨w, r, rfl, ⟨y, rfl, rfl⟩, h3⟩ := S.2.2.2.2.2.2.1.cons
  obtain ⟨w', r, rfl, ⟨x, rfl, rfl⟩, h5⟩ := h3.cons
  exact lv_iushr C.1 C.2.1 hd rfl (kn _ _ _ _ _ _ _ _ (S.stk ⟨⟨_, rfl, by unfold bUsh; rw [zi_back, zi_back]⟩, h5⟩))
theorem zs_ladd {a b : Int} (C : zCx p l s m args meth c b0 Ev xs xl nL cc oc rt ini hh) (hd : decode cc pc = .ok (.ladd, 1)) (kn : zAt p l e R s m args below meth c Q D b0 Ev nL c0 u0 w0 Mf (pc + 1) (ls) (zL (wl (a + b)) :: st) (M)) : zAt p l e R s m args below meth c Q D b0 Ev nL c0 u0 w0 Mf (pc) (ls) (zL b :: zL a :: st) (M) := by
  intro H locs cells slots ws tys lsM stM S
  obtain ⟨w, r, rfl, ⟨y, rfl, rfl⟩, h3⟩ := S.2.2.2.2.2.2.1.cons
  obtain ⟨w', r, rfl, ⟨x, rfl, rfl⟩, h5⟩ := h3.cons
  exact lv_ladd C.1 C.2.1 hd (kn _ _ _ _ _ _ _ _ (S.stk ⟨⟨_, rfl, zl_add x y⟩, h5⟩))
theorem zs_lsub {a b : Int} (C : zCx p l s m args meth c b0 Ev xs xl nL cc oc rt ini hh) (hd : decode cc pc = .ok (.lsub, 1)) (kn : zAt p l e R s m args below meth c Q D b0 Ev nL c0 u0 w0 Mf (pc + 1) (ls) (zL (wl (a - b)) :: st) (M)) : zAt p l e R s m args below meth c Q D b0 Ev nL c0 u0 w0 Mf (pc) (ls) (zL b :: zL a :: st) (M) := by
  intro H locs cells slots ws tys lsM stM S
  obtain ⟨w, r, rfl, ⟨y, rfl, rfl⟩, h3⟩ := S.2.2.2.2.2.2.1.cons
  obtain ⟨w', r, rfl, ⟨x, rfl, rfl⟩, h5⟩ := h3.cons
  exact lv_lsub C.1 C.2.1 hd (kn _ _ _ _ _ _ _ _ (S.stk ⟨⟨_, rfl, zl_sub x y⟩, h5⟩))
theorem zs_lmul {a b : Int} (C : zCx p l s m args meth c b0 Ev xs xl nL cc oc rt ini hh) (hd : decode cc pc = .ok (.lmul, 1)) (kn : zAt p l e R s m args below meth c Q D b0 Ev nL c0 u0 w0 Mf (pc + 1) (ls) (zL (wl (a * b)) :: st) (M)) : zAt p l e R s m args below meth c Q D b0 Ev nL c0 u0 w0 Mf (pc) (ls) (zL b :: zL a :: st) (M) := by
  intro H locs cells slots ws tys lsM stM S
  obtain ⟨w, r, rfl, ⟨y, rfl, rfl⟩, h3⟩ := S.2.2.2.2.2.2.1.cons
  obtain ⟨w', r, rfl, ⟨x, rfl, rfl⟩, h5⟩ := h3.cons
  exact lv_lmul C.1 C.2.1 hd (kn _ _ _ _ _ _ _ _ (S.stk ⟨⟨_, rfl, zl_mul x y⟩, h5⟩))
theorem zs_lcmp {a b : Int} (C : zCx p l s m args meth c b0 Ev xs xl nL cc oc rt ini hh) (hd : decode cc pc = .ok (.lcmp, 1)) (kn : zAt p l e R s m args below meth c Q D b0 Ev nL c0 u0 w0 Mf (pc + 1) (ls) (zI (bCmp a b) :: st) (M)) : zAt p l e R s m args below meth c Q D b0 Ev nL c0 u0 w0 Mf (pc) (ls) (zL b :: zL a :: st) (M) := by
  intro H locs cells slots ws tys lsM stM S
  obtain ⟨w, r, rfl, ⟨y, rfl, rfl⟩, h3⟩ := S.2.2.2.2.2.2.1.cons
  obtain ⟨w', r, rfl, ⟨x, rfl, rfl⟩, h5⟩ := h3.cons
  exact W.lcmp C.1 C.2.1 hd (kn _ _ _ _ _ _ _ _ (S.stk ⟨⟨_, rfl, zi_cmp x y⟩, h5⟩))
theorem zs_ineg {a : Int} (C : zCx p l s m args meth c b0 Ev xs xl nL cc oc rt ini hh) (hd : decode cc pc = .ok (.ineg, 1)) (kn : zAt p l e R s m args below meth c Q D b0 Ev nL c0 u0 w0 Mf (pc + 1) (ls) (zI (wr (-a)) :: st) (M)) : zAt p l e R s m args below meth c Q D b0 Ev nL c0 u0 w0 Mf (pc) (ls) (zI a :: st) (M) := by
  intro H locs cells slots ws tys lsM stM S
  obtain ⟨w, r, rfl, ⟨x, rfl, rfl⟩, h5⟩ := S.2.2.2.2.2.2.1.cons
  exact lv_ineg C.1 C.2.1 hd (kn _ _ _ _ _ _ _ _ (S.stk ⟨⟨_, rfl, zi_neg x⟩, h5⟩))
theorem zs_i2l {a : Int} (C : zCx p l s m args meth c b0 Ev xs xl nL cc oc rt ini hh) (hd : decode cc pc = .ok (.i2l, 1)) (kn : zAt p l e R s m args below meth c Q D b0 Ev nL c0 u0 w0 Mf (pc + 1) (ls) (zL a :: st) (M)) : zAt p l e R s m args below meth c Q D b0 Ev nL c0 u0 w0 Mf (pc) (ls) (zI a :: st) (M) := by
  intro H locs cells slots ws tys lsM stM S
  obtain ⟨w, r, rfl, ⟨x, rfl, rfl⟩, h5⟩ := S.2.2.2.2.2.2.1.cons
  exact lv_i2l C.1 C.2.1 hd rfl (kn _ _ _ _ _ _ _ _ (S.stk ⟨⟨_, rfl, Int32.toInt_toInt64 x⟩, h5⟩))
theorem zs_i2c {a : Int} (C : zCx p l s m args meth c b0 Ev xs xl nL cc oc rt ini hh) (hd : decode cc pc = .ok (.i2c, 1)) (kn : zAt p l e R s m args below meth c Q D b0 Ev nL c0 u0 w0 Mf (pc + 1) (ls) (zI (bI2c a) :: st) (M)) : zAt p l e R s m args below meth c Q D b0 Ev nL c0 u0 w0 Mf (pc) (ls) (zI a :: st) (M) := by
  intro H locs cells slots ws tys lsM stM S
  obtain ⟨w, r, rfl, ⟨x, rfl, rfl⟩, h5⟩ := S.2.2.2.2.2.2.1.cons
  exact lv_i2c C.1 C.2.1 hd rfl (kn _ _ _ _ _ _ _ _ (S.stk ⟨⟨_, rfl, by unfold bI2c; rw [zi_back]⟩, h5⟩))
theorem zs_i2b {a : Int} (C : zCx p l s m args meth c b0 Ev xs xl nL cc oc rt ini hh) (hd : decode cc pc = .ok (.i2b, 1)) (kn : zAt p l e R s m args below meth c Q D b0 Ev nL c0 u0 w0 Mf (pc + 1) (ls) (zI (bI2b a) :: st) (M)) : zAt p l e R s m args below meth c Q D b0 Ev nL c0 u0 w0 Mf (pc) (ls) (zI a :: st) (M) := by
  intro H locs cells slots ws tys lsM stM S
  obtain ⟨w, r, rfl, ⟨x, rfl, rfl⟩, h5⟩ := S.2.2.2.2.2.2.1.cons
  exact lv_i2b C.1 C.2.1 hd rfl (kn _ _ _ _ _ _ _ _ (S.stk ⟨⟨_, rfl, by unfold bI2b; rw [zi_back]⟩, h5⟩))
theorem zs_i2d {a : Int} (C : zCx p l s m args meth c b0 Ev xs xl nL cc oc rt ini hh) (hd : decode cc pc = .ok (.i2d, 1)) (kn : zAt p l e R s m args below meth c Q D b0 Ev nL c0 u0 w0 Mf (pc + 1) (ls) (zD (FP.i2d (Int32.ofInt a)) :: st) (M)) : zAt p l e R s m args below meth c Q D b0 Ev nL c0 u0 w0 Mf (pc) (ls) (zI a :: st) (M) := by
  intro H locs cells slots ws tys lsM stM S
  obtain ⟨w, r, rfl, ⟨x, rfl, rfl⟩, h5⟩ := S.2.2.2.2.2.2.1.cons
  exact lv_i2d C.1 C.2.1 hd (kn _ _ _ _ _ _ _ _ (S.stk ⟨by show _ = _; rw [zi_back], h5⟩))
theorem zs_ddiv {a b : UInt64} (C : zCx p l s m args meth c b0 Ev xs xl nL cc oc rt ini hh) (hd : decode cc pc = .ok (.ddiv, 1)) (hn : vf_n64 (FP.ddiv a b)) (kn : zAt p l e R s m args below meth c Q D b0 Ev nL c0 u0 w0 Mf (pc + 1) (ls) (zD (FP.ddiv a b) :: st) (M)) : zAt p l e R s m args below meth c Q D b0 Ev nL c0 u0 w0 Mf (pc) (ls) (zD b :: zD a :: st) (M) := by
  intro H locs cells slots ws tys lsM stM S
  obtain ⟨w, r, rfl, h2, h3⟩ := S.2.2.2.2.2.2.1.cons
  obtain ⟨w', r, rfl, h4, h5⟩ := h3.cons
  have h2 : w = .double b := h2
  have h4 : w' = .double a := h4
  subst h2; subst h4
  exact lv_ddiv C.1 C.2.1 hd hn (kn _ _ _ _ _ _ _ _ (S.stk ⟨rfl, h5⟩))
theorem zs_dcmp {a b : UInt64} {op : ClassFile.CmpOp} (C : zCx p l s m args meth c b0 Ev xs xl nL cc oc rt ini hh) (hd : decode cc pc = .ok (.dcmp op, 1)) (kn : zAt p l e R s m args below meth c Q D b0 Ev nL c0 u0 w0 Mf (pc + 1) (ls) (zI (bDcmp a b op) :: st) (M)) : zAt p l e R s m args below meth c Q D b0 Ev nL c0 u0 w0 Mf (pc) (ls) (zD b :: zD a :: st) (M) := by
  intro H locs cells slots ws tys lsM stM S
  obtain ⟨w, r, rfl, h2, h3⟩ := S.2.2.2.2.2.2.1.cons
  obtain ⟨w', r, rfl, h4, h5⟩ := h3.cons
  have h2 : w = .double b := h2
  have h4 : w' = .double a := h4
  subst h2; subst h4
  exact lv_dcmp C.1 C.2.1 hd (kn _ _ _ _ _ _ _ _ (S.stk ⟨⟨_, rfl, rfl⟩, h5⟩))
theorem zs_if {a off : Int} {t : Nat} {cd : ClassFile.Cond} (C : zCx p l s m args meth c b0 Ev xs xl nL cc oc rt ini hh) (hd : decode cc pc = .ok (.ifCond cd off, 3)) (ht : (pc : Int) + off = t) (k1 : zcnd cd a 0 → zAt p l e R s m args below meth c Q D b0 Ev nL c0 u0 w0 Mf (t) (ls) (st) (M)) (k2 : ¬ zcnd cd a 0 → zAt p l e R s m args below meth c Q D b0 Ev nL c0 u0 w0 Mf (pc + 3) (ls) (st) (M)) : zAt p l e R s m args below meth c Q D b0 Ev nL c0 u0 w0 Mf (pc) (ls) (zI a :: st) (M) := by
  intro H locs cells slots ws tys lsM stM S
  obtain ⟨w, r, rfl, ⟨x, rfl, rfl⟩, h5⟩ := S.2.2.2.2.2.2.1.cons
  cases cd
  · exact lv_if_eq C.1 C.2.1 hd ht (fun q => k1 ((show x = 0 ↔ x.toInt = 0 from Int32.toInt_inj.symm).mp q) _ _ _ _ _ _ _ _ (S.stk h5)) (fun q => k2 (fun z => q ((show x = 0 ↔ x.toInt = 0 from Int32.toInt_inj.symm).mpr z)) _ _ _ _ _ _ _ _ (S.stk h5))
  · exact lv_if_ne C.1 C.2.1 hd ht (fun q => k1 ((show ¬ x = 0 ↔ ¬ x.toInt = 0 from not_congr Int32.toInt_inj.symm).mp q) _ _ _ _ _ _ _ _ (S.stk h5)) (fun q => k2 (fun z => ((show ¬ x = 0 ↔ ¬ x.toInt = 0 from not_congr Int32.toInt_inj.symm).mpr z) q) _ _ _ _ _ _ _ _ (S.stk h5))
  · exact lv_if_lt C.1 C.2.1 hd ht (fun q => k1 ((show x < 0 ↔ x.toInt < 0 from Int32.lt_iff_toInt_lt).mp q) _ _ _ _ _ _ _ _ (S.stk h5)) (fun q => k2 (fun z => q ((show x < 0 ↔ x.toInt < 0 from Int32.lt_iff_toInt_lt).mpr z)) _ _ _ _ _ _ _ _ (S.stk h5))
  · exact lv_if_ge C.1 C.2.1 hd ht (fun q => k1 ((show (0 : Int32) ≤ x ↔ 0 ≤ x.toInt from Int32.le_iff_toInt_le).mp q) _ _ _ _ _ _ _ _ (S.stk h5)) (fun q => k2 (fun z => q ((show (0 : Int32) ≤ x ↔ 0 ≤ x.toInt from Int32.le_iff_toInt_le).mpr z)) _ _ _ _ _ _ _ _ (S.stk h5))
  · exact lv_if_gt C.1 C.2.1 hd ht (fun q => k1 ((show (0 : Int32) < x ↔ 0 < x.toInt from Int32.lt_iff_toInt_lt).mp q) _ _ _ _ _ _ _ _ (S.stk h5)) (fun q => k2 (fun z => q ((show (0 : Int32) < x ↔ 0 < x.toInt from Int32.lt_iff_toInt_lt).mpr z)) _ _ _ _ _ _ _ _ (S.stk h5))
  · exact lv_if_le C.1 C.2.1 hd ht (fun q => k1 ((show x ≤ 0 ↔ x.toInt ≤ 0 from Int32.le_iff_toInt_le).mp q) _ _ _ _ _ _ _ _ (S.stk h5)) (fun q => k2 (fun z => q ((show x ≤ 0 ↔ x.toInt ≤ 0 from Int32.le_iff_toInt_le).mpr z)) _ _ _ _ _ _ _ _ (S.stk h5))
theorem zs_icmp {a b off : Int} {t : Nat} {cd : ClassFile.Cond} (C : zCx p l s m args meth c b0 Ev xs xl nL cc oc rt ini hh) (hd : decode cc pc = .ok (.if_icmp cd off, 3)) (ht : (pc : Int) + off = t) (k1 : zcnd cd a b → zAt p l e R s m args below meth c Q D b0 Ev nL c0 u0 w0 Mf (t) (ls) (st) (M)) (k2 : ¬ zcnd cd a b → zAt p l e R s m args below meth c Q D b0 Ev nL c0 u0 w0 Mf (pc + 3) (ls) (st) (M)) : zAt p l e R s m args below meth c Q D b0 Ev nL c0 u0 w0 Mf (pc) (ls) (zI b :: zI a :: st) (M) := by
  intro H locs cells slots ws tys lsM stM S
  obtain ⟨w, r, rfl, ⟨y, rfl, rfl⟩, h3⟩ := S.2.2.2.2.2.2.1.cons
  obtain ⟨w', r, rfl, ⟨x, rfl, rfl⟩, h5⟩ := h3.cons
  cases cd
  · exact lv_icmp_eq C.1 C.2.1 hd ht (fun q => k1 (Int32.toInt_inj.symm.mp q) _ _ _ _ _ _ _ _ (S.stk h5)) (fun q => k2 (fun z => q (Int32.toInt_inj.symm.mpr z)) _ _ _ _ _ _ _ _ (S.stk h5))
  · exact lv_icmp_ne C.1 C.2.1 hd ht (fun q => k1 ((not_congr Int32.toInt_inj.symm).mp q) _ _ _ _ _ _ _ _ (S.stk h5)) (fun q => k2 (fun z => ((not_congr Int32.toInt_inj.symm).mpr z) q) _ _ _ _ _ _ _ _ (S.stk h5))
  · exact lv_icmp_lt C.1 C.2.1 hd ht (fun q => k1 (Int32.lt_iff_toInt_lt.mp q) _ _ _ _ _ _ _ _ (S.stk h5)) (fun q => k2 (fun z => q (Int32.lt_iff_toInt_lt.mpr z)) _ _ _ _ _ _ _ _ (S.stk h5))
  · exact lv_icmp_ge C.1 C.2.1 hd ht (fun q => k1 (Int32.le_iff_toInt_le.mp q) _ _ _ _ _ _ _ _ (S.stk h5)) (fun q => k2 (fun z => q (Int32.le_iff_toInt_le.mpr z)) _ _ _ _ _ _ _ _ (S.stk h5))
  · exact lv_icmp_gt C.1 C.2.1 hd ht (fun q => k1 (Int32.lt_iff_toInt_lt.mp q) _ _ _ _ _ _ _ _ (S.stk h5)) (fun q => k2 (fun z => q (Int32.lt_iff_toInt_lt.mpr z)) _ _ _ _ _ _ _ _ (S.stk h5))
  · exact lv_icmp_le C.1 C.2.1 hd ht (fun q => k1 (Int32.le_iff_toInt_le.mp q) _ _ _ _ _ _ _ _ (S.stk h5)) (fun q => k2 (fun z => q (Int32.le_iff_toInt_le.mpr z)) _ _ _ _ _ _ _ _ (S.stk h5))
theorem zs_ifnull {a : Nat} {off : Int} {t : Nat} (C : zCx p l s m args meth c b0 Ev xs xl nL cc oc rt ini hh) (hd : decode cc pc = .ok (.ifnull off, 3)) (ht : (pc : Int) + off = t) (k1 : a = 0 → zAt p l e R s m args below meth c Q D b0 Ev nL c0 u0 w0 Mf (t) (ls) (st) (M)) (k2 : a ≠ 0 → zAt p l e R s m args below meth c Q D b0 Ev nL c0 u0 w0 Mf (pc + 3) (ls) (st) (M)) : zAt p l e R s m args below meth c Q D b0 Ev nL c0 u0 w0 Mf (pc) (ls) (zR a :: st) (M) := by
  intro H locs cells slots ws tys lsM stM S
  obtain ⟨w, r, rfl, h2, h5⟩ := S.2.2.2.2.2.2.1.cons
  rcases h2 with ⟨h2, rfl⟩ | ⟨i, q, h2, -, rfl⟩
  · exact lv_ifnullN C.1 C.2.1 hd ht (k1 h2 _ _ _ _ _ _ _ _ (S.stk h5))
  · exact lv_ifnull C.1 C.2.1 hd (k2 (by omega) _ _ _ _ _ _ _ _ (S.stk h5))
theorem zs_ifnonnull {a : Nat} {off : Int} {t : Nat} (C : zCx p l s m args meth c b0 Ev xs xl nL cc oc rt ini hh) (hd : decode cc pc = .ok (.ifnonnull off, 3)) (ht : (pc : Int) + off = t) (k1 : a ≠ 0 → zAt p l e R s m args below meth c Q D b0 Ev nL c0 u0 w0 Mf (t) (ls) (st) (M)) (k2 : ¬ a ≠ 0 → zAt p l e R s m args below meth c Q D b0 Ev nL c0 u0 w0 Mf (pc + 3) (ls) (st) (M)) : zAt p l e R s m args below meth c Q D b0 Ev nL c0 u0 w0 Mf (pc) (ls) (zR a :: st) (M) := by
  intro H locs cells slots ws tys lsM stM S
  obtain ⟨w, r, rfl, h2, h5⟩ := S.2.2.2.2.2.2.1.cons
  rcases h2 with ⟨h2, rfl⟩ | ⟨i, q, h2, -, rfl⟩
  · exact lv_ifnonnullN C.1 C.2.1 hd (k2 (by omega) _ _ _ _ _ _ _ _ (S.stk h5))
  · exact lv_ifnonnull C.1 C.2.1 hd ht (k1 (by omega) _ _ _ _ _ _ _ _ (S.stk h5))
theorem zs_goto {off : Int} {t : Nat} (C : zCx p l s m args meth c b0 Ev xs xl nL cc oc rt ini hh) (hd : decode cc pc = .ok (.goto off, 3)) (ht : (pc : Int) + off = t) (k1 : zAt p l e R s m args below meth c Q D b0 Ev nL c0 u0 w0 Mf (t) (ls) (st) (M)) : zAt p l e R s m args below meth c Q D b0 Ev nL c0 u0 w0 Mf (pc) (ls) (st) (M) := by
  intro H locs cells slots ws tys lsM stM S
  exact lv_goto C.1 C.2.1 hd ht (k1 _ _ _ _ _ _ _ _ S)
theorem zs_tabOut {a d lo hi : Int} {offs : Array Int} {len : Nat} {t : Nat} (C : zCx p l s m args meth c b0 Ev xs xl nL cc oc rt ini hh) (hd : decode cc pc = .ok (.tableswitch d lo hi offs, len)) (h : a < lo ∨ hi < a) (ht : (pc : Int) + d = t) (k1 : zAt p l e R s m args below meth c Q D b0 Ev nL c0 u0 w0 Mf (t) (ls) (st) (M)) : zAt p l e R s m args below meth c Q D b0 Ev nL c0 u0 w0 Mf (pc) (ls) (zI a :: st) (M) := by
  intro H locs cells slots ws tys lsM stM S
  obtain ⟨w, r, rfl, ⟨x, rfl, rfl⟩, h5⟩ := S.2.2.2.2.2.2.1.cons
  exact lv_tableOut C.1 C.2.1 hd h ht (k1 _ _ _ _ _ _ _ _ (S.stk h5))
theorem zs_tabIn {a d lo hi off : Int} {offs : Array Int} {len : Nat} {t : Nat} (C : zCx p l s m args meth c b0 Ev xs xl nL cc oc rt ini hh) (hd : decode cc pc = .ok (.tableswitch d lo hi offs, len)) (h : ¬ (a < lo ∨ hi < a)) (ho : offs[(a - lo).toNat]? = some off) (ht : (pc : Int) + off = t) (k1 : zAt p l e R s m args below meth c Q D b0 Ev nL c0 u0 w0 Mf (t) (ls) (st) (M)) : zAt p l e R s m args below meth c Q D b0 Ev nL c0 u0 w0 Mf (pc) (ls) (zI a :: st) (M) := by
  intro H locs cells slots ws tys lsM stM S
  obtain ⟨w, r, rfl, ⟨x, rfl, rfl⟩, h5⟩ := S.2.2.2.2.2.2.1.cons
  exact lv_tableIn C.1 C.2.1 hd (fun q => h (Or.inl q)) (fun q => h (Or.inr q)) ho ht (k1 _ _ _ _ _ _ _ _ (S.stk h5))
theorem zs_lookup {a d : Int} {ps : Array (Int × Int)} {len : Nat} {t : Nat} (C : zCx p l s m args meth c b0 Ev xs xl nL cc oc rt ini hh) (hd : decode cc pc = .ok (.lookupswitch d ps, len)) (hp : (ps.toList.zip (ps.toList.drop 1)).all (fun (a, next) => a.1 < next.1) = true) (ht : (pc : Int) + Op.lookupswitch.offset ps.toList d a = t) (k1 : zAt p l e R s m args below meth c Q D b0 Ev nL c0 u0 w0 Mf (t) (ls) (st) (M)) : zAt p l e R s m args below meth c Q D b0 Ev nL c0 u0 w0 Mf (pc) (ls) (zI a :: st) (M) := by
  intro H locs cells slots ws tys lsM stM S
  obtain ⟨w, r, rfl, ⟨x, rfl, rfl⟩, h5⟩ := S.2.2.2.2.2.2.1.cons
  exact lv_lookup C.1 C.2.1 hd hp rfl ht (k1 _ _ _ _ _ _ _ _ (S.stk h5))
end ZROW
