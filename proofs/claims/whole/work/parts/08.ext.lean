/-! THE MACHINE DOES WHAT THE PLAIN MACHINE DOES, an instruction each -/
def zT0 : List Jvm.Cond := lw_tbl.filter goodWord
def zng (w : Jvm.Cond) : Bool := match w with
  | .castable .. => true
  | .declares _ => true
  | .fieldLinkNest .. => true
  | .methodLinkNest .. => true
  | _ => false
def zT1 : List Jvm.Cond := lw_tbl.filter zng
def zxn (E : Nat) : String := match E with
  | 0 => "java/lang/IllegalStateException"
  | 1 => "java/lang/IllegalArgumentException"
  | _ => "java/lang/IndexOutOfBoundsException"
def zxs : List String := ["java/lang/RuntimeException", "java/lang/Exception"]
def zSD : List (Nat × Nat × String × String × String × zV) := [(14, 38, "java/lang/String", "COMPACT_STRINGS", "Z", zI 1), (14, 1053, "jdk/internal/util/Preconditions", "SIOOBE_FORMATTER", "Ljava/util/function/BiFunction;", zE 8), (12, 104, "BendYardModel", "DEEDS", "[Ljava/lang/String;", zE 1), (12, 112, "BendYardModel", "FRAMES", "[Ljava/lang/String;", zE 2), (12, 115, "BendYardModel", "WOODS", "[Ljava/lang/String;", zE 3), (12, 118, "BendYardModel", "NUMBERS", "[I", zE 5), (12, 156, "BendYardModel", "LOW", "[I", zE 6), (12, 159, "BendYardModel", "HIGH", "[I", zE 7), (11, 218, "BendYardModel", "STIFF", "[I", zE 4)]
/-- what was there before the law began, and stays -/
def zXt (Ev : Nat → Value) (xs : Nat → Int) (xl : Nat) (A : Nat → Prop) (U : State) (H : Heap) : Prop :=
  (∀ k : Nat, zXk k = 1 → ∃ (t : Nat) (f : Nat → Int32), Ev k = .ref t ∧ va_T .int t (zXN xl k) (fun j => .int (f j)) A U H ∧ ∀ j : Nat, j < zXN xl k → (f j).toInt = zXI xs k j) ∧
  (∀ k : Nat, zXk k = 2 → ∃ (t : Nat) (f : Nat → Int32), Ev k = .ref t ∧ va_T .byte t (zXN xl k) (fun j => .int (f j)) A U H ∧ ∀ j : Nat, j < zXN xl k → (f j).toInt = zXI xs k j) ∧
  (∀ k : Nat, zXk k = 3 → ∃ t : Nat, Ev k = .ref t ∧ va_T (.object "java/lang/String") t (zXN xl k) (fun j => Ev (zXQ k j)) A U H) ∧
  (∀ q ∈ zSD, ∃ w : Value, zvr Ev [] q.2.2.2.2.2 w ∧ va_Z q.2.2.1 q.2.2.2.1 q.2.2.2.2.1 w A U H) ∧
  (∀ i : Nat, i < zSN → ∃ q : Nat, Ev (20 + i) = .ref q ∧ va_OF "java/lang/String" "value" "[B" (Ev (120 + i)) q A U H ∧ va_OF "java/lang/String" "coder" "B" (.int 0) q A U H ∧ va_O "java/lang/String" q A U H ∧ ∃ tx : String, vk_R (zcn (zSC.getD i (0, 0, [])).1) (zSC.getD i (0, 0, [])).2.1 tx q U) ∧
  (∀ w ∈ zT1, va_Nw w U) ∧
  ((∀ k : Nat, zaok k = true → va_AO (zcn k) U) ∧ (Cond.arrayOver (.array .int)).before #[] U = true ∧ ∃ cy : ClassId, U.vm.findClass ("[" ++ FieldType.int.toString) = some cy ∧ ArrOfT U cy .int ∧ va_RA U cy .int) ∧
  (vx_Zq Bundle.tN "UNASSIGNED_STACK" Bundle.steD A U H ∧ vx_Zq Bundle.tN "SUPPRESSED_SENTINEL" Bundle.listD A U H) ∧
  (∀ q ∈ zYL, ∃ (tx : String) (sa : Nat), vk_R (zcn q.1) q.2.2.1 tx sa U) ∧
  (∀ i j : Nat, i < 3 → j < 3 → i ≠ j → va_Nc (zxn i) (zxn j) U)
theorem zXt.mv {Ev : Nat → Value} {xs : Nat → Int} {xl : Nat} {b0 : Nat} {s U : State} {H H1 : Heap} (h : zXt Ev xs xl (fun q => b0 ≤ q) s H) (hW : s.WarmedH U.vm) (hb : b0 ≤ H.size) (hq : ∀ q : Nat, q < b0 → H1[q]? = H[q]?) : zXt Ev xs xl (fun q => b0 ≤ q) U H1 := by
  have hv := hW.alike
  have hk : ∀ a : Nat, a < H.size → ¬ b0 ≤ a → H1[a]? = H[a]? := fun a _ h2 => hq a (Nat.not_le.mp h2)
  obtain ⟨h1, h2, h3, h4, h5, h6, h7, h8, h9, h10⟩ := h
  refine ⟨fun k hk1 => ?_, fun k hk1 => ?_, fun k hk1 => ?_, fun q hq1 => ?_, fun i hi => ?_, fun w hw => ?_, ?_, ?_, fun q hq1 => ?_, fun i j g1 g2 g3 => (h10 i j g1 g2 g3).moved hv⟩
  · obtain ⟨t, f, e1, e2, e3⟩ := h1 k hk1
    exact ⟨t, f, e1, (e2.moved hv).kept hk, e3⟩
  · obtain ⟨t, f, e1, e2, e3⟩ := h2 k hk1
    exact ⟨t, f, e1, (e2.moved hv).kept hk, e3⟩
  · obtain ⟨t, e1, e2⟩ := h3 k hk1
    exact ⟨t, e1, (e2.moved hv).kept hk⟩
  · obtain ⟨w, e1, e2⟩ := h4 q hq1
    exact ⟨w, e1, (va_Z.moved hv e2).kept hk⟩
  · obtain ⟨q, e1, e2, e3, e4, tx, e5⟩ := h5 i hi
    exact ⟨q, e1, (va_OF.moved hv e2).kept hk, (va_OF.moved hv e3).kept hk, (va_O.moved hv e4).kept hk, tx, e5.warm hW⟩
  · have hz := h6 w hw
    have hg := (List.mem_filter.mp hw).2
    cases w <;> first | exact hz.warmC hW | exact hz.warmD hW | exact hz.warmF hW | exact hz.warmM hW | (exact absurd hg (by simp [zng]))
  · obtain ⟨g1, g2, cy, g3, g4, g5⟩ := h7
    refine ⟨fun k hk1 => (g1 k hk1).moved hv, over_moved hv g2, cy, by rw [hv.findClass]; exact g3, arrOfT_moved hv g4, va_RA.moved hv g5⟩
  · exact ⟨(vx_Zq.moved hv h8.1).kept hk, (vx_Zq.moved hv h8.2).kept hk⟩
  · obtain ⟨tx, sa, e1⟩ := h9 q hq1
    exact ⟨tx, sa, e1.warm hW⟩
