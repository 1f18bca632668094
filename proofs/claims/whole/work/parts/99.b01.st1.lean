/-! the law's start: what the statement gives of it -/
def nwL : List Jvm.Cond := flatC (Jvm.Cond.and given_1 narrow_1)
def zsT (i : Nat) : Jvm.Term := Jvm.Term.string (zcn (zSC.getD i (0, 0, [])).1) (zSC.getD i (0, 0, [])).2.1
def zsV (i : Nat) : Jvm.Term := Jvm.Term.field (zsT i) "java/lang/String" "value" "[B"
def zsW (i : Nat) : List Jvm.Cond := [.exactly (zsT i) "java/lang/String", .eq (.field (zsT i) "java/lang/String" "coder" "B") (.int 0), .arrayOf (zsV i) .byte, .eq (.length (zsV i)) (.int (Int32.ofNat (zSTR i).length))] ++ (List.range (zSTR i).length).map (fun j => .eq (.elem (zsV i) (.int (Int32.ofNat j))) (.int (Int32.ofInt ((zSTR i).getD j 0))))
def zsPl : List Nat := [259, 305, 333, 354, 360, 367, 375, 380, 386, 1024, 1029, 1034, 1043, 1049, 1057, 1065, 1072, 1079, 1087, 1095, 1103, 1110, 1117, 1126, 1133, 1141, 1150, 1157, 1164, 1173]
set_option maxRecDepth 100000 in
theorem zsW_all : (List.range 30).all (fun i => decide ((nwL.drop (zsPl.getD i 0)).take (4 + (zSTR i).length) = zsW i)) = true := by decide +kernel
/-- the law's rows of ints and of strings -/
def zaN (k : Nat) : String := ["", "DEEDS", "FRAMES", "WOODS", "STIFF", "NUMBERS", "LOW", "HIGH"].getD k ""
def zaD (k : Nat) : String := if k ≤ 3 then "[Ljava/lang/String;" else "[I"
def zaS (k : Nat) : Jvm.Term := Jvm.Term.static "BendYardModel" (zaN k) (zaD k)
def zaL (k : Nat) : Nat := if k ≤ 3 then (zXs k).length else (zXc k).length
def zaW (k : Nat) : List Jvm.Cond := [.arrayOf (zaS k) (if k ≤ 3 then .object "java/lang/String" else .int), .eq (.length (zaS k)) (.int (Int32.ofNat (zaL k)))] ++ (List.range (zaL k)).map (fun j => .eq (.elem (zaS k) (.int (Int32.ofNat j))) (if k ≤ 3 then zsT (zXQ k j - 20) else .int (Int32.ofInt ((zXc k).getD j 0))))
def zaP : List Nat := [0, 12, 23, 31, 71, 38, 49, 60]
set_option maxRecDepth 100000 in
theorem zaW_all : (List.range 7).all (fun i => decide ((nwL.drop (zaP.getD (i + 1) 0)).take (2 + zaL (i + 1)) = zaW (i + 1))) = true := by decide +kernel
set_option maxRecDepth 100000 in
theorem nw_one : nwL[4]? = some (.isRef (.static "java/lang/Throwable" "UNASSIGNED_STACK" "[Ljava/lang/StackTraceElement;")) ∧ nwL[5]? = some (.isRef (.static "java/lang/Throwable" "SUPPRESSED_SENTINEL" "Ljava/util/List;")) ∧ nwL[6]? = some (.eq (.static "java/lang/String" "COMPACT_STRINGS" "Z") (.int 1)) ∧ nwL[7]? = some (.isRef (.static "jdk/internal/util/Preconditions" "SIOOBE_FORMATTER" "Ljava/util/function/BiFunction;")) := by decide +kernel
set_option maxRecDepth 100000 in
theorem nw_cast : nwL[89]? = some (.not (.castable (zxn 1) (zxn 0))) ∧ nwL[90]? = some (.not (.castable (zxn 2) (zxn 0))) ∧ nwL[104]? = some (.not (.castable (zxn 0) (zxn 1))) ∧ nwL[105]? = some (.not (.castable (zxn 2) (zxn 1))) ∧ nwL[119]? = some (.not (.castable (zxn 0) (zxn 2))) ∧ nwL[120]? = some (.not (.castable (zxn 1) (zxn 2))) := by decide +kernel
def zsR : List (Nat × Nat) := [(3, 134), (3, 187), (3, 188), (3, 206), (3, 207), (3, 208), (3, 209), (3, 210), (3, 211), (6, 186), (6, 193), (6, 194), (6, 215), (8, 12), (8, 13), (8, 14), (8, 15), (8, 16), (8, 17), (8, 18), (8, 19), (8, 21), (8, 22), (8, 23), (8, 24), (8, 25), (8, 26), (8, 27), (8, 28), (8, 29)]
def zyA : List (Nat × Nat × Nat × Nat) := [(48, 190, 3, 20), (59, 210, 3, 67), (68, 243, 3, 92), (82, 392, 4, 66), (88, 428, 4, 74), (99, 452, 4, 75), (105, 471, 4, 91), (114, 488, 4, 92), (123, 505, 4, 97), (128, 541, 4, 109), (131, 578, 4, 117), (140, 606, 4, 134), (146, 622, 4, 135), (151, 654, 4, 143), (159, 690, 4, 151), (161, 708, 4, 159), (163, 724, 4, 160), (178, 762, 4, 161), (190, 812, 4, 174), (201, 846, 4, 179), (216, 878, 4, 200), (219, 914, 4, 208), (236, 947, 4, 216), (244, 969, 5, 132), (252, 988, 5, 140)]
def zdL : List (String × String × String × (Nat × Nat) × Nat × Nat) := [("java/lang/String", "COMPACT_STRINGS", "Z", (3, 148), 1, 19), ("jdk/internal/util/Preconditions", "SIOOBE_FORMATTER", "Ljava/util/function/BiFunction;", (3, 164), 1, 21), ("BendYardModel", "DEEDS", "[Ljava/lang/String;", (6, 204), 1, 11), ("BendYardModel", "FRAMES", "[Ljava/lang/String;", (6, 210), 1, 11), ("BendYardModel", "WOODS", "[Ljava/lang/String;", (6, 212), 1, 11), ("BendYardModel", "NUMBERS", "[I", (6, 214), 1, 11), ("BendYardModel", "LOW", "[I", (7, 1), 1, 11), ("BendYardModel", "HIGH", "[I", (7, 3), 1, 11), ("BendYardModel", "STIFF", "[I", (7, 176), 1, 11), ("java/lang/Throwable", "UNASSIGNED_STACK", "[Ljava/lang/StackTraceElement;", (3, 6), 1, 13), ("java/lang/Throwable", "SUPPRESSED_SENTINEL", "Ljava/util/List;", (3, 8), 1, 13)]
def zsrB (p : Nat × Nat) (o : String) (k : Nat) : Bool := match (ztb p.1)[p.2]? with
  | some (.stringRef o' k' _) => decide (o' = o ∧ k' = k)
  | _ => false
set_option maxRecDepth 100000 in
theorem zsR_all : (List.range 30).all (fun i => zsrB (zsR.getD i (0, 0)) (zcn (zSC.getD i (0, 0, [])).1) (zSC.getD i (0, 0, [])).2.1) = true := by decide +kernel
set_option maxRecDepth 100000 in
theorem zyA_all : zYL.all (fun q => zyA.any (fun r => decide (r.1 = q.2.2.1 ∧ nwL[r.2.1]? = some (.exactly (.string (zcn q.1) q.2.2.1) "java/lang/String")) && zsrB (r.2.2.1, r.2.2.2) (zcn q.1) q.2.2.1)) = true := by decide +kernel
set_option maxRecDepth 100000 in
theorem zdL_all : zdL.all (fun r => decide ((ztb r.2.2.2.1.1)[r.2.2.2.1.2]? = some (.laysStatic r.1 r.2.1 r.2.2.1) ∧ (ztb r.2.2.2.2.1)[r.2.2.2.2.2]? = some (.initialized r.1))) = true := by decide +kernel
set_option maxRecDepth 100000 in
theorem zaO_all : (ztb 1)[121]? = some (.arrayOver (.object (zcn 3))) ∧ (ztb 1)[135]? = some (.arrayOver (.object (zcn 4))) ∧ (ztb 1)[179]? = some (.arrayOver (.object (zcn 6))) ∧ (ztb 2)[86]? = some (.arrayOver (.object (zcn 0))) ∧ (ztb 1)[181]? = some (.arrayOver (.array .int)) ∧ (ztb 1)[84]? = some (.arrayClass .int) := by decide +kernel
