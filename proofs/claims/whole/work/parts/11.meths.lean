/-! the methods' words -/
def zmw (K : Nat) : Bool := match zML.getD K zMT0, zMP.getD K (99, 0, 99, 0, 99, 0, 99, 0) with
  | (_, y, ml, _, o, n, ini, h), (_, _, a2, b2, _) => decide (h = [] ∨ o = 13) && (plainName y.cls || o == 20) && decide (y.cls ≠ "java/lang/invoke/MethodHandle" ∧ y.cls ≠ "java/lang/invoke/VarHandle" ∧ y.cls = zcn o ∧ (parseMethodDescriptor y.desc).map (fun d => d.parameters.length) = some n) && zp0 a2 b2 (Jvm.Cond.initialized y.cls) && (!ini || decide (y.name = "<init>")) && decide (ml ≤ 12)
set_option maxRecDepth 100000 in
theorem zmw_0 : (List.range 31).all (fun K => zmw (0 + K)) = true := by decide +kernel
set_option maxRecDepth 100000 in
theorem zmw_1 : (List.range 31).all (fun K => zmw (31 + K)) = true := by decide +kernel
set_option maxRecDepth 100000 in
theorem zmw_2 : (List.range 31).all (fun K => zmw (62 + K)) = true := by decide +kernel
set_option maxRecDepth 100000 in
theorem zmw_3 : (List.range 31).all (fun K => zmw (93 + K)) = true := by decide +kernel
set_option maxRecDepth 100000 in
theorem zmw_4 : (List.range 31).all (fun K => zmw (124 + K)) = true := by decide +kernel
set_option maxRecDepth 100000 in
theorem zmw_5 : (List.range 31).all (fun K => zmw (155 + K)) = true := by decide +kernel
set_option maxRecDepth 100000 in
theorem zmw_6 : (List.range 31).all (fun K => zmw (186 + K)) = true := by decide +kernel
set_option maxRecDepth 100000 in
theorem zmw_7 : (List.range 27).all (fun K => zmw (217 + K)) = true := by decide +kernel
theorem zmw_ok {K : Nat} (h : K < 244) : zmw K = true := by
  by_cases h0 : K < 31
  · have := List.all_eq_true.mp zmw_0 (K - 0) (List.mem_range.mpr (by omega))
    rwa [show 0 + (K - 0) = K by omega] at this
  by_cases h1 : K < 62
  · have := List.all_eq_true.mp zmw_1 (K - 31) (List.mem_range.mpr (by omega))
    rwa [show 31 + (K - 31) = K by omega] at this
  by_cases h2 : K < 93
  · have := List.all_eq_true.mp zmw_2 (K - 62) (List.mem_range.mpr (by omega))
    rwa [show 62 + (K - 62) = K by omega] at this
  by_cases h3 : K < 124
  · have := List.all_eq_true.mp zmw_3 (K - 93) (List.mem_range.mpr (by omega))
    rwa [show 93 + (K - 93) = K by omega] at this
  by_cases h4 : K < 155
  · have := List.all_eq_true.mp zmw_4 (K - 124) (List.mem_range.mpr (by omega))
    rwa [show 124 + (K - 124) = K by omega] at this
  by_cases h5 : K < 186
  · have := List.all_eq_true.mp zmw_5 (K - 155) (List.mem_range.mpr (by omega))
    rwa [show 155 + (K - 155) = K by omega] at this
  by_cases h6 : K < 217
  · have := List.all_eq_true.mp zmw_6 (K - 186) (List.mem_range.mpr (by omega))
    rwa [show 186 + (K - 186) = K by omega] at this
  by_cases h7 : K < 244
  · have := List.all_eq_true.mp zmw_7 (K - 217) (List.mem_range.mpr (by omega))
    rwa [show 217 + (K - 217) = K by omega] at this
  omega
/-- the word that gives a method's code -/
def zcw (K : Nat) : Jvm.Cond := if zMh K = [] then .code (zMy K) (zMc K) (zMl K) (zMr K) else .codeWith (zMy K) (zMc K) (zMl K) (zMr K) ((zMh K).map (fun h => (h.1, h.2.1, h.2.2.1, h.2.2.2.2)))
theorem zcw_0 : zcw 0 ∈ zT0 := List.mem_filter.mpr ⟨ztb_in (k := 4) (List.mem_of_getElem? (i := 29) (show _ = some (Jvm.Cond.code yX0_init cX0_init 5 (none)) from rfl)), rfl⟩
theorem zcw_1 : zcw 1 ∈ zT0 := List.mem_filter.mpr ⟨ztb_in (k := 1) (List.mem_of_getElem? (i := 57) (show _ = some (Jvm.Cond.code yX1_init cX1_init 2 (none)) from rfl)), rfl⟩
theorem zcw_2 : zcw 2 ∈ zT0 := List.mem_filter.mpr ⟨ztb_in (k := 3) (List.mem_of_getElem? (i := 217) (show _ = some (Jvm.Cond.code yX1_fail cX1_fail 3 (some .int)) from rfl)), rfl⟩
theorem zcw_3 : zcw 3 ∈ zT0 := List.mem_filter.mpr ⟨ztb_in (k := 3) (List.mem_of_getElem? (i := 102) (show _ = some (Jvm.Cond.code yX1_formError cX1_formError 1 (some .int)) from rfl)), rfl⟩
theorem zcw_4 : zcw 4 ∈ zT0 := List.mem_filter.mpr ⟨ztb_in (k := 3) (List.mem_of_getElem? (i := 106) (show _ = some (Jvm.Cond.code yX1_isWellFormed cX1_isWellFormed 5 (some .boolean)) from rfl)), rfl⟩
theorem zcw_5 : zcw 5 ∈ zT0 := List.mem_filter.mpr ⟨ztb_in (k := 3) (List.mem_of_getElem? (i := 202) (show _ = some (Jvm.Cond.code yX1_hasRestOf cX1_hasRestOf 4 (some .boolean)) from rfl)), rfl⟩
theorem zcw_6 : zcw 6 ∈ zT0 := List.mem_filter.mpr ⟨ztb_in (k := 3) (List.mem_of_getElem? (i := 205) (show _ = some (Jvm.Cond.code yX1_formOf cX1_formOf 1 (some (.object "java/lang/String"))) from rfl)), rfl⟩
theorem zcw_7 : zcw 7 ∈ zT0 := List.mem_filter.mpr ⟨ztb_in (k := 3) (List.mem_of_getElem? (i := 221) (show _ = some (Jvm.Cond.code yX1_goThrough cX1_goThrough 4 (some .int)) from rfl)), rfl⟩
theorem zcw_8 : zcw 8 ∈ zT0 := List.mem_filter.mpr ⟨ztb_in (k := 3) (List.mem_of_getElem? (i := 230) (show _ = some (Jvm.Cond.code yX1_doStep cX1_doStep 6 (some .int)) from rfl)), rfl⟩
theorem zcw_9 : zcw 9 ∈ zT0 := List.mem_filter.mpr ⟨ztb_in (k := 3) (List.mem_of_getElem? (i := 234) (show _ = some (Jvm.Cond.code yX1_readValues cX1_readValues 4 (none)) from rfl)), rfl⟩
theorem zcw_10 : zcw 10 ∈ zT0 := List.mem_filter.mpr ⟨ztb_in (k := 4) (List.mem_of_getElem? (i := 1) (show _ = some (Jvm.Cond.code yX1_errorAtWord cX1_errorAtWord 3 (some .int)) from rfl)), rfl⟩
theorem zcw_11 : zcw 11 ∈ zT0 := List.mem_filter.mpr ⟨ztb_in (k := 4) (List.mem_of_getElem? (i := 5) (show _ = some (Jvm.Cond.code yX1_isOutOfTurn cX1_isOutOfTurn 3 (some .boolean)) from rfl)), rfl⟩
theorem zcw_12 : zcw 12 ∈ zT0 := List.mem_filter.mpr ⟨ztb_in (k := 4) (List.mem_of_getElem? (i := 9) (show _ = some (Jvm.Cond.code yX1_wrongNumber cX1_wrongNumber 4 (some .int)) from rfl)), rfl⟩
theorem zcw_13 : zcw 13 ∈ zT0 := List.mem_filter.mpr ⟨ztb_in (k := 4) (List.mem_of_getElem? (i := 12) (show _ = some (Jvm.Cond.code yX1_isAllowed cX1_isAllowed 2 (some .boolean)) from rfl)), rfl⟩
theorem zcw_14 : zcw 14 ∈ zT0 := List.mem_filter.mpr ⟨ztb_in (k := 4) (List.mem_of_getElem? (i := 24) (show _ = some (Jvm.Cond.code yX1_follow cX1_follow 2 (none)) from rfl)), rfl⟩
theorem zcw_15 : zcw 15 ∈ zT0 := List.mem_filter.mpr ⟨ztb_in (k := 4) (List.mem_of_getElem? (i := 16) (show _ = some (Jvm.Cond.code yX1_beginLoop cX1_beginLoop 1 (none)) from rfl)), rfl⟩
theorem zcw_16 : zcw 16 ∈ zT0 := List.mem_filter.mpr ⟨ztb_in (k := 3) (List.mem_of_getElem? (i := 226) (show _ = some (Jvm.Cond.code yX1_endRound cX1_endRound 2 (none)) from rfl)), rfl⟩
theorem zcw_17 : zcw 17 ∈ zT0 := List.mem_filter.mpr ⟨ztb_in (k := 1) (List.mem_of_getElem? (i := 191) (show _ = some (Jvm.Cond.code yX2_init cX2_init 1 (none)) from rfl)), rfl⟩
theorem zcw_18 : zcw 18 ∈ zT0 := List.mem_filter.mpr ⟨ztb_in (k := 5) (List.mem_of_getElem? (i := 27) (show _ = some (Jvm.Cond.code yX2_appear cX2_appear 3 (none)) from rfl)), rfl⟩
theorem zcw_19 : zcw 19 ∈ zT0 := List.mem_filter.mpr ⟨ztb_in (k := 5) (List.mem_of_getElem? (i := 81) (show _ = some (Jvm.Cond.code yX2_vanish cX2_vanish 1 (none)) from rfl)), rfl⟩
theorem zcw_20 : zcw 20 ∈ zT0 := List.mem_filter.mpr ⟨ztb_in (k := 5) (List.mem_of_getElem? (i := 90) (show _ = some (Jvm.Cond.code yX2_soak cX2_soak 1 (none)) from rfl)), rfl⟩
theorem zcw_21 : zcw 21 ∈ zT0 := List.mem_filter.mpr ⟨ztb_in (k := 5) (List.mem_of_getElem? (i := 99) (show _ = some (Jvm.Cond.code yX2_warm cX2_warm 1 (none)) from rfl)), rfl⟩
theorem zcw_22 : zcw 22 ∈ zT0 := List.mem_filter.mpr ⟨ztb_in (k := 5) (List.mem_of_getElem? (i := 103) (show _ = some (Jvm.Cond.code yX2_isBurning cX2_isBurning 1 (some .boolean)) from rfl)), rfl⟩
theorem zcw_23 : zcw 23 ∈ zT0 := List.mem_filter.mpr ⟨ztb_in (k := 5) (List.mem_of_getElem? (i := 95) (show _ = some (Jvm.Cond.code yX2_settle cX2_settle 1 (none)) from rfl)), rfl⟩
theorem zcw_24 : zcw 24 ∈ zT0 := List.mem_filter.mpr ⟨ztb_in (k := 5) (List.mem_of_getElem? (i := 63) (show _ = some (Jvm.Cond.code yX2_cool cX2_cool 2 (none)) from rfl)), rfl⟩
theorem zcw_25 : zcw 25 ∈ zT0 := List.mem_filter.mpr ⟨ztb_in (k := 5) (List.mem_of_getElem? (i := 68) (show _ = some (Jvm.Cond.code yX2_dry cX2_dry 2 (none)) from rfl)), rfl⟩
theorem zcw_26 : zcw 26 ∈ zT0 := List.mem_filter.mpr ⟨ztb_in (k := 5) (List.mem_of_getElem? (i := 45) (show _ = some (Jvm.Cond.code yX2_bendTowards cX2_bendTowards 4 (some .int)) from rfl)), rfl⟩
theorem zcw_27 : zcw 27 ∈ zT0 := List.mem_filter.mpr ⟨ztb_in (k := 5) (List.mem_of_getElem? (i := 49) (show _ = some (Jvm.Cond.code yX2_stiffness cX2_stiffness 1 (some .int)) from rfl)), rfl⟩
theorem zcw_28 : zcw 28 ∈ zT0 := List.mem_filter.mpr ⟨ztb_in (k := 5) (List.mem_of_getElem? (i := 53) (show _ = some (Jvm.Cond.code yX2_isAsMeant cX2_isAsMeant 2 (some .boolean)) from rfl)), rfl⟩
theorem zcw_29 : zcw 29 ∈ zT0 := List.mem_filter.mpr ⟨ztb_in (k := 5) (List.mem_of_getElem? (i := 76) (show _ = some (Jvm.Cond.code yX2_springBack cX2_springBack 3 (some .int)) from rfl)), rfl⟩
theorem zcw_30 : zcw 30 ∈ zT0 := List.mem_filter.mpr ⟨ztb_in (k := 5) (List.mem_of_getElem? (i := 172) (show _ = some (Jvm.Cond.code yX2_copyFrom cX2_copyFrom 2 (none)) from rfl)), rfl⟩
theorem zcw_31 : zcw 31 ∈ zT0 := List.mem_filter.mpr ⟨ztb_in (k := 2) (List.mem_of_getElem? (i := 83) (show _ = some (Jvm.Cond.code yX3_init cX3_init 1 (none)) from rfl)), rfl⟩
theorem zcw_32 : zcw 32 ∈ zT0 := List.mem_filter.mpr ⟨ztb_in (k := 4) (List.mem_of_getElem? (i := 58) (show _ = some (Jvm.Cond.code yX3_append cX3_append 3 (none)) from rfl)), rfl⟩
theorem zcw_33 : zcw 33 ∈ zT0 := List.mem_filter.mpr ⟨ztb_in (k := 5) (List.mem_of_getElem? (i := 2) (show _ = some (Jvm.Cond.code yX3_at cX3_at 2 (some (.object "BendYard$Action"))) from rfl)), rfl⟩
theorem zcw_34 : zcw 34 ∈ zT0 := List.mem_filter.mpr ⟨ztb_in (k := 2) (List.mem_of_getElem? (i := 185) (show _ = some (Jvm.Cond.code yX3_tell cX3_tell 2 (some .int)) from rfl)), rfl⟩
theorem zcw_35 : zcw 35 ∈ zT0 := List.mem_filter.mpr ⟨ztb_in (k := 1) (List.mem_of_getElem? (i := 139) (show _ = some (Jvm.Cond.code yX4_init cX4_init 1 (none)) from rfl)), rfl⟩
theorem zcw_36 : zcw 36 ∈ zT0 := List.mem_filter.mpr ⟨ztb_in (k := 4) (List.mem_of_getElem? (i := 83) (show _ = some (Jvm.Cond.code yX4_become cX4_become 4 (none)) from rfl)), rfl⟩
theorem zcw_37 : zcw 37 ∈ zT0 := List.mem_filter.mpr ⟨ztb_in (k := 4) (List.mem_of_getElem? (i := 96) (show _ = some (Jvm.Cond.code yX4_hasKnotAt cX4_hasKnotAt 3 (some .boolean)) from rfl)), rfl⟩
theorem zcw_38 : zcw 38 ∈ zT0 := List.mem_filter.mpr ⟨ztb_in (k := 4) (List.mem_of_getElem? (i := 101) (show _ = some (Jvm.Cond.code yX4_insertKnot cX4_insertKnot 3 (none)) from rfl)), rfl⟩
theorem zcw_39 : zcw 39 ∈ zT0 := List.mem_filter.mpr ⟨ztb_in (k := 4) (List.mem_of_getElem? (i := 125) (show _ = some (Jvm.Cond.code yX4_clearPlaceFor cX4_clearPlaceFor 4 (some .int)) from rfl)), rfl⟩
theorem zcw_40 : zcw 40 ∈ zT0 := List.mem_filter.mpr ⟨ztb_in (k := 2) (List.mem_of_getElem? (i := 193) (show _ = some (Jvm.Cond.code yX4_mostClear cX4_mostClear 4 (some .int)) from rfl)), rfl⟩
theorem zcw_41 : zcw 41 ∈ zT0 := List.mem_filter.mpr ⟨ztb_in (k := 5) (List.mem_of_getElem? (i := 36) (show _ = some (Jvm.Cond.code yX4_becomeEndOf cX4_becomeEndOf 4 (none)) from rfl)), rfl⟩
theorem zcw_42 : zcw 42 ∈ zT0 := List.mem_filter.mpr ⟨ztb_in (k := 5) (List.mem_of_getElem? (i := 41) (show _ = some (Jvm.Cond.code yX4_shorten cX4_shorten 4 (none)) from rfl)), rfl⟩
theorem zcw_43 : zcw 43 ∈ zT0 := List.mem_filter.mpr ⟨ztb_in (k := 2) (List.mem_of_getElem? (i := 189) (show _ = some (Jvm.Cond.code yX4_tell cX4_tell 2 (some .int)) from rfl)), rfl⟩
theorem zcw_44 : zcw 44 ∈ zT0 := List.mem_filter.mpr ⟨ztb_in (k := 5) (List.mem_of_getElem? (i := 159) (show _ = some (Jvm.Cond.code yX4_copyFrom cX4_copyFrom 2 (none)) from rfl)), rfl⟩
theorem zcw_45 : zcw 45 ∈ zT0 := List.mem_filter.mpr ⟨ztb_in (k := 1) (List.mem_of_getElem? (i := 63) (show _ = some (Jvm.Cond.code yX5_init cX5_init 2 (none)) from rfl)), rfl⟩
theorem zcw_46 : zcw 46 ∈ zT0 := List.mem_filter.mpr ⟨ztb_in (k := 4) (List.mem_of_getElem? (i := 20) (show _ = some (Jvm.Cond.code yX5_placeBehind cX5_placeBehind 1 (some .int)) from rfl)), rfl⟩
theorem zcw_47 : zcw 47 ∈ zT0 := List.mem_filter.mpr ⟨ztb_in (k := 3) (List.mem_of_getElem? (i := 110) (show _ = some (Jvm.Cond.code yX5_goTo cX5_goTo 2 (none)) from rfl)), rfl⟩
theorem zcw_48 : zcw 48 ∈ zT0 := List.mem_filter.mpr ⟨ztb_in (k := 3) (List.mem_of_getElem? (i := 114) (show _ = some (Jvm.Cond.code yX5_next cX5_next 2 (none)) from rfl)), rfl⟩
theorem zcw_49 : zcw 49 ∈ zT0 := List.mem_filter.mpr ⟨ztb_in (k := 3) (List.mem_of_getElem? (i := 128) (show _ = some (Jvm.Cond.code yX5_readWord cX5_readWord 3 (none)) from rfl)), rfl⟩
theorem zcw_50 : zcw 50 ∈ zT0 := List.mem_filter.mpr ⟨ztb_in (k := 3) (List.mem_of_getElem? (i := 195) (show _ = some (Jvm.Cond.code yX5_readNumber cX5_readNumber 1 (none)) from rfl)), rfl⟩
theorem zcw_51 : zcw 51 ∈ zT0 := List.mem_filter.mpr ⟨ztb_in (k := 3) (List.mem_of_getElem? (i := 138) (show _ = some (Jvm.Cond.code yX5_isAmong cX5_isAmong 7 (some .boolean)) from rfl)), rfl⟩
theorem zcw_52 : zcw 52 ∈ zT0 := List.mem_filter.mpr ⟨ztb_in (k := 3) (List.mem_of_getElem? (i := 131) (show _ = some (Jvm.Cond.code yX5_withLetter cX5_withLetter 3 (some .long)) from rfl)), rfl⟩
theorem zcw_53 : zcw 53 ∈ zT0 := List.mem_filter.mpr ⟨ztb_in (k := 3) (List.mem_of_getElem? (i := 121) (show _ = some (Jvm.Cond.code yX5_isBlank cX5_isBlank 1 (some .boolean)) from rfl)), rfl⟩
theorem zcw_54 : zcw 54 ∈ zT0 := List.mem_filter.mpr ⟨ztb_in (k := 3) (List.mem_of_getElem? (i := 124) (show _ = some (Jvm.Cond.code yX5_isLetter cX5_isLetter 1 (some .boolean)) from rfl)), rfl⟩
theorem zcw_55 : zcw 55 ∈ zT0 := List.mem_filter.mpr ⟨ztb_in (k := 3) (List.mem_of_getElem? (i := 191) (show _ = some (Jvm.Cond.code yX5_isDigit cX5_isDigit 1 (some .boolean)) from rfl)), rfl⟩
theorem zcw_56 : zcw 56 ∈ zT0 := List.mem_filter.mpr ⟨ztb_in (k := 3) (List.mem_of_getElem? (i := 198) (show _ = some (Jvm.Cond.code yX5_isSymbol cX5_isSymbol 1 (some .boolean)) from rfl)), rfl⟩
theorem zcw_57 : zcw 57 ∈ zT0 := List.mem_filter.mpr ⟨ztb_in (k := 1) (List.mem_of_getElem? (i := 185) (show _ = some (Jvm.Cond.code yX6_init cX6_init 1 (none)) from rfl)), rfl⟩
theorem zcw_58 : zcw 58 ∈ zT0 := List.mem_filter.mpr ⟨ztb_in (k := 4) (List.mem_of_getElem? (i := 165) (show _ = some (Jvm.Cond.code yX6_begin cX6_begin 5 (none)) from rfl)), rfl⟩
theorem zcw_59 : zcw 59 ∈ zT0 := List.mem_filter.mpr ⟨ztb_in (k := 4) (List.mem_of_getElem? (i := 238) (show _ = some (Jvm.Cond.code yX6_action cX6_action 1 (some (.object "BendYard$Action"))) from rfl)), rfl⟩
theorem zcw_60 : zcw 60 ∈ zT0 := List.mem_filter.mpr ⟨ztb_in (k := 5) (List.mem_of_getElem? (i := 115) (show _ = some (Jvm.Cond.code yX6_goOn cX6_goOn 1 (none)) from rfl)), rfl⟩
theorem zcw_61 : zcw 61 ∈ zT0 := List.mem_filter.mpr ⟨ztb_in (k := 5) (List.mem_of_getElem? (i := 111) (show _ = some (Jvm.Cond.code yX6_losePiece cX6_losePiece 1 (none)) from rfl)), rfl⟩
theorem zcw_62 : zcw 62 ∈ zT0 := List.mem_filter.mpr ⟨ztb_in (k := 5) (List.mem_of_getElem? (i := 23) (show _ = some (Jvm.Cond.code yX6_getPiece cX6_getPiece 3 (none)) from rfl)), rfl⟩
theorem zcw_63 : zcw 63 ∈ zT0 := List.mem_filter.mpr ⟨ztb_in (k := 5) (List.mem_of_getElem? (i := 86) (show _ = some (Jvm.Cond.code yX6_treatPiece cX6_treatPiece 2 (some .int)) from rfl)), rfl⟩
theorem zcw_64 : zcw 64 ∈ zT0 := List.mem_filter.mpr ⟨ztb_in (k := 5) (List.mem_of_getElem? (i := 72) (show _ = some (Jvm.Cond.code yX6_fitPiece cX6_fitPiece 2 (some .int)) from rfl)), rfl⟩
theorem zcw_65 : zcw 65 ∈ zT0 := List.mem_filter.mpr ⟨ztb_in (k := 4) (List.mem_of_getElem? (i := 178) (show _ = some (Jvm.Cond.code yX6_holds cX6_holds 2 (some .boolean)) from rfl)), rfl⟩
theorem zcw_66 : zcw 66 ∈ zT0 := List.mem_filter.mpr ⟨ztb_in (k := 4) (List.mem_of_getElem? (i := 183) (show _ = some (Jvm.Cond.code yX6_release cX6_release 2 (none)) from rfl)), rfl⟩
theorem zcw_67 : zcw 67 ∈ zT0 := List.mem_filter.mpr ⟨ztb_in (k := 4) (List.mem_of_getElem? (i := 187) (show _ = some (Jvm.Cond.code yX6_receive cX6_receive 2 (none)) from rfl)), rfl⟩
theorem zcw_68 : zcw 68 ∈ zT0 := List.mem_filter.mpr ⟨ztb_in (k := 4) (List.mem_of_getElem? (i := 191) (show _ = some (Jvm.Cond.code yX6_await cX6_await 4 (none)) from rfl)), rfl⟩
theorem zcw_69 : zcw 69 ∈ zT0 := List.mem_filter.mpr ⟨ztb_in (k := 2) (List.mem_of_getElem? (i := 140) (show _ = some (Jvm.Cond.code yX6_isWaiting cX6_isWaiting 1 (some .boolean)) from rfl)), rfl⟩
theorem zcw_70 : zcw 70 ∈ zT0 := List.mem_filter.mpr ⟨ztb_in (k := 2) (List.mem_of_getElem? (i := 136) (show _ = some (Jvm.Cond.code yX6_couldEnd cX6_couldEnd 2 (some .boolean)) from rfl)), rfl⟩
theorem zcw_71 : zcw 71 ∈ zT0 := List.mem_filter.mpr ⟨ztb_in (k := 2) (List.mem_of_getElem? (i := 144) (show _ = some (Jvm.Cond.code yX6_heldSorts cX6_heldSorts 1 (some .int)) from rfl)), rfl⟩
theorem zcw_72 : zcw 72 ∈ zT0 := List.mem_filter.mpr ⟨ztb_in (k := 2) (List.mem_of_getElem? (i := 210) (show _ = some (Jvm.Cond.code yX6_tell cX6_tell 2 (some .int)) from rfl)), rfl⟩
theorem zcw_73 : zcw 73 ∈ zT0 := List.mem_filter.mpr ⟨ztb_in (k := 5) (List.mem_of_getElem? (i := 167) (show _ = some (Jvm.Cond.code yX6_copyFrom cX6_copyFrom 2 (none)) from rfl)), rfl⟩
theorem zcw_74 : zcw 74 ∈ zT0 := List.mem_filter.mpr ⟨ztb_in (k := 1) (List.mem_of_getElem? (i := 132) (show _ = some (Jvm.Cond.code yX7_init cX7_init 2 (none)) from rfl)), rfl⟩
theorem zcw_75 : zcw 75 ∈ zT0 := List.mem_filter.mpr ⟨ztb_in (k := 4) (List.mem_of_getElem? (i := 79) (show _ = some (Jvm.Cond.code yX7_add cX7_add 4 (some .int)) from rfl)), rfl⟩
theorem zcw_76 : zcw 76 ∈ zT0 := List.mem_filter.mpr ⟨ztb_in (k := 4) (List.mem_of_getElem? (i := 121) (show _ = some (Jvm.Cond.code yX7_plankFor cX7_plankFor 7 (some .int)) from rfl)), rfl⟩
theorem zcw_77 : zcw 77 ∈ zT0 := List.mem_filter.mpr ⟨ztb_in (k := 5) (List.mem_of_getElem? (i := 32) (show _ = some (Jvm.Cond.code yX7_cutAway cX7_cutAway 6 (none)) from rfl)), rfl⟩
theorem zcw_78 : zcw 78 ∈ zT0 := List.mem_filter.mpr ⟨ztb_in (k := 5) (List.mem_of_getElem? (i := 123) (show _ = some (Jvm.Cond.code yX7_moveWetness cX7_moveWetness 2 (none)) from rfl)), rfl⟩
theorem zcw_79 : zcw 79 ∈ zT0 := List.mem_filter.mpr ⟨ztb_in (k := 2) (List.mem_of_getElem? (i := 181) (show _ = some (Jvm.Cond.code yX7_lengthOfAll cX7_lengthOfAll 3 (some .int)) from rfl)), rfl⟩
theorem zcw_80 : zcw 80 ∈ zT0 := List.mem_filter.mpr ⟨ztb_in (k := 5) (List.mem_of_getElem? (i := 155) (show _ = some (Jvm.Cond.code yX7_copyFrom cX7_copyFrom 3 (none)) from rfl)), rfl⟩
theorem zcw_81 : zcw 81 ∈ zT0 := List.mem_filter.mpr ⟨ztb_in (k := 1) (List.mem_of_getElem? (i := 40) (show _ = some (Jvm.Cond.code yX8_init cX8_init 1 (none)) from rfl)), rfl⟩
theorem zcw_82 : zcw 82 ∈ zT0 := List.mem_filter.mpr ⟨ztb_in (k := 3) (List.mem_of_getElem? (i := 49) (show _ = some (Jvm.Cond.code yX8_append cX8_append 3 (none)) from rfl)), rfl⟩
theorem zcw_83 : zcw 83 ∈ zT0 := List.mem_filter.mpr ⟨ztb_in (k := 3) (List.mem_of_getElem? (i := 118) (show _ = some (Jvm.Cond.code yX8_at cX8_at 2 (some .int)) from rfl)), rfl⟩
theorem zcw_84 : zcw 84 ∈ zT0 := List.mem_filter.mpr ⟨ztb_in (k := 1) (List.mem_of_getElem? (i := 126) (show _ = some (Jvm.Cond.code yX9_init cX9_init 2 (none)) from rfl)), rfl⟩
theorem zcw_85 : zcw 85 ∈ zT0 := List.mem_filter.mpr ⟨ztb_in (k := 4) (List.mem_of_getElem? (i := 220) (show _ = some (Jvm.Cond.code yX9_passTick cX9_passTick 2 (none)) from rfl)), rfl⟩
theorem zcw_86 : zcw 86 ∈ zT0 := List.mem_filter.mpr ⟨ztb_in (k := 4) (List.mem_of_getElem? (i := 224) (show _ = some (Jvm.Cond.code yX9_grantFrames cX9_grantFrames 5 (none)) from rfl)), rfl⟩
theorem zcw_87 : zcw 87 ∈ zT0 := List.mem_filter.mpr ⟨ztb_in (k := 4) (List.mem_of_getElem? (i := 228) (show _ = some (Jvm.Cond.code yX9_longestWaiting cX9_longestWaiting 5 (some .int)) from rfl)), rfl⟩
theorem zcw_88 : zcw 88 ∈ zT0 := List.mem_filter.mpr ⟨ztb_in (k := 4) (List.mem_of_getElem? (i := 234) (show _ = some (Jvm.Cond.code yX9_work cX9_work 3 (some .int)) from rfl)), rfl⟩
theorem zcw_89 : zcw 89 ∈ zT0 := List.mem_filter.mpr ⟨ztb_in (k := 5) (List.mem_of_getElem? (i := 107) (show _ = some (Jvm.Cond.code yX9_settle cX9_settle 4 (none)) from rfl)), rfl⟩
theorem zcw_90 : zcw 90 ∈ zT0 := List.mem_filter.mpr ⟨ztb_in (k := 5) (List.mem_of_getElem? (i := 7) (show _ = some (Jvm.Cond.code yX9_takeFrame cX9_takeFrame 3 (some .int)) from rfl)), rfl⟩
theorem zcw_91 : zcw 91 ∈ zT0 := List.mem_filter.mpr ⟨ztb_in (k := 5) (List.mem_of_getElem? (i := 13) (show _ = some (Jvm.Cond.code yX9_giveFrame cX9_giveFrame 3 (some .int)) from rfl)), rfl⟩
theorem zcw_92 : zcw 92 ∈ zT0 := List.mem_filter.mpr ⟨ztb_in (k := 5) (List.mem_of_getElem? (i := 18) (show _ = some (Jvm.Cond.code yX9_cutPiece cX9_cutPiece 6 (some .int)) from rfl)), rfl⟩
theorem zcw_93 : zcw 93 ∈ zT0 := List.mem_filter.mpr ⟨ztb_in (k := 5) (List.mem_of_getElem? (i := 119) (show _ = some (Jvm.Cond.code yX9_finishHull cX9_finishHull 4 (none)) from rfl)), rfl⟩
theorem zcw_94 : zcw 94 ∈ zT0 := List.mem_filter.mpr ⟨ztb_in (k := 2) (List.mem_of_getElem? (i := 152) (show _ = some (Jvm.Cond.code yX9_keptHulls cX9_keptHulls 1 (some .int)) from rfl)), rfl⟩
theorem zcw_95 : zcw 95 ∈ zT0 := List.mem_filter.mpr ⟨ztb_in (k := 2) (List.mem_of_getElem? (i := 132) (show _ = some (Jvm.Cond.code yX9_stuckSlips cX9_stuckSlips 4 (some .int)) from rfl)), rfl⟩
theorem zcw_96 : zcw 96 ∈ zT0 := List.mem_filter.mpr ⟨ztb_in (k := 2) (List.mem_of_getElem? (i := 169) (show _ = some (Jvm.Cond.code yX9_buildingSlips cX9_buildingSlips 3 (some .int)) from rfl)), rfl⟩
theorem zcw_97 : zcw 97 ∈ zT0 := List.mem_filter.mpr ⟨ztb_in (k := 2) (List.mem_of_getElem? (i := 173) (show _ = some (Jvm.Cond.code yX9_waitingSlips cX9_waitingSlips 3 (some .int)) from rfl)), rfl⟩
theorem zcw_98 : zcw 98 ∈ zT0 := List.mem_filter.mpr ⟨ztb_in (k := 2) (List.mem_of_getElem? (i := 177) (show _ = some (Jvm.Cond.code yX9_slipsWaitingFor cX9_slipsWaitingFor 4 (some .int)) from rfl)), rfl⟩
theorem zcw_99 : zcw 99 ∈ zT0 := List.mem_filter.mpr ⟨ztb_in (k := 2) (List.mem_of_getElem? (i := 200) (show _ = some (Jvm.Cond.code yX9_tellFrames cX9_tellFrames 3 (some .int)) from rfl)), rfl⟩
theorem zcw_100 : zcw 100 ∈ zT0 := List.mem_filter.mpr ⟨ztb_in (k := 2) (List.mem_of_getElem? (i := 165) (show _ = some (Jvm.Cond.code yX9_tellCount cX9_tellCount 2 (some .int)) from rfl)), rfl⟩
theorem zcw_101 : zcw 101 ∈ zT0 := List.mem_filter.mpr ⟨ztb_in (k := 5) (List.mem_of_getElem? (i := 151) (show _ = some (Jvm.Cond.code yX9_copyFrom cX9_copyFrom 3 (none)) from rfl)), rfl⟩
theorem zcw_102 : zcw 102 ∈ zT0 := List.mem_filter.mpr ⟨ztb_in (k := 1) (List.mem_of_getElem? (i := 32) (show _ = some (Jvm.Cond.code yX10_init cX10_init 2 (none)) from rfl)), rfl⟩
theorem zcw_103 : zcw 103 ∈ zT0 := List.mem_filter.mpr ⟨ztb_in (k := 2) (List.mem_of_getElem? (i := 218) (show _ = some (Jvm.Cond.code yX10_feed cX10_feed 6 (some .int)) from rfl)), rfl⟩
theorem zcw_104 : zcw 104 ∈ zT0 := List.mem_filter.mpr ⟨ztb_in (k := 3) (List.mem_of_getElem? (i := 57) (show _ = some (Jvm.Cond.code yX10_trim cX10_trim 2 (some .int)) from rfl)), rfl⟩
theorem zcw_105 : zcw 105 ∈ zT0 := List.mem_filter.mpr ⟨ztb_in (k := 3) (List.mem_of_getElem? (i := 81) (show _ = some (Jvm.Cond.code yX10_compile cX10_compile 4 (some .int)) from rfl)), rfl⟩
theorem zcw_106 : zcw 106 ∈ zT0 := List.mem_filter.mpr ⟨ztb_in (k := 2) (List.mem_of_getElem? (i := 124) (show _ = some (Jvm.Cond.code yX10_errorAt cX10_errorAt 1 (some .int)) from rfl)), rfl⟩
theorem zcw_107 : zcw 107 ∈ zT0 := List.mem_filter.mpr ⟨ztb_in (k := 4) (List.mem_of_getElem? (i := 65) (show _ = some (Jvm.Cond.code yX10_plan cX10_plan 3 (some .int)) from rfl)), rfl⟩
theorem zcw_108 : zcw 108 ∈ zT0 := List.mem_filter.mpr ⟨ztb_in (k := 4) (List.mem_of_getElem? (i := 73) (show _ = some (Jvm.Cond.code yX10_addPlank cX10_addPlank 4 (some .int)) from rfl)), rfl⟩
theorem zcw_109 : zcw 109 ∈ zT0 := List.mem_filter.mpr ⟨ztb_in (k := 4) (List.mem_of_getElem? (i := 90) (show _ = some (Jvm.Cond.code yX10_addKnot cX10_addKnot 4 (some .int)) from rfl)), rfl⟩
theorem zcw_110 : zcw 110 ∈ zT0 := List.mem_filter.mpr ⟨ztb_in (k := 4) (List.mem_of_getElem? (i := 108) (show _ = some (Jvm.Cond.code yX10_plank cX10_plank 3 (some .int)) from rfl)), rfl⟩
theorem zcw_111 : zcw 111 ∈ zT0 := List.mem_filter.mpr ⟨ztb_in (k := 4) (List.mem_of_getElem? (i := 116) (show _ = some (Jvm.Cond.code yX10_find cX10_find 5 (some .int)) from rfl)), rfl⟩
theorem zcw_112 : zcw 112 ∈ zT0 := List.mem_filter.mpr ⟨ztb_in (k := 4) (List.mem_of_getElem? (i := 133) (show _ = some (Jvm.Cond.code yX10_addFrame cX10_addFrame 2 (some .int)) from rfl)), rfl⟩
theorem zcw_113 : zcw 113 ∈ zT0 := List.mem_filter.mpr ⟨ztb_in (k := 4) (List.mem_of_getElem? (i := 142) (show _ = some (Jvm.Cond.code yX10_frames cX10_frames 3 (some .int)) from rfl)), rfl⟩
theorem zcw_114 : zcw 114 ∈ zT0 := List.mem_filter.mpr ⟨ztb_in (k := 4) (List.mem_of_getElem? (i := 150) (show _ = some (Jvm.Cond.code yX10_addSlip cX10_addSlip 1 (some .int)) from rfl)), rfl⟩
theorem zcw_115 : zcw 115 ∈ zT0 := List.mem_filter.mpr ⟨ztb_in (k := 4) (List.mem_of_getElem? (i := 158) (show _ = some (Jvm.Cond.code yX10_start cX10_start 4 (some .int)) from rfl)), rfl⟩
theorem zcw_116 : zcw 116 ∈ zT0 := List.mem_filter.mpr ⟨ztb_in (k := 4) (List.mem_of_getElem? (i := 173) (show _ = some (Jvm.Cond.code yX10_lend cX10_lend 6 (some .int)) from rfl)), rfl⟩
theorem zcw_117 : zcw 117 ∈ zT0 := List.mem_filter.mpr ⟨ztb_in (k := 4) (List.mem_of_getElem? (i := 199) (show _ = some (Jvm.Cond.code yX10_slip cX10_slip 3 (some .int)) from rfl)), rfl⟩
theorem zcw_118 : zcw 118 ∈ zT0 := List.mem_filter.mpr ⟨ztb_in (k := 4) (List.mem_of_getElem? (i := 207) (show _ = some (Jvm.Cond.code yX10_bend cX10_bend 5 (some .int)) from rfl)), rfl⟩
theorem zcw_119 : zcw 119 ∈ zT0 := List.mem_filter.mpr ⟨ztb_in (k := 2) (List.mem_of_getElem? (i := 128) (show _ = some (Jvm.Cond.code yX10_stuck cX10_stuck 1 (some .int)) from rfl)), rfl⟩
theorem zcw_120 : zcw 120 ∈ zT0 := List.mem_filter.mpr ⟨ztb_in (k := 4) (List.mem_of_getElem? (i := 215) (show _ = some (Jvm.Cond.code yX10_run cX10_run 4 (some .int)) from rfl)), rfl⟩
theorem zcw_121 : zcw 121 ∈ zT0 := List.mem_filter.mpr ⟨ztb_in (k := 5) (List.mem_of_getElem? (i := 131) (show _ = some (Jvm.Cond.code yX10_count cX10_count 2 (some .int)) from rfl)), rfl⟩
theorem zcw_122 : zcw 122 ∈ zT0 := List.mem_filter.mpr ⟨ztb_in (k := 5) (List.mem_of_getElem? (i := 139) (show _ = some (Jvm.Cond.code yX10_hull cX10_hull 3 (some .int)) from rfl)), rfl⟩
theorem zcw_123 : zcw 123 ∈ zT0 := List.mem_filter.mpr ⟨ztb_in (k := 5) (List.mem_of_getElem? (i := 147) (show _ = some (Jvm.Cond.code yX10_foresee cX10_foresee 5 (some .int)) from rfl)), rfl⟩
theorem zcw_124 : zcw 124 ∈ zT0 := List.mem_filter.mpr ⟨ztb_in (k := 2) (List.mem_of_getElem? (i := 148) (show _ = some (Jvm.Cond.code yX10_flaw cX10_flaw 4 (some .double)) from rfl)), rfl⟩
theorem zcw_125 : zcw 125 ∈ zT0 := List.mem_filter.mpr ⟨ztb_in (k := 2) (List.mem_of_getElem? (i := 159) (show _ = some (Jvm.Cond.code yX10_digest cX10_digest 5 (some .long)) from rfl)), rfl⟩
theorem zcw_126 : zcw 126 ∈ zT0 := List.mem_filter.mpr ⟨ztb_in (k := 2) (List.mem_of_getElem? (i := 206) (show _ = some (Jvm.Cond.code yX10_digestOfSlip cX10_digestOfSlip 6 (some .long)) from rfl)), rfl⟩
theorem zcw_127 : zcw 127 ∈ zT0 := List.mem_filter.mpr ⟨ztb_in (k := 2) (List.mem_of_getElem? (i := 203) (show _ = some (Jvm.Cond.code yX10_isBelow cX10_isBelow 2 (some .boolean)) from rfl)), rfl⟩
theorem zcw_128 : zcw 128 ∈ zT0 := List.mem_filter.mpr ⟨ztb_in (k := 5) (List.mem_of_getElem? (i := 56) (show _ = some (Jvm.Cond.code yX10_nearer cX10_nearer 3 (some .int)) from rfl)), rfl⟩
theorem zcw_129 : zcw 129 ∈ zT0 := List.mem_filter.mpr ⟨ztb_in (k := 5) (List.mem_of_getElem? (i := 185) (show _ = some (Jvm.Cond.code yX11_init cX11_init 1 (none)) from rfl)), rfl⟩
theorem zcw_130 : zcw 130 ∈ zT0 := List.mem_filter.mpr ⟨ztb_in (k := 7) (List.mem_of_getElem? (i := 234) (show _ = some (Jvm.Cond.code yX11_copy cX11_copy 2 (none)) from rfl)), rfl⟩
theorem zcw_131 : zcw 131 ∈ zT0 := List.mem_filter.mpr ⟨ztb_in (k := 7) (List.mem_of_getElem? (i := 237) (show _ = some (Jvm.Cond.code yX11_copy_ cX11_copy_ 2 (none)) from rfl)), rfl⟩
theorem zcw_132 : zcw 132 ∈ zT0 := List.mem_filter.mpr ⟨ztb_in (k := 7) (List.mem_of_getElem? (i := 231) (show _ = some (Jvm.Cond.code yX11_become cX11_become 2 (none)) from rfl)), rfl⟩
theorem zcw_133 : zcw 133 ∈ zT0 := List.mem_filter.mpr ⟨ztb_in (k := 7) (List.mem_of_getElem? (i := 36) (show _ = some (Jvm.Cond.code yX11_isKnot cX11_isKnot 5 (some .boolean)) from rfl)), rfl⟩
theorem zcw_134 : zcw 134 ∈ zT0 := List.mem_filter.mpr ⟨ztb_in (k := 7) (List.mem_of_getElem? (i := 66) (show _ = some (Jvm.Cond.code yX11_place cX11_place 5 (some .int)) from rfl)), rfl⟩
theorem zcw_135 : zcw 135 ∈ zT0 := List.mem_filter.mpr ⟨ztb_in (k := 7) (List.mem_of_getElem? (i := 52) (show _ = some (Jvm.Cond.code yX11_clear cX11_clear 5 (some .int)) from rfl)), rfl⟩
theorem zcw_136 : zcw 136 ∈ zT0 := List.mem_filter.mpr ⟨ztb_in (k := 7) (List.mem_of_getElem? (i := 62) (show _ = some (Jvm.Cond.code yX11_find cX11_find 5 (some .int)) from rfl)), rfl⟩
theorem zcw_137 : zcw 137 ∈ zT0 := List.mem_filter.mpr ⟨ztb_in (k := 7) (List.mem_of_getElem? (i := 24) (show _ = some (Jvm.Cond.code yX11_add cX11_add 4 (some .int)) from rfl)), rfl⟩
theorem zcw_138 : zcw 138 ∈ zT0 := List.mem_filter.mpr ⟨ztb_in (k := 7) (List.mem_of_getElem? (i := 40) (show _ = some (Jvm.Cond.code yX11_addKnot cX11_addKnot 3 (none)) from rfl)), rfl⟩
theorem zcw_139 : zcw 139 ∈ zT0 := List.mem_filter.mpr ⟨ztb_in (k := 7) (List.mem_of_getElem? (i := 168) (show _ = some (Jvm.Cond.code yX11_cutOut cX11_cutOut 8 (none)) from rfl)), rfl⟩
theorem zcw_140 : zcw 140 ∈ zT0 := List.mem_filter.mpr ⟨ztb_in (k := 7) (List.mem_of_getElem? (i := 83) (show _ = some (Jvm.Cond.code yX11_free cX11_free 4 (some .int)) from rfl)), rfl⟩
theorem zcw_141 : zcw 141 ∈ zT0 := List.mem_filter.mpr ⟨ztb_in (k := 7) (List.mem_of_getElem? (i := 87) (show _ = some (Jvm.Cond.code yX11_waiting cX11_waiting 4 (some .int)) from rfl)), rfl⟩
theorem zcw_142 : zcw 142 ∈ zT0 := List.mem_filter.mpr ⟨ztb_in (k := 7) (List.mem_of_getElem? (i := 116) (show _ = some (Jvm.Cond.code yX11_await cX11_await 4 (none)) from rfl)), rfl⟩
theorem zcw_143 : zcw 143 ∈ zT0 := List.mem_filter.mpr ⟨ztb_in (k := 7) (List.mem_of_getElem? (i := 112) (show _ = some (Jvm.Cond.code yX11_get cX11_get 2 (none)) from rfl)), rfl⟩
theorem zcw_144 : zcw 144 ∈ zT0 := List.mem_filter.mpr ⟨ztb_in (k := 7) (List.mem_of_getElem? (i := 152) (show _ = some (Jvm.Cond.code yX11_giveOut cX11_giveOut 5 (none)) from rfl)), rfl⟩
theorem zcw_145 : zcw 145 ∈ zT0 := List.mem_filter.mpr ⟨ztb_in (k := 7) (List.mem_of_getElem? (i := 136) (show _ = some (Jvm.Cond.code yX11_stuck cX11_stuck 4 (some .int)) from rfl)), rfl⟩
theorem zcw_146 : zcw 146 ∈ zT0 := List.mem_filter.mpr ⟨ztb_in (k := 7) (List.mem_of_getElem? (i := 140) (show _ = some (Jvm.Cond.code yX11_heldBy cX11_heldBy 5 (some .int)) from rfl)), rfl⟩
theorem zcw_147 : zcw 147 ∈ zT0 := List.mem_filter.mpr ⟨ztb_in (k := 7) (List.mem_of_getElem? (i := 148) (show _ = some (Jvm.Cond.code yX11_pass cX11_pass 2 (none)) from rfl)), rfl⟩
theorem zcw_148 : zcw 148 ∈ zT0 := List.mem_filter.mpr ⟨ztb_in (k := 7) (List.mem_of_getElem? (i := 158) (show _ = some (Jvm.Cond.code yX11_act cX11_act 6 (none)) from rfl)), rfl⟩
theorem zcw_149 : zcw 149 ∈ zT0 := List.mem_filter.mpr ⟨ztb_in (k := 7) (List.mem_of_getElem? (i := 163) (show _ = some (Jvm.Cond.code yX11_cut cX11_cut 6 (some .boolean)) from rfl)), rfl⟩
theorem zcw_150 : zcw 150 ∈ zT0 := List.mem_filter.mpr ⟨ztb_in (k := 7) (List.mem_of_getElem? (i := 193) (show _ = some (Jvm.Cond.code yX11_warm cX11_warm 3 (none)) from rfl)), rfl⟩
theorem zcw_151 : zcw 151 ∈ zT0 := List.mem_filter.mpr ⟨ztb_in (k := 7) (List.mem_of_getElem? (i := 197) (show _ = some (Jvm.Cond.code yX11_moisten cX11_moisten 3 (none)) from rfl)), rfl⟩
theorem zcw_152 : zcw 152 ∈ zT0 := List.mem_filter.mpr ⟨ztb_in (k := 7) (List.mem_of_getElem? (i := 205) (show _ = some (Jvm.Cond.code yX11_treat cX11_treat 4 (some .boolean)) from rfl)), rfl⟩
theorem zcw_153 : zcw 153 ∈ zT0 := List.mem_filter.mpr ⟨ztb_in (k := 7) (List.mem_of_getElem? (i := 174) (show _ = some (Jvm.Cond.code yX11_bend cX11_bend 7 (some .boolean)) from rfl)), rfl⟩
theorem zcw_154 : zcw 154 ∈ zT0 := List.mem_filter.mpr ⟨ztb_in (k := 7) (List.mem_of_getElem? (i := 201) (show _ = some (Jvm.Cond.code yX11_fit cX11_fit 4 (some .boolean)) from rfl)), rfl⟩
theorem zcw_155 : zcw 155 ∈ zT0 := List.mem_filter.mpr ⟨ztb_in (k := 7) (List.mem_of_getElem? (i := 184) (show _ = some (Jvm.Cond.code yX11_clearPiece cX11_clearPiece 3 (none)) from rfl)), rfl⟩
theorem zcw_156 : zcw 156 ∈ zT0 := List.mem_filter.mpr ⟨ztb_in (k := 7) (List.mem_of_getElem? (i := 180) (show _ = some (Jvm.Cond.code yX11_lose cX11_lose 2 (some .boolean)) from rfl)), rfl⟩
theorem zcw_157 : zcw 157 ∈ zT0 := List.mem_filter.mpr ⟨ztb_in (k := 7) (List.mem_of_getElem? (i := 209) (show _ = some (Jvm.Cond.code yX11_finish cX11_finish 3 (none)) from rfl)), rfl⟩
theorem zcw_158 : zcw 158 ∈ zT0 := List.mem_filter.mpr ⟨ztb_in (k := 7) (List.mem_of_getElem? (i := 124) (show _ = some (Jvm.Cond.code yX11_slip cX11_slip 4 (some .int)) from rfl)), rfl⟩
theorem zcw_159 : zcw 159 ∈ zT0 := List.mem_filter.mpr ⟨ztb_in (k := 7) (List.mem_of_getElem? (i := 103) (show _ = some (Jvm.Cond.code yX11_counted cX11_counted 5 (some .int)) from rfl)), rfl⟩
theorem zcw_160 : zcw 160 ∈ zT0 := List.mem_filter.mpr ⟨ztb_in (k := 5) (List.mem_of_getElem? (i := 179) (show _ = some (Jvm.Cond.code yX12_init cX12_init 1 (none)) from rfl)), rfl⟩
theorem zcw_161 : zcw 161 ∈ zT0 := List.mem_filter.mpr ⟨ztb_in (k := 6) (List.mem_of_getElem? (i := 142) (show _ = some (Jvm.Cond.code yX12_thrown cX12_thrown 1 (some .int)) from rfl)), rfl⟩
theorem zcw_162 : zcw 162 ∈ zT0 := List.mem_filter.mpr ⟨ztb_in (k := 6) (List.mem_of_getElem? (i := 150) (show _ = some (Jvm.Cond.code yX12_no cX12_no 2 (some .int)) from rfl)), rfl⟩
theorem zcw_163 : zcw 163 ∈ zT0 := List.mem_filter.mpr ⟨ztb_in (k := 6) (List.mem_of_getElem? (i := 157) (show _ = some (Jvm.Cond.code yX12_isIn cX12_isIn 3 (some .boolean)) from rfl)), rfl⟩
theorem zcw_164 : zcw 164 ∈ zT0 := List.mem_filter.mpr ⟨ztb_in (k := 6) (List.mem_of_getElem? (i := 146) (show _ = some (Jvm.Cond.code yX12_feed cX12_feed 12 (some .int)) from rfl)), rfl⟩
theorem zcw_165 : zcw 165 ∈ zT0 := List.mem_filter.mpr ⟨ztb_in (k := 6) (List.mem_of_getElem? (i := 154) (show _ = some (Jvm.Cond.code yX12_trim cX12_trim 2 (some .int)) from rfl)), rfl⟩
theorem zcw_166 : zcw 166 ∈ zT0 := List.mem_filter.mpr ⟨ztb_in (k := 6) (List.mem_of_getElem? (i := 169) (show _ = some (Jvm.Cond.code yX12_tapeAt cX12_tapeAt 2 (some .int)) from rfl)), rfl⟩
theorem zcw_167 : zcw 167 ∈ zT0 := List.mem_filter.mpr ⟨ztb_in (k := 6) (List.mem_of_getElem? (i := 173) (show _ = some (Jvm.Cond.code yX12_isLetter cX12_isLetter 2 (some .boolean)) from rfl)), rfl⟩
theorem zcw_168 : zcw 168 ∈ zT0 := List.mem_filter.mpr ⟨ztb_in (k := 6) (List.mem_of_getElem? (i := 177) (show _ = some (Jvm.Cond.code yX12_isDigit cX12_isDigit 2 (some .boolean)) from rfl)), rfl⟩
theorem zcw_169 : zcw 169 ∈ zT0 := List.mem_filter.mpr ⟨ztb_in (k := 6) (List.mem_of_getElem? (i := 165) (show _ = some (Jvm.Cond.code yX12_scan cX12_scan 6 (none)) from rfl)), rfl⟩
theorem zcw_170 : zcw 170 ∈ zT0 := List.mem_filter.mpr ⟨ztb_in (k := 6) (List.mem_of_getElem? (i := 190) (show _ = some (Jvm.Cond.code yX12_is cX12_is 5 (some .boolean)) from rfl)), rfl⟩
theorem zcw_171 : zcw 171 ∈ zT0 := List.mem_filter.mpr ⟨ztb_in (k := 6) (List.mem_of_getElem? (i := 208) (show _ = some (Jvm.Cond.code yX12_which cX12_which 5 (some .int)) from rfl)), rfl⟩
theorem zcw_172 : zcw 172 ∈ zT0 := List.mem_filter.mpr ⟨ztb_in (k := 6) (List.mem_of_getElem? (i := 231) (show _ = some (Jvm.Cond.code yX12_numberAt cX12_numberAt 4 (some .int)) from rfl)), rfl⟩
theorem zcw_173 : zcw 173 ∈ zT0 := List.mem_filter.mpr ⟨ztb_in (k := 6) (List.mem_of_getElem? (i := 198) (show _ = some (Jvm.Cond.code yX12_takes cX12_takes 2 (some .boolean)) from rfl)), rfl⟩
theorem zcw_174 : zcw 174 ∈ zT0 := List.mem_filter.mpr ⟨ztb_in (k := 6) (List.mem_of_getElem? (i := 181) (show _ = some (Jvm.Cond.code yX12_planForm cX12_planForm 1 (some .boolean)) from rfl)), rfl⟩
theorem zcw_175 : zcw 175 ∈ zT0 := List.mem_filter.mpr ⟨ztb_in (k := 6) (List.mem_of_getElem? (i := 185) (show _ = some (Jvm.Cond.code yX12_stepForm cX12_stepForm 2 (some .boolean)) from rfl)), rfl⟩
theorem zcw_176 : zcw 176 ∈ zT0 := List.mem_filter.mpr ⟨ztb_in (k := 6) (List.mem_of_getElem? (i := 202) (show _ = some (Jvm.Cond.code yX12_actionForm cX12_actionForm 3 (some .boolean)) from rfl)), rfl⟩
theorem zcw_177 : zcw 177 ∈ zT0 := List.mem_filter.mpr ⟨ztb_in (k := 6) (List.mem_of_getElem? (i := 219) (show _ = some (Jvm.Cond.code yX12_wrong cX12_wrong 3 (some .boolean)) from rfl)), rfl⟩
theorem zcw_178 : zcw 178 ∈ zT0 := List.mem_filter.mpr ⟨ztb_in (k := 6) (List.mem_of_getElem? (i := 223) (show _ = some (Jvm.Cond.code yX12_go cX12_go 3 (some .boolean)) from rfl)), rfl⟩
theorem zcw_179 : zcw 179 ∈ zT0 := List.mem_filter.mpr ⟨ztb_in (k := 6) (List.mem_of_getElem? (i := 227) (show _ = some (Jvm.Cond.code yX12_goTimes cX12_goTimes 5 (some .boolean)) from rfl)), rfl⟩
theorem zcw_180 : zcw 180 ∈ zT0 := List.mem_filter.mpr ⟨ztb_in (k := 6) (List.mem_of_getElem? (i := 239) (show _ = some (Jvm.Cond.code yX12_isMisplaced cX12_isMisplaced 3 (some .boolean)) from rfl)), rfl⟩
theorem zcw_181 : zcw 181 ∈ zT0 := List.mem_filter.mpr ⟨ztb_in (k := 6) (List.mem_of_getElem? (i := 235) (show _ = some (Jvm.Cond.code yX12_goAction cX12_goAction 6 (some .boolean)) from rfl)), rfl⟩
theorem zcw_182 : zcw 182 ∈ zT0 := List.mem_filter.mpr ⟨ztb_in (k := 6) (List.mem_of_getElem? (i := 161) (show _ = some (Jvm.Cond.code yX12_compile cX12_compile 2 (some .int)) from rfl)), rfl⟩
theorem zcw_183 : zcw 183 ∈ zT0 := List.mem_filter.mpr ⟨ztb_in (k := 7) (List.mem_of_getElem? (i := 8) (show _ = some (Jvm.Cond.code yX12_errorAt cX12_errorAt 1 (some .int)) from rfl)), rfl⟩
theorem zcw_184 : zcw 184 ∈ zT0 := List.mem_filter.mpr ⟨ztb_in (k := 7) (List.mem_of_getElem? (i := 16) (show _ = some (Jvm.Cond.code yX12_planTold cX12_planTold 8 (some .int)) from rfl)), rfl⟩
theorem zcw_185 : zcw 185 ∈ zT0 := List.mem_filter.mpr ⟨ztb_in (k := 7) (List.mem_of_getElem? (i := 12) (show _ = some (Jvm.Cond.code yX12_plan cX12_plan 3 (some .int)) from rfl)), rfl⟩
theorem zcw_186 : zcw 186 ∈ zT0 := List.mem_filter.mpr ⟨ztb_in (k := 7) (List.mem_of_getElem? (i := 20) (show _ = some (Jvm.Cond.code yX12_addPlank cX12_addPlank 4 (some .int)) from rfl)), rfl⟩
theorem zcw_187 : zcw 187 ∈ zT0 := List.mem_filter.mpr ⟨ztb_in (k := 7) (List.mem_of_getElem? (i := 32) (show _ = some (Jvm.Cond.code yX12_isPlank cX12_isPlank 2 (some .boolean)) from rfl)), rfl⟩
theorem zcw_188 : zcw 188 ∈ zT0 := List.mem_filter.mpr ⟨ztb_in (k := 7) (List.mem_of_getElem? (i := 28) (show _ = some (Jvm.Cond.code yX12_addKnot cX12_addKnot 3 (some .int)) from rfl)), rfl⟩
theorem zcw_189 : zcw 189 ∈ zT0 := List.mem_filter.mpr ⟨ztb_in (k := 7) (List.mem_of_getElem? (i := 48) (show _ = some (Jvm.Cond.code yX12_plankTold cX12_plankTold 3 (some .int)) from rfl)), rfl⟩
theorem zcw_190 : zcw 190 ∈ zT0 := List.mem_filter.mpr ⟨ztb_in (k := 7) (List.mem_of_getElem? (i := 44) (show _ = some (Jvm.Cond.code yX12_plank cX12_plank 3 (some .int)) from rfl)), rfl⟩
theorem zcw_191 : zcw 191 ∈ zT0 := List.mem_filter.mpr ⟨ztb_in (k := 7) (List.mem_of_getElem? (i := 58) (show _ = some (Jvm.Cond.code yX12_find cX12_find 5 (some .int)) from rfl)), rfl⟩
theorem zcw_192 : zcw 192 ∈ zT0 := List.mem_filter.mpr ⟨ztb_in (k := 7) (List.mem_of_getElem? (i := 71) (show _ = some (Jvm.Cond.code yX12_addFrame cX12_addFrame 2 (some .int)) from rfl)), rfl⟩
theorem zcw_193 : zcw 193 ∈ zT0 := List.mem_filter.mpr ⟨ztb_in (k := 7) (List.mem_of_getElem? (i := 79) (show _ = some (Jvm.Cond.code yX12_frameTold cX12_frameTold 3 (some .int)) from rfl)), rfl⟩
theorem zcw_194 : zcw 194 ∈ zT0 := List.mem_filter.mpr ⟨ztb_in (k := 7) (List.mem_of_getElem? (i := 75) (show _ = some (Jvm.Cond.code yX12_frames cX12_frames 3 (some .int)) from rfl)), rfl⟩
theorem zcw_195 : zcw 195 ∈ zT0 := List.mem_filter.mpr ⟨ztb_in (k := 7) (List.mem_of_getElem? (i := 91) (show _ = some (Jvm.Cond.code yX12_addSlip cX12_addSlip 1 (some .int)) from rfl)), rfl⟩
theorem zcw_196 : zcw 196 ∈ zT0 := List.mem_filter.mpr ⟨ztb_in (k := 7) (List.mem_of_getElem? (i := 99) (show _ = some (Jvm.Cond.code yX12_isSlip cX12_isSlip 2 (some .boolean)) from rfl)), rfl⟩
theorem zcw_197 : zcw 197 ∈ zT0 := List.mem_filter.mpr ⟨ztb_in (k := 7) (List.mem_of_getElem? (i := 95) (show _ = some (Jvm.Cond.code yX12_start cX12_start 4 (some .int)) from rfl)), rfl⟩
theorem zcw_198 : zcw 198 ∈ zT0 := List.mem_filter.mpr ⟨ztb_in (k := 7) (List.mem_of_getElem? (i := 108) (show _ = some (Jvm.Cond.code yX12_lend cX12_lend 4 (some .int)) from rfl)), rfl⟩
theorem zcw_199 : zcw 199 ∈ zT0 := List.mem_filter.mpr ⟨ztb_in (k := 7) (List.mem_of_getElem? (i := 120) (show _ = some (Jvm.Cond.code yX12_slip cX12_slip 3 (some .int)) from rfl)), rfl⟩
theorem zcw_200 : zcw 200 ∈ zT0 := List.mem_filter.mpr ⟨ztb_in (k := 7) (List.mem_of_getElem? (i := 128) (show _ = some (Jvm.Cond.code yX12_bend cX12_bend 4 (some .int)) from rfl)), rfl⟩
theorem zcw_201 : zcw 201 ∈ zT0 := List.mem_filter.mpr ⟨ztb_in (k := 7) (List.mem_of_getElem? (i := 132) (show _ = some (Jvm.Cond.code yX12_stuck cX12_stuck 1 (some .int)) from rfl)), rfl⟩
theorem zcw_202 : zcw 202 ∈ zT0 := List.mem_filter.mpr ⟨ztb_in (k := 7) (List.mem_of_getElem? (i := 144) (show _ = some (Jvm.Cond.code yX12_run cX12_run 4 (some .int)) from rfl)), rfl⟩
theorem zcw_203 : zcw 203 ∈ zT0 := List.mem_filter.mpr ⟨ztb_in (k := 7) (List.mem_of_getElem? (i := 214) (show _ = some (Jvm.Cond.code yX12_count cX12_count 2 (some .int)) from rfl)), rfl⟩
theorem zcw_204 : zcw 204 ∈ zT0 := List.mem_filter.mpr ⟨ztb_in (k := 7) (List.mem_of_getElem? (i := 222) (show _ = some (Jvm.Cond.code yX12_kept cX12_kept 1 (some .int)) from rfl)), rfl⟩
theorem zcw_205 : zcw 205 ∈ zT0 := List.mem_filter.mpr ⟨ztb_in (k := 7) (List.mem_of_getElem? (i := 218) (show _ = some (Jvm.Cond.code yX12_hull cX12_hull 3 (some .int)) from rfl)), rfl⟩
theorem zcw_206 : zcw 206 ∈ zT0 := List.mem_filter.mpr ⟨ztb_in (k := 7) (List.mem_of_getElem? (i := 227) (show _ = some (Jvm.Cond.code yX12_foresee cX12_foresee 5 (some .int)) from rfl)), rfl⟩
theorem zcw_207 : zcw 207 ∈ zT0 := List.mem_filter.mpr ⟨ztb_in (k := 8) (List.mem_of_getElem? (i := 1) (show _ = some (Jvm.Cond.code yX12_flaw cX12_flaw 4 (some .double)) from rfl)), rfl⟩
theorem zcw_208 : zcw 208 ∈ zT0 := List.mem_filter.mpr ⟨ztb_in (k := 8) (List.mem_of_getElem? (i := 5) (show _ = some (Jvm.Cond.code yX12_digest cX12_digest 5 (some .long)) from rfl)), rfl⟩
theorem zcw_209 : zcw 209 ∈ zT0 := List.mem_filter.mpr ⟨ztb_in (k := 3) (List.mem_of_getElem? (i := 142) (show _ = some (Jvm.Cond.code yJ0_length_8abf5 cJ0_length_8abf5 1 (some .int)) from rfl)), rfl⟩
theorem zcw_210 : zcw 210 ∈ zT0 := List.mem_filter.mpr ⟨ztb_in (k := 3) (List.mem_of_getElem? (i := 152) (show _ = some (Jvm.Cond.code yJ0_charAt_5068e cJ0_charAt_5068e 2 (some .char)) from rfl)), rfl⟩
theorem zcw_211 : zcw 211 ∈ zT0 := List.mem_filter.mpr ⟨ztb_in (k := 3) (List.mem_of_getElem? (i := 146) (show _ = some (Jvm.Cond.code yJ0_coder_7d493 cJ0_coder_7d493 1 (some .byte)) from rfl)), rfl⟩
theorem zcw_212 : zcw 212 ∈ zT0 := List.mem_filter.mpr ⟨ztb_in (k := 3) (List.mem_of_getElem? (i := 156) (show _ = some (Jvm.Cond.code yJ0_isLatin1_aae02 cJ0_isLatin1_aae02 1 (some .boolean)) from rfl)), rfl⟩
theorem zcw_213 : zcw 213 ∈ zT0 := List.mem_filter.mpr ⟨ztb_in (k := 3) (List.mem_of_getElem? (i := 162) (show _ = some (Jvm.Cond.code yJ0_checkIndex_df160 cJ0_checkIndex_df160 2 (none)) from rfl)), rfl⟩
theorem zcw_214 : zcw 214 ∈ zT0 := List.mem_filter.mpr ⟨ztb_in (k := 3) (List.mem_of_getElem? (i := 159) (show _ = some (Jvm.Cond.code yJ1_charAt_3b067 cJ1_charAt_3b067 2 (some .char)) from rfl)), rfl⟩
theorem zcw_215 : zcw 215 ∈ zT0 := List.mem_filter.mpr ⟨ztb_in (k := 3) (List.mem_of_getElem? (i := 180) (show _ = some (Jvm.Cond.code yJ2_getChar_3b067 cJ2_getChar_3b067 2 (some .char)) from rfl)), rfl⟩
theorem zcw_216 : zcw 216 ∈ zT0 := List.mem_filter.mpr ⟨ztb_in (k := 3) (List.mem_of_getElem? (i := 176) (show _ = some (Jvm.Cond.code yJ2_length_9d52b cJ2_length_9d52b 1 (some .int)) from rfl)), rfl⟩
theorem zcw_217 : zcw 217 ∈ zT0 := List.mem_filter.mpr ⟨ztb_in (k := 3) (List.mem_of_getElem? (i := 170) (show _ = some (Jvm.Cond.code yJ2_charAt_3b067 cJ2_charAt_3b067 2 (some .char)) from rfl)), rfl⟩
theorem zcw_218 : zcw 218 ∈ zT0 := List.mem_filter.mpr ⟨ztb_in (k := 3) (List.mem_of_getElem? (i := 173) (show _ = some (Jvm.Cond.code yJ2_checkIndex_2214a cJ2_checkIndex_2214a 2 (none)) from rfl)), rfl⟩
theorem zcw_219 : zcw 219 ∈ zT0 := List.mem_filter.mpr ⟨ztb_in (k := 3) (List.mem_of_getElem? (i := 167) (show _ = some (Jvm.Cond.code yJ3_checkIndex_8e157 cJ3_checkIndex_8e157 3 (some .int)) from rfl)), rfl⟩
theorem zcw_220 : zcw 220 ∈ zT0 := List.mem_filter.mpr ⟨ztb_in (k := 7) (List.mem_of_getElem? (i := 187) (show _ = some (Jvm.Cond.code yJ6_signum_0f7a4 cJ6_signum_0f7a4 1 (some .int)) from rfl)), rfl⟩
theorem zcw_221 : zcw 221 ∈ zT0 := List.mem_filter.mpr ⟨ztb_in (k := 3) (List.mem_of_getElem? (i := 237) (show _ = some (Jvm.Cond.code yJ7_fill_53178 cJ7_fill_53178 4 (none)) from rfl)), rfl⟩
theorem zcw_222 : zcw 222 ∈ zT0 := List.mem_filter.mpr ⟨ztb_in (k := 5) (List.mem_of_getElem? (i := 59) (show _ = some (Jvm.Cond.code yJ9_abs_0f7a4 cJ9_abs_0f7a4 1 (some .int)) from rfl)), rfl⟩
theorem zcw_223 : zcw 223 ∈ zT0 := List.mem_filter.mpr ⟨ztb_in (k := 2) (List.mem_of_getElem? (i := 196) (show _ = some (Jvm.Cond.code yJ9_max_7cf53 cJ9_max_7cf53 2 (some .int)) from rfl)), rfl⟩
theorem zcw_224 : zcw 224 ∈ zT0 := List.mem_filter.mpr ⟨ztb_in (k := 2) (List.mem_of_getElem? (i := 155) (show _ = some (Jvm.Cond.code yJ9_min_7cf53 cJ9_min_7cf53 2 (some .int)) from rfl)), rfl⟩
theorem zcw_225 : zcw 225 ∈ zT0 := List.mem_filter.mpr ⟨ztb_in (k := 2) (List.mem_of_getElem? (i := 213) (show _ = some (Jvm.Cond.codeWith yL_feed cL_feed 8 (some .int) [(0, 16, 19, 13)]) from rfl)), rfl⟩
theorem zcw_226 : zcw 226 ∈ zT0 := List.mem_filter.mpr ⟨ztb_in (k := 3) (List.mem_of_getElem? (i := 52) (show _ = some (Jvm.Cond.codeWith yL_trim cL_trim 4 (some .int) [(0, 9, 12, 19)]) from rfl)), rfl⟩
theorem zcw_227 : zcw 227 ∈ zT0 := List.mem_filter.mpr ⟨ztb_in (k := 3) (List.mem_of_getElem? (i := 76) (show _ = some (Jvm.Cond.codeWith yL_compile cL_compile 4 (some .int) [(0, 9, 12, 24)]) from rfl)), rfl⟩
theorem zcw_228 : zcw 228 ∈ zT0 := List.mem_filter.mpr ⟨ztb_in (k := 4) (List.mem_of_getElem? (i := 61) (show _ = some (Jvm.Cond.codeWith yL_plan cL_plan 5 (some .int) [(0, 10, 13, 24)]) from rfl)), rfl⟩
theorem zcw_229 : zcw 229 ∈ zT0 := List.mem_filter.mpr ⟨ztb_in (k := 4) (List.mem_of_getElem? (i := 69) (show _ = some (Jvm.Cond.codeWith yL_addPlank cL_addPlank 6 (some .int) [(0, 12, 15, 19), (0, 12, 19, 13)]) from rfl)), rfl⟩
theorem zcw_230 : zcw 230 ∈ zT0 := List.mem_filter.mpr ⟨ztb_in (k := 4) (List.mem_of_getElem? (i := 86) (show _ = some (Jvm.Cond.codeWith yL_addKnot cL_addKnot 5 (some .int) [(0, 10, 13, 24), (0, 10, 17, 19), (0, 10, 21, 13)]) from rfl)), rfl⟩
theorem zcw_231 : zcw 231 ∈ zT0 := List.mem_filter.mpr ⟨ztb_in (k := 4) (List.mem_of_getElem? (i := 104) (show _ = some (Jvm.Cond.codeWith yL_plank cL_plank 5 (some .int) [(0, 10, 13, 24)]) from rfl)), rfl⟩
theorem zcw_232 : zcw 232 ∈ zT0 := List.mem_filter.mpr ⟨ztb_in (k := 4) (List.mem_of_getElem? (i := 112) (show _ = some (Jvm.Cond.codeWith yL_find cL_find 6 (some .int) [(0, 12, 15, 19)]) from rfl)), rfl⟩
theorem zcw_233 : zcw 233 ∈ zT0 := List.mem_filter.mpr ⟨ztb_in (k := 4) (List.mem_of_getElem? (i := 129) (show _ = some (Jvm.Cond.codeWith yL_addFrame cL_addFrame 4 (some .int) [(0, 9, 12, 19), (0, 9, 15, 13)]) from rfl)), rfl⟩
theorem zcw_234 : zcw 234 ∈ zT0 := List.mem_filter.mpr ⟨ztb_in (k := 4) (List.mem_of_getElem? (i := 138) (show _ = some (Jvm.Cond.codeWith yL_frames cL_frames 5 (some .int) [(0, 10, 13, 24)]) from rfl)), rfl⟩
theorem zcw_235 : zcw 235 ∈ zT0 := List.mem_filter.mpr ⟨ztb_in (k := 4) (List.mem_of_getElem? (i := 146) (show _ = some (Jvm.Cond.codeWith yL_addSlip cL_addSlip 3 (some .int) [(0, 8, 11, 13)]) from rfl)), rfl⟩
theorem zcw_236 : zcw 236 ∈ zT0 := List.mem_filter.mpr ⟨ztb_in (k := 4) (List.mem_of_getElem? (i := 154) (show _ = some (Jvm.Cond.codeWith yL_start cL_start 6 (some .int) [(0, 12, 15, 24), (0, 12, 19, 19), (0, 12, 23, 13)]) from rfl)), rfl⟩
theorem zcw_237 : zcw 237 ∈ zT0 := List.mem_filter.mpr ⟨ztb_in (k := 4) (List.mem_of_getElem? (i := 169) (show _ = some (Jvm.Cond.codeWith yL_lend cL_lend 6 (some .int) [(0, 12, 15, 24), (0, 12, 19, 19), (0, 12, 23, 13)]) from rfl)), rfl⟩
theorem zcw_238 : zcw 238 ∈ zT0 := List.mem_filter.mpr ⟨ztb_in (k := 4) (List.mem_of_getElem? (i := 195) (show _ = some (Jvm.Cond.codeWith yL_slip cL_slip 5 (some .int) [(0, 10, 13, 24)]) from rfl)), rfl⟩
theorem zcw_239 : zcw 239 ∈ zT0 := List.mem_filter.mpr ⟨ztb_in (k := 4) (List.mem_of_getElem? (i := 203) (show _ = some (Jvm.Cond.codeWith yL_bend cL_bend 6 (some .int) [(0, 12, 15, 24)]) from rfl)), rfl⟩
theorem zcw_240 : zcw 240 ∈ zT0 := List.mem_filter.mpr ⟨ztb_in (k := 4) (List.mem_of_getElem? (i := 211) (show _ = some (Jvm.Cond.codeWith yL_run cL_run 4 (some .int) [(0, 9, 12, 19)]) from rfl)), rfl⟩
theorem zcw_241 : zcw 241 ∈ zT0 := List.mem_filter.mpr ⟨ztb_in (k := 5) (List.mem_of_getElem? (i := 127) (show _ = some (Jvm.Cond.codeWith yL_count cL_count 4 (some .int) [(0, 9, 12, 24)]) from rfl)), rfl⟩
theorem zcw_242 : zcw 242 ∈ zT0 := List.mem_filter.mpr ⟨ztb_in (k := 5) (List.mem_of_getElem? (i := 135) (show _ = some (Jvm.Cond.codeWith yL_hull cL_hull 5 (some .int) [(0, 10, 13, 24)]) from rfl)), rfl⟩
theorem zcw_243 : zcw 243 ∈ zT0 := List.mem_filter.mpr ⟨ztb_in (k := 5) (List.mem_of_getElem? (i := 143) (show _ = some (Jvm.Cond.codeWith yL_foresee cL_foresee 5 (some .int) [(0, 10, 13, 19), (0, 10, 17, 24)]) from rfl)), rfl⟩
theorem zcwc_0 : ∀ K ∈ ([0, 1, 2, 3, 4, 5, 6, 7, 8, 9, 10, 11, 12, 13, 14, 15, 16, 17, 18, 19, 20, 21, 22, 23, 24, 25, 26, 27, 28, 29, 30] : List Nat), zcw K ∈ zT0 := List.forall_mem_cons.mpr ⟨zcw_0, List.forall_mem_cons.mpr ⟨zcw_1, List.forall_mem_cons.mpr ⟨zcw_2, List.forall_mem_cons.mpr ⟨zcw_3, List.forall_mem_cons.mpr ⟨zcw_4, List.forall_mem_cons.mpr ⟨zcw_5, List.forall_mem_cons.mpr ⟨zcw_6, List.forall_mem_cons.mpr ⟨zcw_7, List.forall_mem_cons.mpr ⟨zcw_8, List.forall_mem_cons.mpr ⟨zcw_9, List.forall_mem_cons.mpr ⟨zcw_10, List.forall_mem_cons.mpr ⟨zcw_11, List.forall_mem_cons.mpr ⟨zcw_12, List.forall_mem_cons.mpr ⟨zcw_13, List.forall_mem_cons.mpr ⟨zcw_14, List.forall_mem_cons.mpr ⟨zcw_15, List.forall_mem_cons.mpr ⟨zcw_16, List.forall_mem_cons.mpr ⟨zcw_17, List.forall_mem_cons.mpr ⟨zcw_18, List.forall_mem_cons.mpr ⟨zcw_19, List.forall_mem_cons.mpr ⟨zcw_20, List.forall_mem_cons.mpr ⟨zcw_21, List.forall_mem_cons.mpr ⟨zcw_22, List.forall_mem_cons.mpr ⟨zcw_23, List.forall_mem_cons.mpr ⟨zcw_24, List.forall_mem_cons.mpr ⟨zcw_25, List.forall_mem_cons.mpr ⟨zcw_26, List.forall_mem_cons.mpr ⟨zcw_27, List.forall_mem_cons.mpr ⟨zcw_28, List.forall_mem_cons.mpr ⟨zcw_29, List.forall_mem_cons.mpr ⟨zcw_30, fun _ h => absurd h List.not_mem_nil⟩⟩⟩⟩⟩⟩⟩⟩⟩⟩⟩⟩⟩⟩⟩⟩⟩⟩⟩⟩⟩⟩⟩⟩⟩⟩⟩⟩⟩⟩⟩
theorem zcwc_1 : ∀ K ∈ ([31, 32, 33, 34, 35, 36, 37, 38, 39, 40, 41, 42, 43, 44, 45, 46, 47, 48, 49, 50, 51, 52, 53, 54, 55, 56, 57, 58, 59, 60, 61] : List Nat), zcw K ∈ zT0 := List.forall_mem_cons.mpr ⟨zcw_31, List.forall_mem_cons.mpr ⟨zcw_32, List.forall_mem_cons.mpr ⟨zcw_33, List.forall_mem_cons.mpr ⟨zcw_34, List.forall_mem_cons.mpr ⟨zcw_35, List.forall_mem_cons.mpr ⟨zcw_36, List.forall_mem_cons.mpr ⟨zcw_37, List.forall_mem_cons.mpr ⟨zcw_38, List.forall_mem_cons.mpr ⟨zcw_39, List.forall_mem_cons.mpr ⟨zcw_40, List.forall_mem_cons.mpr ⟨zcw_41, List.forall_mem_cons.mpr ⟨zcw_42, List.forall_mem_cons.mpr ⟨zcw_43, List.forall_mem_cons.mpr ⟨zcw_44, List.forall_mem_cons.mpr ⟨zcw_45, List.forall_mem_cons.mpr ⟨zcw_46, List.forall_mem_cons.mpr ⟨zcw_47, List.forall_mem_cons.mpr ⟨zcw_48, List.forall_mem_cons.mpr ⟨zcw_49, List.forall_mem_cons.mpr ⟨zcw_50, List.forall_mem_cons.mpr ⟨zcw_51, List.forall_mem_cons.mpr ⟨zcw_52, List.forall_mem_cons.mpr ⟨zcw_53, List.forall_mem_cons.mpr ⟨zcw_54, List.forall_mem_cons.mpr ⟨zcw_55, List.forall_mem_cons.mpr ⟨zcw_56, List.forall_mem_cons.mpr ⟨zcw_57, List.forall_mem_cons.mpr ⟨zcw_58, List.forall_mem_cons.mpr ⟨zcw_59, List.forall_mem_cons.mpr ⟨zcw_60, List.forall_mem_cons.mpr ⟨zcw_61, fun _ h => absurd h List.not_mem_nil⟩⟩⟩⟩⟩⟩⟩⟩⟩⟩⟩⟩⟩⟩⟩⟩⟩⟩⟩⟩⟩⟩⟩⟩⟩⟩⟩⟩⟩⟩⟩
theorem zcwc_2 : ∀ K ∈ ([62, 63, 64, 65, 66, 67, 68, 69, 70, 71, 72, 73, 74, 75, 76, 77, 78, 79, 80, 81, 82, 83, 84, 85, 86, 87, 88, 89, 90, 91, 92] : List Nat), zcw K ∈ zT0 := List.forall_mem_cons.mpr ⟨zcw_62, List.forall_mem_cons.mpr ⟨zcw_63, List.forall_mem_cons.mpr ⟨zcw_64, List.forall_mem_cons.mpr ⟨zcw_65, List.forall_mem_cons.mpr ⟨zcw_66, List.forall_mem_cons.mpr ⟨zcw_67, List.forall_mem_cons.mpr ⟨zcw_68, List.forall_mem_cons.mpr ⟨zcw_69, List.forall_mem_cons.mpr ⟨zcw_70, List.forall_mem_cons.mpr ⟨zcw_71, List.forall_mem_cons.mpr ⟨zcw_72, List.forall_mem_cons.mpr ⟨zcw_73, List.forall_mem_cons.mpr ⟨zcw_74, List.forall_mem_cons.mpr ⟨zcw_75, List.forall_mem_cons.mpr ⟨zcw_76, List.forall_mem_cons.mpr ⟨zcw_77, List.forall_mem_cons.mpr ⟨zcw_78, List.forall_mem_cons.mpr ⟨zcw_79, List.forall_mem_cons.mpr ⟨zcw_80, List.forall_mem_cons.mpr ⟨zcw_81, List.forall_mem_cons.mpr ⟨zcw_82, List.forall_mem_cons.mpr ⟨zcw_83, List.forall_mem_cons.mpr ⟨zcw_84, List.forall_mem_cons.mpr ⟨zcw_85, List.forall_mem_cons.mpr ⟨zcw_86, List.forall_mem_cons.mpr ⟨zcw_87, List.forall_mem_cons.mpr ⟨zcw_88, List.forall_mem_cons.mpr ⟨zcw_89, List.forall_mem_cons.mpr ⟨zcw_90, List.forall_mem_cons.mpr ⟨zcw_91, List.forall_mem_cons.mpr ⟨zcw_92, fun _ h => absurd h List.not_mem_nil⟩⟩⟩⟩⟩⟩⟩⟩⟩⟩⟩⟩⟩⟩⟩⟩⟩⟩⟩⟩⟩⟩⟩⟩⟩⟩⟩⟩⟩⟩⟩
theorem zcwc_3 : ∀ K ∈ ([93, 94, 95, 96, 97, 98, 99, 100, 101, 102, 103, 104, 105, 106, 107, 108, 109, 110, 111, 112, 113, 114, 115, 116, 117, 118, 119, 120, 121, 122, 123] : List Nat), zcw K ∈ zT0 := List.forall_mem_cons.mpr ⟨zcw_93, List.forall_mem_cons.mpr ⟨zcw_94, List.forall_mem_cons.mpr ⟨zcw_95, List.forall_mem_cons.mpr ⟨zcw_96, List.forall_mem_cons.mpr ⟨zcw_97, List.forall_mem_cons.mpr ⟨zcw_98, List.forall_mem_cons.mpr ⟨zcw_99, List.forall_mem_cons.mpr ⟨zcw_100, List.forall_mem_cons.mpr ⟨zcw_101, List.forall_mem_cons.mpr ⟨zcw_102, List.forall_mem_cons.mpr ⟨zcw_103, List.forall_mem_cons.mpr ⟨zcw_104, List.forall_mem_cons.mpr ⟨zcw_105, List.forall_mem_cons.mpr ⟨zcw_106, List.forall_mem_cons.mpr ⟨zcw_107, List.forall_mem_cons.mpr ⟨zcw_108, List.forall_mem_cons.mpr ⟨zcw_109, List.forall_mem_cons.mpr ⟨zcw_110, List.forall_mem_cons.mpr ⟨zcw_111, List.forall_mem_cons.mpr ⟨zcw_112, List.forall_mem_cons.mpr ⟨zcw_113, List.forall_mem_cons.mpr ⟨zcw_114, List.forall_mem_cons.mpr ⟨zcw_115, List.forall_mem_cons.mpr ⟨zcw_116, List.forall_mem_cons.mpr ⟨zcw_117, List.forall_mem_cons.mpr ⟨zcw_118, List.forall_mem_cons.mpr ⟨zcw_119, List.forall_mem_cons.mpr ⟨zcw_120, List.forall_mem_cons.mpr ⟨zcw_121, List.forall_mem_cons.mpr ⟨zcw_122, List.forall_mem_cons.mpr ⟨zcw_123, fun _ h => absurd h List.not_mem_nil⟩⟩⟩⟩⟩⟩⟩⟩⟩⟩⟩⟩⟩⟩⟩⟩⟩⟩⟩⟩⟩⟩⟩⟩⟩⟩⟩⟩⟩⟩⟩
theorem zcwc_4 : ∀ K ∈ ([124, 125, 126, 127, 128, 129, 130, 131, 132, 133, 134, 135, 136, 137, 138, 139, 140, 141, 142, 143, 144, 145, 146, 147, 148, 149, 150, 151, 152, 153, 154] : List Nat), zcw K ∈ zT0 := List.forall_mem_cons.mpr ⟨zcw_124, List.forall_mem_cons.mpr ⟨zcw_125, List.forall_mem_cons.mpr ⟨zcw_126, List.forall_mem_cons.mpr ⟨zcw_127, List.forall_mem_cons.mpr ⟨zcw_128, List.forall_mem_cons.mpr ⟨zcw_129, List.forall_mem_cons.mpr ⟨zcw_130, List.forall_mem_cons.mpr ⟨zcw_131, List.forall_mem_cons.mpr ⟨zcw_132, List.forall_mem_cons.mpr ⟨zcw_133, List.forall_mem_cons.mpr ⟨zcw_134, List.forall_mem_cons.mpr ⟨zcw_135, List.forall_mem_cons.mpr ⟨zcw_136, List.forall_mem_cons.mpr ⟨zcw_137, List.forall_mem_cons.mpr ⟨zcw_138, List.forall_mem_cons.mpr ⟨zcw_139, List.forall_mem_cons.mpr ⟨zcw_140, List.forall_mem_cons.mpr ⟨zcw_141, List.forall_mem_cons.mpr ⟨zcw_142, List.forall_mem_cons.mpr ⟨zcw_143, List.forall_mem_cons.mpr ⟨zcw_144, List.forall_mem_cons.mpr ⟨zcw_145, List.forall_mem_cons.mpr ⟨zcw_146, List.forall_mem_cons.mpr ⟨zcw_147, List.forall_mem_cons.mpr ⟨zcw_148, List.forall_mem_cons.mpr ⟨zcw_149, List.forall_mem_cons.mpr ⟨zcw_150, List.forall_mem_cons.mpr ⟨zcw_151, List.forall_mem_cons.mpr ⟨zcw_152, List.forall_mem_cons.mpr ⟨zcw_153, List.forall_mem_cons.mpr ⟨zcw_154, fun _ h => absurd h List.not_mem_nil⟩⟩⟩⟩⟩⟩⟩⟩⟩⟩⟩⟩⟩⟩⟩⟩⟩⟩⟩⟩⟩⟩⟩⟩⟩⟩⟩⟩⟩⟩⟩
theorem zcwc_5 : ∀ K ∈ ([155, 156, 157, 158, 159, 160, 161, 162, 163, 164, 165, 166, 167, 168, 169, 170, 171, 172, 173, 174, 175, 176, 177, 178, 179, 180, 181, 182, 183, 184, 185] : List Nat), zcw K ∈ zT0 := List.forall_mem_cons.mpr ⟨zcw_155, List.forall_mem_cons.mpr ⟨zcw_156, List.forall_mem_cons.mpr ⟨zcw_157, List.forall_mem_cons.mpr ⟨zcw_158, List.forall_mem_cons.mpr ⟨zcw_159, List.forall_mem_cons.mpr ⟨zcw_160, List.forall_mem_cons.mpr ⟨zcw_161, List.forall_mem_cons.mpr ⟨zcw_162, List.forall_mem_cons.mpr ⟨zcw_163, List.forall_mem_cons.mpr ⟨zcw_164, List.forall_mem_cons.mpr ⟨zcw_165, List.forall_mem_cons.mpr ⟨zcw_166, List.forall_mem_cons.mpr ⟨zcw_167, List.forall_mem_cons.mpr ⟨zcw_168, List.forall_mem_cons.mpr ⟨zcw_169, List.forall_mem_cons.mpr ⟨zcw_170, List.forall_mem_cons.mpr ⟨zcw_171, List.forall_mem_cons.mpr ⟨zcw_172, List.forall_mem_cons.mpr ⟨zcw_173, List.forall_mem_cons.mpr ⟨zcw_174, List.forall_mem_cons.mpr ⟨zcw_175, List.forall_mem_cons.mpr ⟨zcw_176, List.forall_mem_cons.mpr ⟨zcw_177, List.forall_mem_cons.mpr ⟨zcw_178, List.forall_mem_cons.mpr ⟨zcw_179, List.forall_mem_cons.mpr ⟨zcw_180, List.forall_mem_cons.mpr ⟨zcw_181, List.forall_mem_cons.mpr ⟨zcw_182, List.forall_mem_cons.mpr ⟨zcw_183, List.forall_mem_cons.mpr ⟨zcw_184, List.forall_mem_cons.mpr ⟨zcw_185, fun _ h => absurd h List.not_mem_nil⟩⟩⟩⟩⟩⟩⟩⟩⟩⟩⟩⟩⟩⟩⟩⟩⟩⟩⟩⟩⟩⟩⟩⟩⟩⟩⟩⟩⟩⟩⟩
theorem zcwc_6 : ∀ K ∈ ([186, 187, 188, 189, 190, 191, 192, 193, 194, 195, 196, 197, 198, 199, 200, 201, 202, 203, 204, 205, 206, 207, 208, 209, 210, 211, 212, 213, 214, 215, 216] : List Nat), zcw K ∈ zT0 := List.forall_mem_cons.mpr ⟨zcw_186, List.forall_mem_cons.mpr ⟨zcw_187, List.forall_mem_cons.mpr ⟨zcw_188, List.forall_mem_cons.mpr ⟨zcw_189, List.forall_mem_cons.mpr ⟨zcw_190, List.forall_mem_cons.mpr ⟨zcw_191, List.forall_mem_cons.mpr ⟨zcw_192, List.forall_mem_cons.mpr ⟨zcw_193, List.forall_mem_cons.mpr ⟨zcw_194, List.forall_mem_cons.mpr ⟨zcw_195, List.forall_mem_cons.mpr ⟨zcw_196, List.forall_mem_cons.mpr ⟨zcw_197, List.forall_mem_cons.mpr ⟨zcw_198, List.forall_mem_cons.mpr ⟨zcw_199, List.forall_mem_cons.mpr ⟨zcw_200, List.forall_mem_cons.mpr ⟨zcw_201, List.forall_mem_cons.mpr ⟨zcw_202, List.forall_mem_cons.mpr ⟨zcw_203, List.forall_mem_cons.mpr ⟨zcw_204, List.forall_mem_cons.mpr ⟨zcw_205, List.forall_mem_cons.mpr ⟨zcw_206, List.forall_mem_cons.mpr ⟨zcw_207, List.forall_mem_cons.mpr ⟨zcw_208, List.forall_mem_cons.mpr ⟨zcw_209, List.forall_mem_cons.mpr ⟨zcw_210, List.forall_mem_cons.mpr ⟨zcw_211, List.forall_mem_cons.mpr ⟨zcw_212, List.forall_mem_cons.mpr ⟨zcw_213, List.forall_mem_cons.mpr ⟨zcw_214, List.forall_mem_cons.mpr ⟨zcw_215, List.forall_mem_cons.mpr ⟨zcw_216, fun _ h => absurd h List.not_mem_nil⟩⟩⟩⟩⟩⟩⟩⟩⟩⟩⟩⟩⟩⟩⟩⟩⟩⟩⟩⟩⟩⟩⟩⟩⟩⟩⟩⟩⟩⟩⟩
theorem zcwc_7 : ∀ K ∈ ([217, 218, 219, 220, 221, 222, 223, 224, 225, 226, 227, 228, 229, 230, 231, 232, 233, 234, 235, 236, 237, 238, 239, 240, 241, 242, 243] : List Nat), zcw K ∈ zT0 := List.forall_mem_cons.mpr ⟨zcw_217, List.forall_mem_cons.mpr ⟨zcw_218, List.forall_mem_cons.mpr ⟨zcw_219, List.forall_mem_cons.mpr ⟨zcw_220, List.forall_mem_cons.mpr ⟨zcw_221, List.forall_mem_cons.mpr ⟨zcw_222, List.forall_mem_cons.mpr ⟨zcw_223, List.forall_mem_cons.mpr ⟨zcw_224, List.forall_mem_cons.mpr ⟨zcw_225, List.forall_mem_cons.mpr ⟨zcw_226, List.forall_mem_cons.mpr ⟨zcw_227, List.forall_mem_cons.mpr ⟨zcw_228, List.forall_mem_cons.mpr ⟨zcw_229, List.forall_mem_cons.mpr ⟨zcw_230, List.forall_mem_cons.mpr ⟨zcw_231, List.forall_mem_cons.mpr ⟨zcw_232, List.forall_mem_cons.mpr ⟨zcw_233, List.forall_mem_cons.mpr ⟨zcw_234, List.forall_mem_cons.mpr ⟨zcw_235, List.forall_mem_cons.mpr ⟨zcw_236, List.forall_mem_cons.mpr ⟨zcw_237, List.forall_mem_cons.mpr ⟨zcw_238, List.forall_mem_cons.mpr ⟨zcw_239, List.forall_mem_cons.mpr ⟨zcw_240, List.forall_mem_cons.mpr ⟨zcw_241, List.forall_mem_cons.mpr ⟨zcw_242, List.forall_mem_cons.mpr ⟨zcw_243, fun _ h => absurd h List.not_mem_nil⟩⟩⟩⟩⟩⟩⟩⟩⟩⟩⟩⟩⟩⟩⟩⟩⟩⟩⟩⟩⟩⟩⟩⟩⟩⟩⟩
theorem zcw_ok {K : Nat} (h : K < 244) : zcw K ∈ zT0 := by
  by_cases h0 : K < 31
  · exact zcwc_0 K (by simp only [List.mem_cons, List.not_mem_nil, or_false]; omega)
  by_cases h1 : K < 62
  · exact zcwc_1 K (by simp only [List.mem_cons, List.not_mem_nil, or_false]; omega)
  by_cases h2 : K < 93
  · exact zcwc_2 K (by simp only [List.mem_cons, List.not_mem_nil, or_false]; omega)
  by_cases h3 : K < 124
  · exact zcwc_3 K (by simp only [List.mem_cons, List.not_mem_nil, or_false]; omega)
  by_cases h4 : K < 155
  · exact zcwc_4 K (by simp only [List.mem_cons, List.not_mem_nil, or_false]; omega)
  by_cases h5 : K < 186
  · exact zcwc_5 K (by simp only [List.mem_cons, List.not_mem_nil, or_false]; omega)
  by_cases h6 : K < 217
  · exact zcwc_6 K (by simp only [List.mem_cons, List.not_mem_nil, or_false]; omega)
  by_cases h7 : K < 244
  · exact zcwc_7 K (by simp only [List.mem_cons, List.not_mem_nil, or_false]; omega)
  omega
/-- the calls' links -/
def zlw (q : Nat × Nat × Nat × Nat × Nat × Nat × Nat) : Bool := match q with
  | (o, k, kd, K, md, a, b) => match zMP.getD K (99, 0, 99, 0, 99, 0, 99, 0) with
    | (_, _, _, _, a3, b3, a4, b4) =>
      let y : MethodName := if kd = 3 then Lib.objectInit else if kd = 4 then arraycopyName else zMy K
      (match md with
        | 0 => zp0 a b (Jvm.Cond.methodLink (zcn o) k y)
        | 1 => zp1 a b (Jvm.Cond.methodLinkNest (zcn o) k y "BendYard")
        | _ => zp1 a b (Jvm.Cond.methodLinkNest (zcn o) k y "BendYardModel")) &&
      (match kd with
        | 0 => decide (K < 244 ∧ (zMh K = [] ∨ md = 0)) && zp0 a3 b3 (Jvm.Cond.static (zMy K))
        | 1 => decide (K < 244 ∧ zMh K = [] ∧ (o ≠ 13 ∨ md = 0)) && zp0 a3 b3 (Jvm.Cond.instanceMethod (zMy K)) && zp0 a4 b4 (Jvm.Cond.selects (zcn (zMo K)) (zMy K) (zMy K))
        | 2 => decide (K < 244 ∧ zMh K = [] ∧ (zMy K).name = "<init>" ∧ zMr K = none) && zp0 a3 b3 (Jvm.Cond.instanceMethod (zMy K))
        | 3 => decide (md = 0)
        | 4 => decide (md = 0)
        | _ => decide (md = 0 ∧ zMy K = (if kd = 5 then Lib.Math.max.name else if kd = 6 then Lib.Math.min.name else Lib.Math.abs.name)))
set_option maxRecDepth 100000 in
theorem zlw_all : zCA.all zlw = true := by decide +kernel
theorem zMR_in {o k kd K : Nat} (h : zMR o k = some (kd, K)) : ∃ md a b, zlw (o, k, kd, K, md, a, b) = true := by
  unfold zMR at h
  cases hz : zlk zCA o k with
  | none => rw [hz] at h; cases h
  | some v =>
    obtain ⟨kd', K', md, a, b⟩ := v
    rw [hz] at h
    cases h
    exact ⟨md, a, b, List.all_eq_true.mp zlw_all _ (zlk_mem hz)⟩
theorem zw_oi : Jvm.Cond.instanceMethod Lib.objectInit ∈ zT0 := List.mem_filter.mpr ⟨ztb_in (k := 1) (List.mem_of_getElem? (i := 34) rfl), rfl⟩
theorem zw_oc : Jvm.Cond.code Lib.objectInit ⟨#[0xb1]⟩ 1 none ∈ zT0 := List.mem_filter.mpr ⟨ztb_in (k := 1) (List.mem_of_getElem? (i := 35) rfl), rfl⟩
theorem zw_an : Jvm.Cond.native arraycopyName ∈ zT0 := List.mem_filter.mpr ⟨ztb_in (k := 5) (List.mem_of_getElem? (i := 162) rfl), rfl⟩
theorem zw_as : Jvm.Cond.static arraycopyName ∈ zT0 := List.mem_filter.mpr ⟨ztb_in (k := 5) (List.mem_of_getElem? (i := 161) rfl), rfl⟩
theorem zw_ai : Jvm.Cond.initialized "java/lang/System" ∈ zT0 := List.mem_filter.mpr ⟨ztb_in (k := 1) (List.mem_of_getElem? (i := 25) rfl), rfl⟩
theorem zw_mi : Jvm.Cond.initialized "java/lang/Math" ∈ zT0 := List.mem_filter.mpr ⟨ztb_in (k := 1) (List.mem_of_getElem? (i := 26) rfl), rfl⟩
theorem zw_m5s : Jvm.Cond.static Lib.Math.max.name ∈ zT0 := List.mem_filter.mpr ⟨ztb_in (k := 2) (List.mem_of_getElem? (i := 195) rfl), rfl⟩
theorem zw_m6s : Jvm.Cond.static Lib.Math.min.name ∈ zT0 := List.mem_filter.mpr ⟨ztb_in (k := 2) (List.mem_of_getElem? (i := 154) rfl), rfl⟩
theorem zw_m7s : Jvm.Cond.static Lib.Math.abs.name ∈ zT0 := List.mem_filter.mpr ⟨ztb_in (k := 5) (List.mem_of_getElem? (i := 58) rfl), rfl⟩
theorem zw_m5c : Jvm.Cond.code Lib.Math.max.name Lib.Math.max.code 2 (some .int) ∈ zT0 := List.mem_filter.mpr ⟨ztb_in (k := 2) (List.mem_of_getElem? (i := 196) rfl), rfl⟩
theorem zw_m6c : Jvm.Cond.code Lib.Math.min.name Lib.Math.min.code 2 (some .int) ∈ zT0 := List.mem_filter.mpr ⟨ztb_in (k := 2) (List.mem_of_getElem? (i := 155) rfl), rfl⟩
theorem zw_m7c : Jvm.Cond.code Lib.Math.abs.name Lib.Math.abs.code 1 (some .int) ∈ zT0 := List.mem_filter.mpr ⟨ztb_in (k := 5) (List.mem_of_getElem? (i := 59) rfl), rfl⟩
