/-! THE PLAIN MACHINE: a small machine of whole numbers over the same bytecode; what it does the machine does (part 08 on). Values: int, own reference (0: null), long, foreign reference (of what was there before the law began), double, nothing known. -/
abbrev zV : Type := Int ⊕ (Nat ⊕ (Int ⊕ (Nat ⊕ (UInt64 ⊕ Unit))))
abbrev zI (i : Int) : zV := .inl i
abbrev zR (a : Nat) : zV := .inr (.inl a)
abbrev zL (i : Int) : zV := .inr (.inr (.inl i))
abbrev zE (k : Nat) : zV := .inr (.inr (.inr (.inl k)))
abbrev zD (d : UInt64) : zV := .inr (.inr (.inr (.inr (.inl d))))
abbrev zU : zV := .inr (.inr (.inr (.inr (.inr ()))))
/-- memory: int fields (64 * class + place, address), reference fields, int cells of arrays, reference cells of arrays, kinds (class + 1; 20 int[], 21 boolean[], 22 byte[], 23 long[], 29 int[][], 30 + class arrays of objects), lengths, next address, cells made, slots made -/
abbrev zM : Type := (Nat → Nat → Int) × (Nat → Nat → Nat) × (Nat → Nat → Int) × (Nat → Nat → Nat) × (Nat → Nat) × (Nat → Nat) × Nat × Nat × Nat
def mI (m : zM) : Nat → Nat → Int := m.1
def mR (m : zM) : Nat → Nat → Nat := m.2.1
def mA (m : zM) : Nat → Nat → Int := m.2.2.1
def mO (m : zM) : Nat → Nat → Nat := m.2.2.2.1
def mC (m : zM) : Nat → Nat := m.2.2.2.2.1
def mN (m : zM) : Nat → Nat := m.2.2.2.2.2.1
def mz (m : zM) : Nat := m.2.2.2.2.2.2.1
def mc (m : zM) : Nat := m.2.2.2.2.2.2.2.1
def mu (m : zM) : Nat := m.2.2.2.2.2.2.2.2
def up2 {α : Type} (g : Nat → Nat → α) (f a : Nat) (v : α) : Nat → Nat → α := fun f' a' => if f' = f ∧ a' = a then v else g f' a'
def up1 {α : Type} (g : Nat → α) (a : Nat) (v : α) : Nat → α := fun a' => if a' = a then v else g a'
def sI (m : zM) (f a : Nat) (v : Int) : zM := (up2 (mI m) f a v, mR m, mA m, mO m, mC m, mN m, mz m, mc m, mu m)
def sR (m : zM) (f a : Nat) (v : Nat) : zM := (mI m, up2 (mR m) f a v, mA m, mO m, mC m, mN m, mz m, mc m, mu m)
def sA (m : zM) (a j : Nat) (v : Int) : zM := (mI m, mR m, up2 (mA m) a j v, mO m, mC m, mN m, mz m, mc m, mu m)
def sO (m : zM) (a j : Nat) (v : Nat) : zM := (mI m, mR m, mA m, up2 (mO m) a j v, mC m, mN m, mz m, mc m, mu m)
/-- a new object of class ci with nf fields, at mz m -/
def nwO (m : zM) (ci nf : Nat) : zM := (fun f a => if a = mz m then 0 else mI m f a, fun f a => if a = mz m then 0 else mR m f a, mA m, mO m, up1 (mC m) (mz m) (ci + 1), mN m, mz m + 1, mc m + 1, mu m + nf)
/-- a new array of a kind, n long, at mz m -/
def nwA (m : zM) (kd n : Nat) : zM := (mI m, mR m, fun a j => if a = mz m then 0 else mA m a j, fun a j => if a = mz m then 0 else mO m a j, up1 (mC m) (mz m) kd, up1 (mN m) (mz m) n, mz m + 1, mc m + 1, mu m + n)
/-- new int[n][k] at mz m, its rows behind it -/
def nwB (m : zM) (n k : Nat) : zM := (mI m, mR m, fun a j => if mz m ≤ a then 0 else mA m a j, fun a j => if a = mz m then (if j < n then mz m + 1 + j else 0) else if mz m ≤ a then 0 else mO m a j, fun a => if a = mz m then 29 else if mz m < a ∧ a ≤ mz m + n then 20 else mC m a, fun a => if a = mz m then n else if mz m < a ∧ a ≤ mz m + n then k else mN m a, mz m + 1 + n, mc m + 1 + n, mu m + n + n * k)
/-- an exception was made: a cell of six slots that nobody looks into -/
def nwX (m : zM) : zM := (mI m, mR m, mA m, mO m, mC m, mN m, mz m, mc m + 1, mu m + 6)
/-- copying n cells -/
def cpA (m : zM) (a sp b dp n : Nat) : zM := (mI m, mR m, fun x j => if x = b ∧ dp ≤ j ∧ j < dp + n then mA m a (sp + (j - dp)) else mA m x j, mO m, mC m, mN m, mz m, mc m, mu m)
/-- what ends a method: an answer (none: void), or an exception by its number -/
abbrev zRes : Type := Option zV ⊕ Nat
abbrev zK : Type := zRes → zM → Prop
def zno : zK := fun _ _ => False
def zg (c : Prop) (k : zK) : zK := fun r m' => c ∧ k r m'
def zend (v : Option zV) (m : zM) : zK := fun r m' => r = .inl v ∧ m' = m
def wr (x : Int) : Int := (x + 2147483648) % 4294967296 - 2147483648
def wl (x : Int) : Int := (x + 9223372036854775808) % 18446744073709551616 - 9223372036854775808
def w8 (x : Int) : Int := (x + 128) % 256 - 128
def w16 (x : Int) : Int := (x + 32768) % 65536 - 32768
def bAnd (a b : Int) : Int := (Int32.ofInt a &&& Int32.ofInt b).toInt
def bOr (a b : Int) : Int := (Int32.ofInt a ||| Int32.ofInt b).toInt
def bXor (a b : Int) : Int := (Int32.ofInt a ^^^ Int32.ofInt b).toInt
def bShl (a b : Int) : Int := (Int32.ofInt a <<< (Int32.ofInt b &&& 31)).toInt
def bShr (a b : Int) : Int := (Int32.ofInt a >>> (Int32.ofInt b &&& 31)).toInt
def bUsh (a b : Int) : Int := ((Int32.ofInt a).toUInt32 >>> ((Int32.ofInt b).toUInt32 &&& Int32.toUInt32 31)).toInt32.toInt
def bI2c (a : Int) : Int := ((Int32.ofInt a).toUInt32 % 65536).toInt32.toInt
def bI2b (a : Int) : Int := (Int32.ofInt a).toInt8.toInt32.toInt
def bCmp (a b : Int) : Int := if b < a then 1 else if a = b then 0 else -1
def bDcmp (a b : UInt64) (op : ClassFile.CmpOp) : Int := (Op.cmpValue (FP.dcmp a b) op).toInt
/-- what a variable of a type of ints may hold -/
def zfit (ty : FieldType) (v : Int) : Prop := match ty with
  | .int => True
  | .boolean => v = 0 ∨ v = 1
  | .byte => -128 ≤ v ∧ v ≤ 127
  | .char => 0 ≤ v ∧ v ≤ 65535
  | _ => False
def zisq (ty : FieldType) : Bool := match ty with
  | .object _ => true
  | .array _ => true
  | _ => false
/-- one value's place on the stack or among the locals: 2 for long and double -/
def zcat (v : zV) : Nat := match v with
  | .inr (.inr (.inl _)) => 2
  | .inr (.inr (.inr (.inr (.inl _)))) => 2
  | _ => 1
/-- a value that a word holds: int or reference -/
def zone (v : zV) : Prop := match v with
  | .inl _ => True
  | .inr (.inl _) => True
  | .inr (.inr (.inr (.inl _))) => True
  | _ => False
/-- what is left of a local when its right neighbour is written -/
def zcl (v : zV) : zV := match v with
  | .inr (.inr (.inl _)) => zU
  | .inr (.inr (.inr (.inr (.inl _)))) => zU
  | v => v
/-- storing into local i -/
def zst1 : Nat → zV → List zV → List zV
  | _, _, [] => []
  | 0, v, _ :: l => v :: l
  | 1, v, a :: l => zcl a :: zst1 0 v l
  | i + 2, v, a :: l => a :: zst1 (i + 1) v l
def zst2 : Nat → zV → List zV → List zV
  | _, _, [] => []
  | 0, v, _ :: [] => v :: []
  | 0, v, _ :: _ :: l => v :: zU :: l
  | 1, v, a :: l => zcl a :: zst2 0 v l
  | i + 2, v, a :: l => a :: zst2 (i + 1) v l
def zargs : List zV → List zV
  | [] => []
  | v :: l => if zcat v = 2 then v :: zU :: zargs l else v :: zargs l
def zent (ml : Nat) (args : List zV) : List zV := zargs args ++ List.replicate (ml - (zargs args).length) zU
def pI (st : List zV) (k : Int → List zV → zK) : zK := match st with
  | .inl a :: s => k a s
  | _ => zno
def pII (st : List zV) (k : Int → Int → List zV → zK) : zK := match st with
  | .inl b :: .inl a :: s => k a b s
  | _ => zno
def pLL (st : List zV) (k : Int → Int → List zV → zK) : zK := match st with
  | .inr (.inr (.inl b)) :: .inr (.inr (.inl a)) :: s => k a b s
  | _ => zno
def pDD (st : List zV) (k : UInt64 → UInt64 → List zV → zK) : zK := match st with
  | .inr (.inr (.inr (.inr (.inl b)))) :: .inr (.inr (.inr (.inr (.inl a)))) :: s => k a b s
  | _ => zno
def pR (st : List zV) (k : Nat → List zV → zK) : zK := match st with
  | .inr (.inl a) :: s => k a s
  | _ => zno
/-- a jump -/
def zjmp (pc : Nat) (off : Int) (k : Nat → zK) : zK := fun r m' => ∃ t : Nat, (pc : Int) + off = t ∧ k t r m'
def zcnd (c : ClassFile.Cond) (a b : Int) : Prop := match c with
  | .eq => a = b
  | .ne => a ≠ b
  | .lt => a < b
  | .ge => b ≤ a
  | .gt => b < a
  | .le => a ≤ b
def zbr (c : Prop) (k1 k2 : zK) : zK := fun r m' => (c ∧ k1 r m') ∨ (¬ c ∧ k2 r m')
/-- classes: 0 .. 12 the claim's, 13 the law, then those of the JDK -/
def zCN : List String := ["BendYard$Action", "BendYard$Compiler", "BendYard$Piece", "BendYard$Plan", "BendYard$Plank", "BendYard$Scanner", "BendYard$Slip", "BendYard$Store", "BendYard$Tape", "BendYard$Yard", "BendYard", "BendYardModel$State", "BendYardModel", "BendYardLaw", "java/lang/String", "java/lang/StringLatin1", "java/lang/StringUTF16", "jdk/internal/util/Preconditions", "java/lang/Integer", "java/util/Arrays", "java/lang/Math", "java/lang/System"]
def zcn (c : Nat) : String := zCN.getD c ""
def zT (c : Nat) : u_T := match c with
  | 0 => TX0
  | 1 => TX1
  | 2 => TX2
  | 3 => TX3
  | 4 => TX4
  | 5 => TX5
  | 6 => TX6
  | 7 => TX7
  | 8 => TX8
  | 9 => TX9
  | 10 => TX10
  | 11 => TX11
  | _ => TX12
def zty (c : Nat) : Nat → FieldType := match c with
  | 0 => tyX0
  | 1 => tyX1
  | 2 => tyX2
  | 3 => tyX3
  | 4 => tyX4
  | 5 => tyX5
  | 6 => tyX6
  | 7 => tyX7
  | 8 => tyX8
  | 9 => tyX9
  | 10 => tyX10
  | 11 => tyX11
  | _ => tyX12
def zN (c : Nat) : Nat := ([4, 11, 7, 5, 5, 5, 16, 3, 2, 9, 5, 36, 18] : List Nat).getD c 0
/-- may field j of class c be written by a method of class oc -/
def zfok (oc : Nat) (ini : Bool) (c j : Nat) : Bool := !((zT c j).2.2.2) || (ini && oc == c)
/-- fields: class of the code, pool entry, class, place -/
def zFL : List (Nat × Nat × Nat × Nat) := [(0, 7, 0, 0), (0, 13, 0, 1), (0, 16, 0, 2), (0, 19, 0, 3), (1, 9, 1, 2), (1, 15, 1, 3), (1, 18, 1, 4), (1, 21, 1, 5), (1, 24, 1, 6), (1, 28, 1, 7), (1, 31, 1, 8), (1, 35, 1, 9), (1, 38, 1, 10), (1, 41, 1, 0), (1, 50, 1, 1), (1, 58, 5, 3), (1, 69, 8, 1), (1, 77, 5, 2), (1, 80, 5, 4), (1, 157, 3, 1), (2, 9, 2, 0), (2, 15, 2, 1), (2, 19, 2, 2), (2, 22, 2, 3), (2, 25, 2, 4), (2, 28, 2, 5), (2, 32, 2, 6), (2, 57, 0, 1), (2, 62, 0, 2), (2, 65, 0, 3), (3, 11, 3, 0), (3, 17, 3, 1), (3, 21, 3, 2), (3, 24, 3, 3), (3, 27, 3, 4), (3, 30, 0, 0), (3, 33, 0, 2), (3, 36, 0, 1), (4, 9, 4, 0), (4, 15, 4, 1), (4, 18, 4, 2), (4, 21, 4, 3), (4, 24, 4, 4), (5, 9, 5, 1), (5, 15, 5, 2), (5, 18, 5, 3), (5, 21, 5, 4), (5, 24, 5, 0), (5, 28, 8, 1), (6, 9, 6, 0), (6, 15, 6, 1), (6, 19, 6, 2), (6, 23, 6, 3), (6, 26, 6, 4), (6, 29, 6, 5), (6, 32, 6, 6), (6, 35, 6, 7), (6, 38, 6, 8), (6, 41, 6, 9), (6, 44, 6, 10), (6, 50, 6, 11), (6, 54, 6, 12), (6, 57, 6, 13), (6, 60, 6, 14), (6, 63, 6, 15), (6, 79, 0, 0), (6, 97, 0, 1), (6, 107, 2, 0), (6, 110, 2, 2), (6, 113, 2, 3), (6, 116, 2, 4), (7, 11, 7, 0), (7, 17, 7, 1), (7, 21, 7, 2), (7, 29, 4, 1), (7, 32, 4, 0), (7, 47, 4, 2), (8, 9, 8, 0), (8, 15, 8, 1), (9, 9, 9, 0), (9, 18, 9, 1), (9, 22, 9, 2), (9, 26, 9, 3), (9, 31, 9, 4), (9, 35, 9, 5), (9, 40, 9, 6), (9, 43, 9, 7), (9, 46, 9, 8), (9, 53, 6, 15), (9, 72, 6, 13), (9, 83, 6, 14), (9, 94, 0, 0), (9, 99, 0, 1), (9, 109, 0, 2), (9, 116, 6, 11), (9, 157, 7, 0), (9, 161, 4, 2), (9, 176, 6, 0), (9, 179, 6, 2), (9, 182, 6, 8), (9, 185, 6, 9), (9, 188, 6, 4), (9, 205, 7, 1), (9, 214, 7, 2), (10, 10, 10, 0), (10, 21, 10, 1), (10, 27, 10, 2), (10, 34, 10, 3), (10, 38, 10, 4), (10, 42, 8, 1), (10, 79, 1, 10), (10, 90, 9, 1), (10, 94, 7, 1), (10, 107, 7, 0), (10, 111, 4, 1), (10, 116, 4, 3), (10, 142, 9, 2), (10, 148, 9, 3), (10, 156, 9, 5), (10, 165, 3, 1), (10, 168, 9, 4), (10, 172, 6, 0), (10, 180, 9, 0), (10, 195, 6, 15), (10, 198, 6, 13), (10, 221, 6, 11), (10, 225, 2, 6), (10, 230, 2, 5), (10, 238, 9, 7), (10, 254, 9, 6), (10, 262, 9, 8), (11, 9, 11, 2), (11, 15, 11, 3), (11, 18, 11, 4), (11, 21, 11, 5), (11, 24, 11, 6), (11, 27, 11, 7), (11, 30, 11, 9), (11, 33, 11, 10), (11, 37, 11, 11), (11, 40, 11, 12), (11, 43, 11, 13), (11, 46, 11, 14), (11, 49, 11, 15), (11, 52, 11, 16), (11, 55, 11, 17), (11, 58, 11, 18), (11, 61, 11, 19), (11, 64, 11, 20), (11, 67, 11, 21), (11, 70, 11, 22), (11, 73, 11, 23), (11, 76, 11, 24), (11, 79, 11, 25), (11, 82, 11, 26), (11, 85, 11, 27), (11, 88, 11, 28), (11, 91, 11, 29), (11, 94, 11, 30), (11, 97, 11, 31), (11, 100, 11, 35), (11, 109, 11, 0), (11, 113, 11, 1), (11, 116, 11, 8), (11, 119, 11, 32), (11, 122, 11, 33), (11, 125, 11, 34), (12, 9, 12, 1), (12, 13, 12, 3), (12, 17, 12, 5), (12, 20, 12, 6), (12, 23, 12, 7), (12, 26, 12, 9), (12, 29, 12, 10), (12, 32, 12, 12), (12, 38, 12, 16), (12, 42, 12, 17), (12, 45, 12, 0), (12, 48, 12, 2), (12, 82, 12, 8), (12, 121, 12, 4), (12, 140, 12, 15), (12, 143, 12, 13), (12, 147, 12, 14), (12, 153, 12, 11), (12, 178, 11, 1), (12, 188, 11, 3), (12, 194, 11, 5), (12, 201, 11, 2), (12, 204, 11, 4), (12, 219, 11, 7), (12, 231, 11, 8), (12, 237, 11, 10), (12, 241, 11, 9), (12, 244, 11, 11), (12, 247, 11, 12), (12, 250, 11, 13), (12, 253, 11, 14), (12, 256, 11, 16), (12, 259, 11, 17), (12, 262, 11, 18), (12, 265, 11, 19), (12, 268, 11, 20), (12, 271, 11, 0), (12, 277, 11, 21), (12, 280, 11, 24), (12, 283, 11, 22), (12, 297, 11, 31), (12, 300, 11, 30), (12, 306, 11, 32), (12, 320, 11, 35), (12, 327, 11, 33), (14, 9, 14, 0), (14, 15, 14, 1)]
def zlk {α : Type} : List (Nat × Nat × α) → Nat → Nat → Option α
  | [], _, _ => none
  | q :: l, c, k => if q.1 = c ∧ q.2.1 = k then some q.2.2 else zlk l c k
def zFR (oc k : Nat) : Option (Nat × Nat) := zlk zFL oc k
def zSL : List (Nat × Nat × zV) := [(14, 38, zI 1), (14, 1053, zE 8), (12, 104, zE 1), (12, 112, zE 2), (12, 115, zE 3), (12, 118, zE 5), (12, 156, zE 6), (12, 159, zE 7)]
def zSR (oc k : Nat) : Option zV := zlk zSL oc k
/-- the texts of the string constants that are looked into: class, pool entry, letters -/
def zSC : List (Nat × Nat × List Int) := [(5, 60, [116, 97, 107, 101, 32, 103, 105, 118, 101, 32, 99, 117, 116, 32, 119, 101, 116, 32, 104, 101, 97, 116, 32, 98, 101, 110, 100, 32, 104, 111, 108, 100, 32, 102, 105, 116, 32, 116, 105, 109, 101, 115]), (5, 66, [98, 111, 119, 32, 115, 116, 101, 114, 110, 32, 114, 105, 98, 32, 115, 105, 100, 101, 32, 102, 108, 111, 111, 114]), (5, 68, [111, 97, 107, 32, 101, 108, 109, 32, 108, 97, 114, 99, 104, 32, 102, 105, 114]), (1, 100, [102, 59]), (1, 102, [119, 110, 59]), (1, 104, [110, 110, 110, 59]), (1, 106, [59]), (1, 108, [110, 123]), (1, 110, [110, 59]), (12, 89, [125]), (12, 91, [123]), (12, 93, [116, 105, 109, 101, 115]), (12, 102, [59]), (12, 334, [116, 97, 107, 101]), (12, 336, [103, 105, 118, 101]), (12, 338, [99, 117, 116]), (12, 340, [119, 101, 116]), (12, 341, [104, 101, 97, 116]), (12, 343, [98, 101, 110, 100]), (12, 345, [104, 111, 108, 100]), (12, 347, [102, 105, 116]), (12, 349, [98, 111, 119]), (12, 351, [115, 116, 101, 114, 110]), (12, 353, [114, 105, 98]), (12, 355, [115, 105, 100, 101]), (12, 357, [102, 108, 111, 111, 114]), (12, 359, [111, 97, 107]), (12, 361, [101, 108, 109]), (12, 363, [108, 97, 114, 99, 104]), (12, 365, [102, 105, 114])]
def zSN : Nat := 30
def zSTR (i : Nat) : List Int := (zSC.getD i (0, 0, [])).2.2
def zKL : List (Nat × Nat × zV) := [(1, 112, zI 1000000), (5, 60, zE 20), (5, 66, zE 21), (5, 68, zE 22), (1, 100, zE 23), (1, 102, zE 24), (1, 104, zE 25), (1, 106, zE 26), (1, 108, zE 27), (1, 110, zE 28), (12, 89, zE 29), (12, 91, zE 30), (12, 93, zE 31), (12, 102, zE 32), (12, 334, zE 33), (12, 336, zE 34), (12, 338, zE 35), (12, 340, zE 36), (12, 341, zE 37), (12, 343, zE 38), (12, 345, zE 39), (12, 347, zE 40), (12, 349, zE 41), (12, 351, zE 42), (12, 353, zE 43), (12, 355, zE 44), (12, 357, zE 45), (12, 359, zE 46), (12, 361, zE 47), (12, 363, zE 48), (12, 365, zE 49)]
def zCK (oc k : Nat) : Option zV := zlk zKL oc k
def zQL : List (Nat × Nat × Int) := [(10, 265, 467), (10, 267, 31), (5, 79, 32), (5, 81, 97), (12, 330, 467), (12, 332, 31)]
def zCL (oc k : Nat) : Option Int := zlk zQL oc k
/-- new: class of the code, pool entry, class, its fields; anewarray: the same with 0 -/
def zWL : List (Nat × Nat × Nat × Nat) := [(1, 45, 5, 5), (1, 137, 0, 4), (6, 47, 2, 7), (7, 9, 4, 5), (9, 15, 7, 3), (9, 29, 6, 16), (10, 7, 8, 2), (10, 16, 1, 11), (10, 25, 3, 5), (10, 31, 9, 9), (12, 35, 11, 36), (13, 8, 10, 5), (13, 79, 12, 18), (3, 9, 0, 0)]
def zNR (oc k : Nat) : Option (Nat × Nat) := zlk zWL oc k
def zaok (c : Nat) : Bool := [0, 3, 4, 6].contains c
def zmk : Nat := 38
def zXT : List (Nat × Nat × Nat) := [(10, 46, 0), (10, 57, 1), (10, 66, 2)]
def zXR (oc k : Nat) : Option Nat := zlk zXT oc k
def zYL : List (Nat × Nat × Nat × Nat) := [(10, 46, 48, 50), (10, 46, 99, 50), (10, 46, 123, 50), (10, 46, 146, 50), (10, 46, 159, 50), (10, 46, 178, 50), (10, 46, 201, 50), (10, 57, 59, 61), (10, 57, 88, 61), (10, 57, 114, 61), (10, 57, 131, 61), (10, 57, 140, 61), (10, 57, 163, 61), (10, 57, 190, 61), (10, 57, 236, 61), (10, 66, 68, 70), (10, 66, 82, 70), (10, 66, 105, 70), (10, 66, 128, 70), (10, 66, 151, 70), (10, 66, 161, 70), (10, 66, 216, 70), (10, 66, 219, 70), (10, 66, 244, 70), (10, 66, 252, 70)]
def zXL (oc k is ic : Nat) : Bool := zYL.contains (oc, k, is, ic)
/-- calls: class of the code, pool entry, 0 static, 1 by the object, 2 constructor, 3 Object's own, 4 arraycopy; the method -/
def zCA : List (Nat × Nat × Nat × Nat) := [(10, 1, 3, 0), (10, 9, 2, 81), (10, 18, 2, 1), (10, 33, 2, 84), (10, 41, 2, 31), (10, 53, 1, 82), (10, 62, 0, 127), (10, 71, 1, 3), (10, 75, 1, 7), (10, 84, 1, 34), (10, 101, 1, 75), (10, 119, 1, 37), (10, 125, 1, 38), (10, 130, 1, 43), (10, 133, 1, 76), (10, 137, 1, 39), (10, 153, 1, 99), (10, 183, 1, 58), (10, 187, 1, 96), (10, 192, 1, 65), (10, 203, 1, 66), (10, 206, 1, 67), (10, 209, 1, 68), (10, 213, 1, 97), (10, 218, 1, 72), (10, 233, 1, 95), (10, 241, 1, 85), (10, 246, 1, 100), (10, 249, 1, 94), (10, 258, 1, 101), (10, 269, 0, 126), (10, 273, 0, 222), (0, 1, 3, 0), (1, 3, 3, 0), (1, 47, 2, 45), (1, 54, 1, 4), (1, 61, 1, 2), (1, 65, 1, 47), (1, 74, 1, 48), (1, 83, 1, 5), (1, 87, 0, 6), (1, 91, 1, 209), (1, 96, 1, 210), (1, 113, 1, 16), (1, 116, 1, 8), (1, 120, 1, 9), (1, 123, 1, 10), (1, 127, 1, 12), (1, 131, 1, 15), (1, 134, 1, 14), (1, 139, 2, 0), (1, 142, 1, 32), (1, 148, 0, 221), (1, 154, 1, 11), (1, 160, 0, 13), (1, 164, 1, 46), (2, 3, 3, 0), (2, 35, 0, 221), (2, 41, 0, 224), (2, 47, 1, 24), (2, 51, 1, 25), (2, 54, 0, 223), (2, 68, 1, 27), (2, 72, 1, 28), (2, 76, 0, 128), (2, 80, 0, 222), (2, 84, 4, 0), (3, 3, 3, 0), (3, 39, 0, 127), (4, 3, 3, 0), (4, 28, 0, 223), (4, 34, 1, 36), (4, 38, 1, 40), (4, 42, 4, 0), (5, 3, 3, 0), (5, 33, 1, 83), (5, 37, 0, 53), (5, 41, 0, 54), (5, 44, 1, 49), (5, 47, 0, 55), (5, 50, 1, 50), (5, 53, 0, 56), (5, 56, 0, 52), (5, 62, 1, 51), (5, 70, 1, 209), (5, 75, 1, 210), (6, 3, 3, 0), (6, 49, 2, 17), (6, 66, 1, 33), (6, 72, 1, 19), (6, 75, 1, 18), (6, 84, 1, 20), (6, 87, 1, 23), (6, 90, 1, 21), (6, 93, 1, 22), (6, 100, 1, 29), (6, 104, 1, 69), (6, 119, 1, 58), (6, 123, 1, 30), (6, 127, 1, 68), (7, 3, 3, 0), (7, 24, 2, 35), (7, 25, 1, 36), (7, 35, 1, 39), (7, 39, 1, 41), (7, 43, 1, 42), (7, 50, 0, 128), (7, 54, 1, 44), (8, 3, 3, 0), (9, 3, 3, 0), (9, 17, 2, 74), (9, 49, 2, 57), (9, 50, 1, 86), (9, 57, 1, 88), (9, 61, 1, 89), (9, 65, 1, 78), (9, 68, 1, 87), (9, 75, 0, 127), (9, 79, 1, 67), (9, 86, 1, 69), (9, 90, 1, 59), (9, 102, 1, 90), (9, 106, 1, 91), (9, 112, 1, 92), (9, 120, 1, 26), (9, 126, 1, 64), (9, 130, 1, 63), (9, 133, 1, 61), (9, 136, 1, 60), (9, 139, 1, 93), (9, 142, 1, 65), (9, 146, 1, 68), (9, 150, 1, 66), (9, 153, 1, 76), (9, 166, 1, 62), (9, 169, 1, 39), (9, 172, 1, 77), (9, 191, 0, 224), (9, 196, 1, 70), (9, 199, 1, 71), (9, 202, 1, 98), (9, 208, 1, 96), (9, 211, 1, 97), (9, 217, 1, 79), (9, 220, 1, 80), (9, 224, 4, 0), (9, 230, 1, 73), (13, 7, 1, 103), (13, 15, 1, 104), (13, 21, 1, 105), (13, 26, 1, 107), (13, 30, 1, 108), (13, 34, 1, 109), (13, 37, 1, 110), (13, 40, 1, 111), (13, 44, 1, 112), (13, 47, 1, 113), (13, 50, 1, 114), (13, 54, 1, 115), (13, 57, 1, 116), (13, 60, 1, 117), (13, 63, 1, 118), (13, 66, 1, 120), (13, 69, 1, 121), (13, 72, 1, 122), (13, 75, 1, 123), (13, 78, 2, 102), (13, 81, 2, 160), (13, 82, 0, 225), (13, 87, 1, 164), (13, 88, 1, 161), (13, 91, 0, 226), (13, 94, 1, 165), (13, 95, 0, 227), (13, 97, 1, 182), (13, 98, 1, 106), (13, 101, 1, 183), (13, 102, 0, 228), (13, 105, 1, 185), (13, 106, 0, 229), (13, 109, 1, 186), (13, 110, 0, 230), (13, 112, 1, 188), (13, 113, 0, 231), (13, 115, 1, 190), (13, 116, 0, 232), (13, 119, 1, 191), (13, 120, 0, 233), (13, 122, 1, 192), (13, 123, 0, 234), (13, 125, 1, 194), (13, 126, 0, 235), (13, 129, 1, 195), (13, 130, 0, 236), (13, 132, 1, 197), (13, 133, 0, 237), (13, 135, 1, 198), (13, 136, 0, 238), (13, 138, 1, 199), (13, 139, 0, 239), (13, 141, 1, 200), (13, 142, 1, 119), (13, 145, 1, 201), (13, 146, 0, 240), (13, 148, 1, 202), (13, 149, 0, 241), (13, 151, 1, 203), (13, 152, 0, 242), (13, 154, 1, 205), (13, 155, 0, 243), (13, 157, 1, 206), (13, 158, 1, 124), (13, 162, 1, 207), (13, 163, 1, 125), (13, 167, 1, 208), (12, 1, 3, 0), (12, 37, 2, 129), (12, 51, 1, 162), (12, 55, 0, 163), (12, 59, 1, 166), (12, 62, 1, 167), (12, 66, 1, 168), (12, 69, 1, 209), (12, 74, 1, 210), (12, 78, 1, 170), (12, 85, 1, 175), (12, 95, 1, 173), (12, 99, 1, 176), (12, 108, 1, 171), (12, 124, 1, 179), (12, 127, 1, 181), (12, 130, 1, 177), (12, 134, 1, 172), (12, 137, 1, 178), (12, 150, 1, 180), (12, 162, 1, 169), (12, 165, 1, 174), (12, 168, 4, 0), (12, 174, 1, 184), (12, 181, 1, 137), (12, 185, 1, 187), (12, 191, 1, 133), (12, 197, 1, 138), (12, 207, 1, 135), (12, 210, 1, 189), (12, 213, 1, 136), (12, 216, 1, 134), (12, 222, 1, 140), (12, 225, 1, 141), (12, 228, 1, 193), (12, 234, 1, 196), (12, 274, 1, 159), (12, 286, 1, 143), (12, 290, 1, 142), (12, 294, 1, 158), (12, 303, 1, 145), (12, 309, 1, 147), (12, 312, 0, 224), (12, 317, 1, 204), (12, 323, 1, 132), (11, 3, 3, 0), (11, 103, 4, 0), (11, 128, 0, 130), (11, 132, 0, 131), (11, 135, 1, 133), (11, 139, 0, 223), (11, 145, 1, 134), (11, 148, 1, 137), (11, 152, 1, 138), (11, 156, 1, 140), (11, 160, 1, 143), (11, 164, 1, 146), (11, 167, 1, 144), (11, 170, 1, 148), (11, 173, 0, 220), (11, 178, 1, 142), (11, 182, 1, 149), (11, 186, 1, 153), (11, 189, 1, 154), (11, 193, 1, 152), (11, 196, 1, 157), (11, 199, 1, 136), (11, 202, 1, 139), (11, 206, 0, 224), (11, 209, 1, 150), (11, 212, 1, 151), (11, 215, 1, 156), (11, 221, 0, 222), (11, 224, 1, 155), (11, 227, 1, 141), (14, 335, 1, 211), (14, 492, 1, 212), (14, 495, 0, 214), (14, 498, 0, 217), (14, 1059, 0, 219), (15, 9, 0, 213), (16, 48, 0, 216), (16, 67, 0, 218), (16, 71, 0, 215), (16, 414, 0, 213)]
def zMR (oc k : Nat) : Option (Nat × Nat) := zlk zCA oc k
/-- methods: code, name, locals, answer, class, arguments, constructor, handlers (from, to, at, exception, pool entry) -/
abbrev zMT : Type := ByteArray × MethodName × Nat × Option FieldType × Nat × Nat × Bool × List (Nat × Nat × Nat × Nat × Nat)
def zML : List zMT := [
  (cX0_init, yX0_init, 5, none, 0, 4, true, []),
  (cX1_init, yX1_init, 2, none, 1, 1, true, []),
  (cX1_fail, yX1_fail, 3, some .int, 1, 2, false, []),
  (cX1_formError, yX1_formError, 1, some .int, 1, 0, false, []),
  (cX1_isWellFormed, yX1_isWellFormed, 5, some .boolean, 1, 0, false, []),
  (cX1_hasRestOf, yX1_hasRestOf, 4, some .boolean, 1, 1, false, []),
  (cX1_formOf, yX1_formOf, 1, some (.object "java/lang/String"), 1, 1, false, []),
  (cX1_goThrough, yX1_goThrough, 4, some .int, 1, 1, false, []),
  (cX1_doStep, yX1_doStep, 6, some .int, 1, 1, false, []),
  (cX1_readValues, yX1_readValues, 4, none, 1, 1, false, []),
  (cX1_errorAtWord, yX1_errorAtWord, 3, some .int, 1, 2, false, []),
  (cX1_isOutOfTurn, yX1_isOutOfTurn, 3, some .boolean, 1, 1, false, []),
  (cX1_wrongNumber, yX1_wrongNumber, 4, some .int, 1, 1, false, []),
  (cX1_isAllowed, yX1_isAllowed, 2, some .boolean, 1, 2, false, []),
  (cX1_follow, yX1_follow, 2, none, 1, 1, false, []),
  (cX1_beginLoop, yX1_beginLoop, 1, none, 1, 0, false, []),
  (cX1_endRound, yX1_endRound, 2, none, 1, 0, false, []),
  (cX2_init, yX2_init, 1, none, 2, 0, true, []),
  (cX2_appear, yX2_appear, 3, none, 2, 2, false, []),
  (cX2_vanish, yX2_vanish, 1, none, 2, 0, false, []),
  (cX2_soak, yX2_soak, 1, none, 2, 0, false, []),
  (cX2_warm, yX2_warm, 1, none, 2, 0, false, []),
  (cX2_isBurning, yX2_isBurning, 1, some .boolean, 2, 0, false, []),
  (cX2_settle, yX2_settle, 1, none, 2, 0, false, []),
  (cX2_cool, yX2_cool, 2, none, 2, 1, false, []),
  (cX2_dry, yX2_dry, 2, none, 2, 1, false, []),
  (cX2_bendTowards, yX2_bendTowards, 4, some .int, 2, 1, false, []),
  (cX2_stiffness, yX2_stiffness, 1, some .int, 2, 0, false, []),
  (cX2_isAsMeant, yX2_isAsMeant, 2, some .boolean, 2, 0, false, []),
  (cX2_springBack, yX2_springBack, 3, some .int, 2, 0, false, []),
  (cX2_copyFrom, yX2_copyFrom, 2, none, 2, 1, false, []),
  (cX3_init, yX3_init, 1, none, 3, 0, true, []),
  (cX3_append, yX3_append, 3, none, 3, 1, false, []),
  (cX3_at, yX3_at, 2, some (.object "BendYard$Action"), 3, 1, false, []),
  (cX3_tell, yX3_tell, 2, some .int, 3, 1, false, []),
  (cX4_init, yX4_init, 1, none, 4, 0, true, []),
  (cX4_become, yX4_become, 4, none, 4, 3, false, []),
  (cX4_hasKnotAt, yX4_hasKnotAt, 3, some .boolean, 4, 1, false, []),
  (cX4_insertKnot, yX4_insertKnot, 3, none, 4, 1, false, []),
  (cX4_clearPlaceFor, yX4_clearPlaceFor, 4, some .int, 4, 1, false, []),
  (cX4_mostClear, yX4_mostClear, 4, some .int, 4, 0, false, []),
  (cX4_becomeEndOf, yX4_becomeEndOf, 4, none, 4, 2, false, []),
  (cX4_shorten, yX4_shorten, 4, none, 4, 1, false, []),
  (cX4_tell, yX4_tell, 2, some .int, 4, 1, false, []),
  (cX4_copyFrom, yX4_copyFrom, 2, none, 4, 1, false, []),
  (cX5_init, yX5_init, 2, none, 5, 1, true, []),
  (cX5_placeBehind, yX5_placeBehind, 1, some .int, 5, 0, false, []),
  (cX5_goTo, yX5_goTo, 2, none, 5, 1, false, []),
  (cX5_next, yX5_next, 2, none, 5, 0, false, []),
  (cX5_readWord, yX5_readWord, 3, none, 5, 0, false, []),
  (cX5_readNumber, yX5_readNumber, 1, none, 5, 0, false, []),
  (cX5_isAmong, yX5_isAmong, 7, some .boolean, 5, 2, false, []),
  (cX5_withLetter, yX5_withLetter, 3, some .long, 5, 2, false, []),
  (cX5_isBlank, yX5_isBlank, 1, some .boolean, 5, 1, false, []),
  (cX5_isLetter, yX5_isLetter, 1, some .boolean, 5, 1, false, []),
  (cX5_isDigit, yX5_isDigit, 1, some .boolean, 5, 1, false, []),
  (cX5_isSymbol, yX5_isSymbol, 1, some .boolean, 5, 1, false, []),
  (cX6_init, yX6_init, 1, none, 6, 0, true, []),
  (cX6_begin, yX6_begin, 5, none, 6, 4, false, []),
  (cX6_action, yX6_action, 1, some (.object "BendYard$Action"), 6, 0, false, []),
  (cX6_goOn, yX6_goOn, 1, none, 6, 0, false, []),
  (cX6_losePiece, yX6_losePiece, 1, none, 6, 0, false, []),
  (cX6_getPiece, yX6_getPiece, 3, none, 6, 2, false, []),
  (cX6_treatPiece, yX6_treatPiece, 2, some .int, 6, 1, false, []),
  (cX6_fitPiece, yX6_fitPiece, 2, some .int, 6, 0, false, []),
  (cX6_holds, yX6_holds, 2, some .boolean, 6, 1, false, []),
  (cX6_release, yX6_release, 2, none, 6, 1, false, []),
  (cX6_receive, yX6_receive, 2, none, 6, 1, false, []),
  (cX6_await, yX6_await, 4, none, 6, 3, false, []),
  (cX6_isWaiting, yX6_isWaiting, 1, some .boolean, 6, 0, false, []),
  (cX6_couldEnd, yX6_couldEnd, 2, some .boolean, 6, 1, false, []),
  (cX6_heldSorts, yX6_heldSorts, 1, some .int, 6, 0, false, []),
  (cX6_tell, yX6_tell, 2, some .int, 6, 1, false, []),
  (cX6_copyFrom, yX6_copyFrom, 2, none, 6, 1, false, []),
  (cX7_init, yX7_init, 2, none, 7, 0, true, []),
  (cX7_add, yX7_add, 4, some .int, 7, 3, false, []),
  (cX7_plankFor, yX7_plankFor, 7, some .int, 7, 2, false, []),
  (cX7_cutAway, yX7_cutAway, 6, none, 7, 3, false, []),
  (cX7_moveWetness, yX7_moveWetness, 2, none, 7, 0, false, []),
  (cX7_lengthOfAll, yX7_lengthOfAll, 3, some .int, 7, 0, false, []),
  (cX7_copyFrom, yX7_copyFrom, 3, none, 7, 1, false, []),
  (cX8_init, yX8_init, 1, none, 8, 0, true, []),
  (cX8_append, yX8_append, 3, none, 8, 1, false, []),
  (cX8_at, yX8_at, 2, some .int, 8, 1, false, []),
  (cX9_init, yX9_init, 2, none, 9, 0, true, []),
  (cX9_passTick, yX9_passTick, 2, none, 9, 0, false, []),
  (cX9_grantFrames, yX9_grantFrames, 5, none, 9, 0, false, []),
  (cX9_longestWaiting, yX9_longestWaiting, 5, some .int, 9, 1, false, []),
  (cX9_work, yX9_work, 3, some .int, 9, 1, false, []),
  (cX9_settle, yX9_settle, 4, none, 9, 2, false, []),
  (cX9_takeFrame, yX9_takeFrame, 3, some .int, 9, 2, false, []),
  (cX9_giveFrame, yX9_giveFrame, 3, some .int, 9, 2, false, []),
  (cX9_cutPiece, yX9_cutPiece, 6, some .int, 9, 3, false, []),
  (cX9_finishHull, yX9_finishHull, 4, none, 9, 1, false, []),
  (cX9_keptHulls, yX9_keptHulls, 1, some .int, 9, 0, false, []),
  (cX9_stuckSlips, yX9_stuckSlips, 4, some .int, 9, 0, false, []),
  (cX9_buildingSlips, yX9_buildingSlips, 3, some .int, 9, 0, false, []),
  (cX9_waitingSlips, yX9_waitingSlips, 3, some .int, 9, 0, false, []),
  (cX9_slipsWaitingFor, yX9_slipsWaitingFor, 4, some .int, 9, 1, false, []),
  (cX9_tellFrames, yX9_tellFrames, 3, some .int, 9, 2, false, []),
  (cX9_tellCount, yX9_tellCount, 2, some .int, 9, 1, false, []),
  (cX9_copyFrom, yX9_copyFrom, 3, none, 9, 1, false, []),
  (cX10_init, yX10_init, 2, none, 10, 0, true, []),
  (cX10_feed, yX10_feed, 6, some .int, 10, 5, false, []),
  (cX10_trim, yX10_trim, 2, some .int, 10, 1, false, []),
  (cX10_compile, yX10_compile, 4, some .int, 10, 1, false, []),
  (cX10_errorAt, yX10_errorAt, 1, some .int, 10, 0, false, []),
  (cX10_plan, yX10_plan, 3, some .int, 10, 2, false, []),
  (cX10_addPlank, yX10_addPlank, 4, some .int, 10, 3, false, []),
  (cX10_addKnot, yX10_addKnot, 4, some .int, 10, 2, false, []),
  (cX10_plank, yX10_plank, 3, some .int, 10, 2, false, []),
  (cX10_find, yX10_find, 5, some .int, 10, 3, false, []),
  (cX10_addFrame, yX10_addFrame, 2, some .int, 10, 1, false, []),
  (cX10_frames, yX10_frames, 3, some .int, 10, 2, false, []),
  (cX10_addSlip, yX10_addSlip, 1, some .int, 10, 0, false, []),
  (cX10_start, yX10_start, 4, some .int, 10, 3, false, []),
  (cX10_lend, yX10_lend, 6, some .int, 10, 3, false, []),
  (cX10_slip, yX10_slip, 3, some .int, 10, 2, false, []),
  (cX10_bend, yX10_bend, 5, some .int, 10, 3, false, []),
  (cX10_stuck, yX10_stuck, 1, some .int, 10, 0, false, []),
  (cX10_run, yX10_run, 4, some .int, 10, 1, false, []),
  (cX10_count, yX10_count, 2, some .int, 10, 1, false, []),
  (cX10_hull, yX10_hull, 3, some .int, 10, 2, false, []),
  (cX10_foresee, yX10_foresee, 5, some .int, 10, 2, false, []),
  (cX10_flaw, yX10_flaw, 4, some .double, 10, 0, false, []),
  (cX10_digest, yX10_digest, 5, some .long, 10, 0, false, []),
  (cX10_digestOfSlip, yX10_digestOfSlip, 6, some .long, 10, 2, false, []),
  (cX10_isBelow, yX10_isBelow, 2, some .boolean, 10, 2, false, []),
  (cX10_nearer, yX10_nearer, 3, some .int, 10, 3, false, []),
  (cX11_init, yX11_init, 1, none, 11, 0, true, []),
  (cX11_copy, yX11_copy, 2, none, 11, 2, false, []),
  (cX11_copy_, yX11_copy_, 2, none, 11, 2, false, []),
  (cX11_become, yX11_become, 2, none, 11, 1, false, []),
  (cX11_isKnot, yX11_isKnot, 5, some .boolean, 11, 2, false, []),
  (cX11_place, yX11_place, 5, some .int, 11, 2, false, []),
  (cX11_clear, yX11_clear, 5, some .int, 11, 1, false, []),
  (cX11_find, yX11_find, 5, some .int, 11, 2, false, []),
  (cX11_add, yX11_add, 4, some .int, 11, 3, false, []),
  (cX11_addKnot, yX11_addKnot, 3, none, 11, 2, false, []),
  (cX11_cutOut, yX11_cutOut, 8, none, 11, 3, false, []),
  (cX11_free, yX11_free, 4, some .int, 11, 1, false, []),
  (cX11_waiting, yX11_waiting, 4, some .int, 11, 1, false, []),
  (cX11_await, yX11_await, 4, none, 11, 3, false, []),
  (cX11_get, yX11_get, 2, none, 11, 1, false, []),
  (cX11_giveOut, yX11_giveOut, 5, none, 11, 0, false, []),
  (cX11_stuck, yX11_stuck, 4, some .int, 11, 0, false, []),
  (cX11_heldBy, yX11_heldBy, 5, some .int, 11, 2, false, []),
  (cX11_pass, yX11_pass, 2, none, 11, 0, false, []),
  (cX11_act, yX11_act, 6, none, 11, 1, false, []),
  (cX11_cut, yX11_cut, 6, some .boolean, 11, 3, false, []),
  (cX11_warm, yX11_warm, 3, none, 11, 2, false, []),
  (cX11_moisten, yX11_moisten, 3, none, 11, 2, false, []),
  (cX11_treat, yX11_treat, 4, some .boolean, 11, 3, false, []),
  (cX11_bend, yX11_bend, 7, some .boolean, 11, 2, false, []),
  (cX11_fit, yX11_fit, 4, some .boolean, 11, 1, false, []),
  (cX11_clearPiece, yX11_clearPiece, 3, none, 11, 1, false, []),
  (cX11_lose, yX11_lose, 2, some .boolean, 11, 1, false, []),
  (cX11_finish, yX11_finish, 3, none, 11, 1, false, []),
  (cX11_slip, yX11_slip, 4, some .int, 11, 2, false, []),
  (cX11_counted, yX11_counted, 5, some .int, 11, 1, false, []),
  (cX12_init, yX12_init, 1, none, 12, 0, true, []),
  (cX12_thrown, yX12_thrown, 1, some .int, 12, 0, false, []),
  (cX12_no, yX12_no, 2, some .int, 12, 1, false, []),
  (cX12_isIn, yX12_isIn, 3, some .boolean, 12, 3, false, []),
  (cX12_feed, yX12_feed, 12, some .int, 12, 5, false, []),
  (cX12_trim, yX12_trim, 2, some .int, 12, 1, false, []),
  (cX12_tapeAt, yX12_tapeAt, 2, some .int, 12, 1, false, []),
  (cX12_isLetter, yX12_isLetter, 2, some .boolean, 12, 1, false, []),
  (cX12_isDigit, yX12_isDigit, 2, some .boolean, 12, 1, false, []),
  (cX12_scan, yX12_scan, 6, none, 12, 0, false, []),
  (cX12_is, yX12_is, 5, some .boolean, 12, 2, false, []),
  (cX12_which, yX12_which, 5, some .int, 12, 2, false, []),
  (cX12_numberAt, yX12_numberAt, 4, some .int, 12, 1, false, []),
  (cX12_takes, yX12_takes, 2, some .boolean, 12, 1, false, []),
  (cX12_planForm, yX12_planForm, 1, some .boolean, 12, 0, false, []),
  (cX12_stepForm, yX12_stepForm, 2, some .boolean, 12, 0, false, []),
  (cX12_actionForm, yX12_actionForm, 3, some .boolean, 12, 0, false, []),
  (cX12_wrong, yX12_wrong, 3, some .boolean, 12, 2, false, []),
  (cX12_go, yX12_go, 3, some .boolean, 12, 2, false, []),
  (cX12_goTimes, yX12_goTimes, 5, some .boolean, 12, 1, false, []),
  (cX12_isMisplaced, yX12_isMisplaced, 3, some .boolean, 12, 2, false, []),
  (cX12_goAction, yX12_goAction, 6, some .boolean, 12, 0, false, []),
  (cX12_compile, yX12_compile, 2, some .int, 12, 1, false, []),
  (cX12_errorAt, yX12_errorAt, 1, some .int, 12, 0, false, []),
  (cX12_planTold, yX12_planTold, 8, some .int, 12, 2, false, []),
  (cX12_plan, yX12_plan, 3, some .int, 12, 2, false, []),
  (cX12_addPlank, yX12_addPlank, 4, some .int, 12, 3, false, []),
  (cX12_isPlank, yX12_isPlank, 2, some .boolean, 12, 1, false, []),
  (cX12_addKnot, yX12_addKnot, 3, some .int, 12, 2, false, []),
  (cX12_plankTold, yX12_plankTold, 3, some .int, 12, 2, false, []),
  (cX12_plank, yX12_plank, 3, some .int, 12, 2, false, []),
  (cX12_find, yX12_find, 5, some .int, 12, 3, false, []),
  (cX12_addFrame, yX12_addFrame, 2, some .int, 12, 1, false, []),
  (cX12_frameTold, yX12_frameTold, 3, some .int, 12, 2, false, []),
  (cX12_frames, yX12_frames, 3, some .int, 12, 2, false, []),
  (cX12_addSlip, yX12_addSlip, 1, some .int, 12, 0, false, []),
  (cX12_isSlip, yX12_isSlip, 2, some .boolean, 12, 1, false, []),
  (cX12_start, yX12_start, 4, some .int, 12, 3, false, []),
  (cX12_lend, yX12_lend, 4, some .int, 12, 3, false, []),
  (cX12_slip, yX12_slip, 3, some .int, 12, 2, false, []),
  (cX12_bend, yX12_bend, 4, some .int, 12, 3, false, []),
  (cX12_stuck, yX12_stuck, 1, some .int, 12, 0, false, []),
  (cX12_run, yX12_run, 4, some .int, 12, 1, false, []),
  (cX12_count, yX12_count, 2, some .int, 12, 1, false, []),
  (cX12_kept, yX12_kept, 1, some .int, 12, 0, false, []),
  (cX12_hull, yX12_hull, 3, some .int, 12, 2, false, []),
  (cX12_foresee, yX12_foresee, 5, some .int, 12, 2, false, []),
  (cX12_flaw, yX12_flaw, 4, some .double, 12, 0, false, []),
  (cX12_digest, yX12_digest, 5, some .long, 12, 0, false, []),
  (cJ0_length_8abf5, yJ0_length_8abf5, 1, some .int, 14, 0, false, []),
  (cJ0_charAt_5068e, yJ0_charAt_5068e, 2, some .char, 14, 1, false, []),
  (cJ0_coder_7d493, yJ0_coder_7d493, 1, some .byte, 14, 0, false, []),
  (cJ0_isLatin1_aae02, yJ0_isLatin1_aae02, 1, some .boolean, 14, 0, false, []),
  (cJ0_checkIndex_df160, yJ0_checkIndex_df160, 2, none, 14, 2, false, []),
  (cJ1_charAt_3b067, yJ1_charAt_3b067, 2, some .char, 15, 2, false, []),
  (cJ2_getChar_3b067, yJ2_getChar_3b067, 2, some .char, 16, 2, false, []),
  (cJ2_length_9d52b, yJ2_length_9d52b, 1, some .int, 16, 1, false, []),
  (cJ2_charAt_3b067, yJ2_charAt_3b067, 2, some .char, 16, 2, false, []),
  (cJ2_checkIndex_2214a, yJ2_checkIndex_2214a, 2, none, 16, 2, false, []),
  (cJ3_checkIndex_8e157, yJ3_checkIndex_8e157, 3, some .int, 17, 3, false, []),
  (cJ6_signum_0f7a4, yJ6_signum_0f7a4, 1, some .int, 18, 1, false, []),
  (cJ7_fill_53178, yJ7_fill_53178, 4, none, 19, 2, false, []),
  (cJ9_abs_0f7a4, yJ9_abs_0f7a4, 1, some .int, 20, 1, false, []),
  (cJ9_max_7cf53, yJ9_max_7cf53, 2, some .int, 20, 2, false, []),
  (cJ9_min_7cf53, yJ9_min_7cf53, 2, some .int, 20, 2, false, []),
  (cL_feed, yL_feed, 8, some .int, 13, 7, false, [(0, 16, 19, 0, 13)]),
  (cL_trim, yL_trim, 4, some .int, 13, 3, false, [(0, 9, 12, 1, 19)]),
  (cL_compile, yL_compile, 4, some .int, 13, 3, false, [(0, 9, 12, 2, 24)]),
  (cL_plan, yL_plan, 5, some .int, 13, 4, false, [(0, 10, 13, 2, 24)]),
  (cL_addPlank, yL_addPlank, 6, some .int, 13, 5, false, [(0, 12, 15, 1, 19), (0, 12, 19, 0, 13)]),
  (cL_addKnot, yL_addKnot, 5, some .int, 13, 4, false, [(0, 10, 13, 2, 24), (0, 10, 17, 1, 19), (0, 10, 21, 0, 13)]),
  (cL_plank, yL_plank, 5, some .int, 13, 4, false, [(0, 10, 13, 2, 24)]),
  (cL_find, yL_find, 6, some .int, 13, 5, false, [(0, 12, 15, 1, 19)]),
  (cL_addFrame, yL_addFrame, 4, some .int, 13, 3, false, [(0, 9, 12, 1, 19), (0, 9, 15, 0, 13)]),
  (cL_frames, yL_frames, 5, some .int, 13, 4, false, [(0, 10, 13, 2, 24)]),
  (cL_addSlip, yL_addSlip, 3, some .int, 13, 2, false, [(0, 8, 11, 0, 13)]),
  (cL_start, yL_start, 6, some .int, 13, 5, false, [(0, 12, 15, 2, 24), (0, 12, 19, 1, 19), (0, 12, 23, 0, 13)]),
  (cL_lend, yL_lend, 6, some .int, 13, 5, false, [(0, 12, 15, 2, 24), (0, 12, 19, 1, 19), (0, 12, 23, 0, 13)]),
  (cL_slip, yL_slip, 5, some .int, 13, 4, false, [(0, 10, 13, 2, 24)]),
  (cL_bend, yL_bend, 6, some .int, 13, 5, false, [(0, 12, 15, 2, 24)]),
  (cL_run, yL_run, 4, some .int, 13, 3, false, [(0, 9, 12, 1, 19)]),
  (cL_count, yL_count, 4, some .int, 13, 3, false, [(0, 9, 12, 2, 24)]),
  (cL_hull, yL_hull, 5, some .int, 13, 4, false, [(0, 10, 13, 2, 24)]),
  (cL_foresee, yL_foresee, 5, some .int, 13, 4, false, [(0, 10, 13, 1, 19), (0, 10, 17, 2, 24)]),
  (cL_law, yL_law, 9, some .boolean, 13, 1, false, [])]
def zMT0 : zMT := (cX0_init, yX0_init, 0, none, 99, 0, false, [])
def zMc (K : Nat) : ByteArray := (zML.getD K zMT0).1
def zMy (K : Nat) : MethodName := (zML.getD K zMT0).2.1
def zMl (K : Nat) : Nat := (zML.getD K zMT0).2.2.1
def zMr (K : Nat) : Option FieldType := (zML.getD K zMT0).2.2.2.1
def zMo (K : Nat) : Nat := (zML.getD K zMT0).2.2.2.2.1
def zMn (K : Nat) : Nat := (zML.getD K zMT0).2.2.2.2.2.1
def zMi (K : Nat) : Bool := (zML.getD K zMT0).2.2.2.2.2.2.1
def zMh (K : Nat) : List (Nat × Nat × Nat × Nat × Nat) := (zML.getD K zMT0).2.2.2.2.2.2.2
/-- where a thrown exception is caught -/
def zhd (h : List (Nat × Nat × Nat × Nat × Nat)) (pc E : Nat) : Option Nat := match h with
  | [] => none
  | q :: l => if q.1 ≤ pc ∧ pc < q.2.1 ∧ q.2.2.2.1 = E then some q.2.2.1 else zhd l pc E
/-- foreign arrays: kind (1 ints, 2 bytes, 3 strings), length, cells -/
def zXk (k : Nat) : Nat := if k = 0 then 1 else if 4 ≤ k ∧ k ≤ 7 then 1 else if 1 ≤ k ∧ k ≤ 3 then 3 else if 120 ≤ k ∧ k < 120 + zSN then 2 else 0
def zXc (k : Nat) : List Int := match k with
  | 4 => [8, 6, 5, 4]
  | 5 => [0, 0, 1, 1, 1, 3, 1, 0]
  | 6 => [0, 0, 10, 1, 1, 0, 1, 0]
  | 7 => [0, 0, 200, 30, 30, 40, 30, 0]
  | k => zSTR (k - 120)
def zXs (k : Nat) : List Nat := match k with
  | 1 => [33, 34, 35, 36, 37, 38, 39, 40]
  | 2 => [41, 42, 43, 44, 45]
  | 3 => [46, 47, 48, 49]
  | _ => []
def zXN (xl k : Nat) : Nat := if k = 0 then xl else if k ≤ 3 then (zXs k).length else (zXc k).length
def zXI (xs : Nat → Int) (k j : Nat) : Int := if k = 0 then xs j else (zXc k).getD j 0
def zXQ (k j : Nat) : Nat := (zXs k).getD j 0
def zak (ty : ClassFile.ArrayType) : Nat := match ty with
  | .int => 20
  | .boolean => 21
  | .byte => 22
  | .long => 23
  | _ => 0
/-- the receiver of a call: an object of the method's class, or a string constant -/
def zrcv (m : zM) (K : Nat) (v : zV) : Prop := match v with
  | .inr (.inl a) => mC m a = zMo K + 1 ∧ zMo K < 13
  | .inr (.inr (.inr (.inl k))) => zMo K = 14 ∧ 20 ≤ k ∧ k < 20 + zSN
  | _ => False
/-- behind a call: the answer on the stack, or where the exception is caught (the exception itself: foreign reference 999) -/
def zgo (hh : List (Nat × Nat × Nat × Nat × Nat)) (nx : Nat → List zV → List zV → zM → zK) (pc : Nat) (ls rest : List zV) (r1 : zRes) (m1 : zM) : zK := match r1 with
  | .inl rv => nx (pc + 3) ls (rv.toList ++ rest) m1
  | .inr E => fun r m' => ∃ t : Nat, zhd hh pc E = some t ∧ nx t ls [zE 999] m1 r m'
/-- one instruction -/
def zexe (cr : Nat → List zV → zM → zK) (xs : Nat → Int) (xl : Nat) (cc : ByteArray) (oc : Nat) (rt : Option FieldType) (ini : Bool) (hh : List (Nat × Nat × Nat × Nat × Nat)) (nx : Nat → List zV → List zV → zM → zK) (i : Instr) (pc : Nat) (ls st : List zV) (m : zM) : zK :=
  match i with
  | .iconst n => nx (pc + 1) ls (zI (wr n) :: st) m
  | .bipush n => nx (pc + 2) ls (zI (w8 n) :: st) m
  | .sipush n => nx (pc + 3) ls (zI (w16 n) :: st) m
  | .lconst n => nx (pc + 1) ls (zL (n : Nat) :: st) m
  | .dconst n => zg (n = 0) (nx (pc + 1) ls (zD FP.dconst0 :: st) m)
  | .aconst_null => nx (pc + 1) ls (zR 0 :: st) m
  | .ldc k => match zCK oc k with
    | some v => nx (pc + 2) ls (v :: st) m
    | none => zno
  | .ldc2_w k => match zCL oc k with
    | some v => nx (pc + 3) ls (zL v :: st) m
    | none => zno
  | .iload k => match ls[k]? with
    | some (.inl x) => nx (pc + 2) ls (zI x :: st) m
    | _ => zno
  | .iload_n k => match ls[(k : Nat)]? with
    | some (.inl x) => nx (pc + 1) ls (zI x :: st) m
    | _ => zno
  | .lload k => match ls[k]? with
    | some (.inr (.inr (.inl x))) => nx (pc + 2) ls (zL x :: st) m
    | _ => zno
  | .lload_n k => match ls[(k : Nat)]? with
    | some (.inr (.inr (.inl x))) => nx (pc + 1) ls (zL x :: st) m
    | _ => zno
  | .dload k => match ls[k]? with
    | some (.inr (.inr (.inr (.inr (.inl x))))) => nx (pc + 2) ls (zD x :: st) m
    | _ => zno
  | .aload k => match ls[k]? with
    | some (.inr (.inl x)) => nx (pc + 2) ls (zR x :: st) m
    | some (.inr (.inr (.inr (.inl x)))) => nx (pc + 2) ls (zE x :: st) m
    | _ => zno
  | .aload_n k => match ls[(k : Nat)]? with
    | some (.inr (.inl x)) => nx (pc + 1) ls (zR x :: st) m
    | some (.inr (.inr (.inr (.inl x)))) => nx (pc + 1) ls (zE x :: st) m
    | _ => zno
  | .istore k => pI st fun x s => zg (k < ls.length) (nx (pc + 2) (zst1 k (zI x) ls) s m)
  | .istore_n k => pI st fun x s => zg ((k : Nat) < ls.length) (nx (pc + 1) (zst1 k (zI x) ls) s m)
  | .lstore k => match st with
    | .inr (.inr (.inl x)) :: s => zg (k + 1 < ls.length) (nx (pc + 2) (zst2 k (zL x) ls) s m)
    | _ => zno
  | .lstore_n k => match st with
    | .inr (.inr (.inl x)) :: s => zg ((k : Nat) + 1 < ls.length) (nx (pc + 1) (zst2 k (zL x) ls) s m)
    | _ => zno
  | .dstore k => match st with
    | .inr (.inr (.inr (.inr (.inl x)))) :: s => zg (k + 1 < ls.length) (nx (pc + 2) (zst2 k (zD x) ls) s m)
    | _ => zno
  | .astore k => match st with
    | .inr (.inl x) :: s => zg (k < ls.length) (nx (pc + 2) (zst1 k (zR x) ls) s m)
    | .inr (.inr (.inr (.inl x))) :: s => zg (k < ls.length) (nx (pc + 2) (zst1 k (zE x) ls) s m)
    | _ => zno
  | .astore_n k => match st with
    | .inr (.inl x) :: s => zg ((k : Nat) < ls.length) (nx (pc + 1) (zst1 k (zR x) ls) s m)
    | .inr (.inr (.inr (.inl x))) :: s => zg ((k : Nat) < ls.length) (nx (pc + 1) (zst1 k (zE x) ls) s m)
    | _ => zno
  | .iinc k n => match ls[k]? with
    | some (.inl x) => nx (pc + 3) (zst1 k (zI (wr (x + n))) ls) st m
    | _ => zno
  | .dup => match st with
    | v :: s => zg (zone v) (nx (pc + 1) ls (v :: v :: s) m)
    | _ => zno
  | .pop => match st with
    | v :: s => zg (zone v) (nx (pc + 1) ls s m)
    | _ => zno
  | .dup2 => match st with
    | v :: w :: s => zg (zone v ∧ zone w) (nx (pc + 1) ls (v :: w :: v :: w :: s) m)
    | _ => zno
  | .iadd => pII st fun a b s => nx (pc + 1) ls (zI (wr (a + b)) :: s) m
  | .isub => pII st fun a b s => nx (pc + 1) ls (zI (wr (a - b)) :: s) m
  | .imul => pII st fun a b s => nx (pc + 1) ls (zI (wr (a * b)) :: s) m
  | .idiv => pII st fun a b s => zg (b ≠ 0) (nx (pc + 1) ls (zI (wr (a.tdiv b)) :: s) m)
  | .irem => pII st fun a b s => zg (b ≠ 0) (nx (pc + 1) ls (zI (wr (a - wr (wr (a.tdiv b) * b))) :: s) m)
  | .ineg => pI st fun a s => nx (pc + 1) ls (zI (wr (-a)) :: s) m
  | .iand => pII st fun a b s => nx (pc + 1) ls (zI (bAnd a b) :: s) m
  | .ior => pII st fun a b s => nx (pc + 1) ls (zI (bOr a b) :: s) m
  | .ixor => pII st fun a b s => nx (pc + 1) ls (zI (bXor a b) :: s) m
  | .ishl => pII st fun a b s => nx (pc + 1) ls (zI (bShl a b) :: s) m
  | .ishr => pII st fun a b s => nx (pc + 1) ls (zI (bShr a b) :: s) m
  | .iushr => pII st fun a b s => nx (pc + 1) ls (zI (bUsh a b) :: s) m
  | .i2l => pI st fun a s => nx (pc + 1) ls (zL a :: s) m
  | .i2c => pI st fun a s => nx (pc + 1) ls (zI (bI2c a) :: s) m
  | .i2b => pI st fun a s => nx (pc + 1) ls (zI (bI2b a) :: s) m
  | .i2d => pI st fun a s => nx (pc + 1) ls (zD (FP.i2d (Int32.ofInt a)) :: s) m
  | .ladd => pLL st fun a b s => nx (pc + 1) ls (zL (wl (a + b)) :: s) m
  | .lsub => pLL st fun a b s => nx (pc + 1) ls (zL (wl (a - b)) :: s) m
  | .lmul => pLL st fun a b s => nx (pc + 1) ls (zL (wl (a * b)) :: s) m
  | .lcmp => pLL st fun a b s => nx (pc + 1) ls (zI (bCmp a b) :: s) m
  | .ddiv => pDD st fun a b s => zg (vf_n64 (FP.ddiv a b)) (nx (pc + 1) ls (zD (FP.ddiv a b) :: s) m)
  | .dcmp op => pDD st fun a b s => nx (pc + 1) ls (zI (bDcmp a b op) :: s) m
  | .ifCond c off => pI st fun a s => zbr (zcnd c a 0) (zjmp pc off fun t => nx t ls s m) (nx (pc + 3) ls s m)
  | .if_icmp c off => pII st fun a b s => zbr (zcnd c a b) (zjmp pc off fun t => nx t ls s m) (nx (pc + 3) ls s m)
  | .ifnull off => pR st fun a s => zbr (a = 0) (zjmp pc off fun t => nx t ls s m) (nx (pc + 3) ls s m)
  | .ifnonnull off => pR st fun a s => zbr (a ≠ 0) (zjmp pc off fun t => nx t ls s m) (nx (pc + 3) ls s m)
  | .goto off => zjmp pc off fun t => nx t ls st m
  | .tableswitch d lo hi offs => pI st fun a s => zbr (a < lo ∨ hi < a) (zjmp pc d fun t => nx t ls s m) (match offs[(a - lo).toNat]? with
      | some off => zjmp pc off fun t => nx t ls s m
      | none => zno)
  | .lookupswitch d ps => pI st fun a s => zg ((ps.toList.zip (ps.toList.drop 1)).all (fun (a, next) => a.1 < next.1) = true) (zjmp pc (Op.lookupswitch.offset ps.toList d a) fun t => nx t ls s m)
  | .getfield k => match zFR oc k with
    | some (ci, j) => match st with
      | .inr (.inl a) :: s => zg (mC m a = ci + 1 ∧ ci < 13) (nx (pc + 3) ls ((if zisq (zty ci j) then zR (mR m (64 * ci + j) a) else zI (mI m (64 * ci + j) a)) :: s) m)
      | .inr (.inr (.inr (.inl e))) :: s => zg (ci = 14 ∧ 20 ≤ e ∧ e < 20 + zSN) (nx (pc + 3) ls ((if j = 0 then zE (e + 100) else zI 0) :: s) m)
      | _ => zno
    | none => zno
  | .putfield k => match zFR oc k with
    | some (ci, j) => match st with
      | .inl v :: .inr (.inl a) :: s => zg (mC m a = ci + 1 ∧ ci < 13 ∧ zisq (zty ci j) = false ∧ zfit (zty ci j) v ∧ zfok oc ini ci j = true) (nx (pc + 3) ls s (sI m (64 * ci + j) a v))
      | .inr (.inl v) :: .inr (.inl a) :: s => zg (mC m a = ci + 1 ∧ ci < 13 ∧ zisq (zty ci j) = true ∧ zfok oc ini ci j = true) (nx (pc + 3) ls s (sR m (64 * ci + j) a v))
      | _ => zno
    | none => zno
  | .getstatic k => match zSR oc k with
    | some v => nx (pc + 3) ls (v :: st) m
    | none => zno
  | .iaload => match st with
    | .inl j :: .inr (.inl a) :: s => zg (mC m a = 20 ∧ 0 ≤ j ∧ j < mN m a) (nx (pc + 1) ls (zI (mA m a j.toNat) :: s) m)
    | .inl j :: .inr (.inr (.inr (.inl e))) :: s => zg (zXk e = 1 ∧ 0 ≤ j ∧ j < zXN xl e) (nx (pc + 1) ls (zI (zXI xs e j.toNat) :: s) m)
    | _ => zno
  | .baload => match st with
    | .inl j :: .inr (.inl a) :: s => zg ((mC m a = 21 ∨ mC m a = 22) ∧ 0 ≤ j ∧ j < mN m a) (nx (pc + 1) ls (zI (mA m a j.toNat) :: s) m)
    | .inl j :: .inr (.inr (.inr (.inl e))) :: s => zg (zXk e = 2 ∧ 0 ≤ j ∧ j < zXN xl e) (nx (pc + 1) ls (zI (zXI xs e j.toNat) :: s) m)
    | _ => zno
  | .laload => match st with
    | .inl j :: .inr (.inl a) :: s => zg (mC m a = 23 ∧ 0 ≤ j ∧ j < mN m a) (nx (pc + 1) ls (zL (mA m a j.toNat) :: s) m)
    | _ => zno
  | .aaload => match st with
    | .inl j :: .inr (.inl a) :: s => zg (29 ≤ mC m a ∧ mC m a < 43 ∧ 0 ≤ j ∧ j < mN m a) (nx (pc + 1) ls (zR (mO m a j.toNat) :: s) m)
    | .inl j :: .inr (.inr (.inr (.inl e))) :: s => zg (zXk e = 3 ∧ 0 ≤ j ∧ j < zXN xl e) (nx (pc + 1) ls (zE (zXQ e j.toNat) :: s) m)
    | _ => zno
  | .iastore => match st with
    | .inl v :: .inl j :: .inr (.inl a) :: s => zg (mC m a = 20 ∧ 0 ≤ j ∧ j < mN m a) (nx (pc + 1) ls s (sA m a j.toNat v))
    | _ => zno
  | .bastore => match st with
    | .inl v :: .inl j :: .inr (.inl a) :: s => zg (((mC m a = 21 ∧ (v = 0 ∨ v = 1)) ∨ (mC m a = 22 ∧ -128 ≤ v ∧ v ≤ 127)) ∧ 0 ≤ j ∧ j < mN m a) (nx (pc + 1) ls s (sA m a j.toNat v))
    | _ => zno
  | .lastore => match st with
    | .inr (.inr (.inl v)) :: .inl j :: .inr (.inl a) :: s => zg (mC m a = 23 ∧ 0 ≤ j ∧ j < mN m a) (nx (pc + 1) ls s (sA m a j.toNat v))
    | _ => zno
  | .aastore => match st with
    | .inr (.inl v) :: .inl j :: .inr (.inl a) :: s => zg (30 ≤ mC m a ∧ mC m a < 43 ∧ mC m v + 29 = mC m a ∧ 0 ≤ j ∧ j < mN m a) (nx (pc + 1) ls s (sO m a j.toNat v))
    | _ => zno
  | .arraylength => match st with
    | .inr (.inl a) :: s => zg (20 ≤ mC m a ∧ mC m a < 43) (nx (pc + 1) ls (zI (wr (mN m a)) :: s) m)
    | .inr (.inr (.inr (.inl e))) :: s => zg (zXk e ≠ 0) (nx (pc + 1) ls (zI (wr (zXN xl e)) :: s) m)
    | _ => zno
  | .newarray ty => pI st fun n s => zg (0 ≤ n ∧ n ≤ 60000000 ∧ zak ty ≠ 0) (nx (pc + 2) ls (zR (mz m) :: s) (nwA m (zak ty) n.toNat))
  | .anewarray k => match zNR oc k with
    | some (ci, _) => pI st fun n s => zg (0 ≤ n ∧ n ≤ 60000000 ∧ zaok ci = true) (nx (pc + 3) ls (zR (mz m) :: s) (nwA m (30 + ci) n.toNat))
    | none => zno
  | .multianewarray k 2 => pII st fun n j s => zg (0 ≤ n ∧ n ≤ 60000 ∧ 0 ≤ j ∧ j ≤ 60000 ∧ oc = 9 ∧ k = zmk) (nx (pc + 4) ls (zR (mz m) :: s) (nwB m n.toNat j.toNat))
  | .new k => match zNR oc k with
    | some (ci, nf) => zg (nf = zN ci) (nx (pc + 3) ls (zR (mz m) :: st) (nwO m ci nf))
    | none => match zXR oc k with
      | some E => fun r m' => (∃ is ic : Nat, decode cc (pc + 3) = .ok (.dup, 1) ∧ decode cc (pc + 4) = .ok (.ldc is, 2) ∧ decode cc (pc + 6) = .ok (.invokespecial ic, 3) ∧ decode cc (pc + 9) = .ok (.athrow, 1) ∧ zXL oc k is ic = true) ∧ r = .inr E ∧ m' = nwX m
      | none => zno
  | .invokestatic k => match zMR oc k with
    | some (0, K) => fun r m' => ∃ (rv : Option zV) (m1 : zM), cr K (st.take (zMn K)).reverse m (.inl rv) m1 ∧ zMn K ≤ st.length ∧ (st.drop (zMn K)).length ≤ 4 ∧ nx (pc + 3) ls (rv.toList ++ st.drop (zMn K)) m1 r m'
    | some (4, _) => match st with
      | .inl n :: .inl dp :: .inr (.inl b) :: .inl sp :: .inr (.inl a) :: s => zg (0 ≤ n ∧ 0 ≤ dp ∧ 0 ≤ sp ∧ sp + n ≤ mN m a ∧ dp + n ≤ mN m b ∧ mC m a = mC m b ∧ (mC m a = 20 ∨ (mC m a = 21 ∧ ∀ j : Nat, sp ≤ j → j < sp + n → mA m a j = 0 ∨ mA m a j = 1)) ∧ a ≠ b ∧ s.length ≤ 4) (nx (pc + 3) ls s (cpA m a sp.toNat b dp.toNat n.toNat))
      | _ => zno
    | _ => zno
  | .invokevirtual k => match zMR oc k with
    | some (1, K) => fun r m' => ∃ (v : zV) (rest : List zV) (r1 : zRes) (m1 : zM), st.drop (zMn K) = v :: rest ∧ zrcv m K v ∧ cr K (v :: (st.take (zMn K)).reverse) m r1 m1 ∧ rest.length ≤ 4 ∧ zgo hh nx pc ls rest r1 m1 r m'
    | _ => zno
  | .invokespecial k => match zMR oc k with
    | some (2, K) => fun r m' => ∃ (a : Nat) (rest : List zV) (m1 : zM), st.drop (zMn K) = zR a :: rest ∧ a ≠ 0 ∧ cr K (zR a :: (st.take (zMn K)).reverse) m (.inl none) m1 ∧ rest.length ≤ 4 ∧ nx (pc + 3) ls rest m1 r m'
    | some (3, _) => match st with
      | .inr (.inl a) :: s => zg (a ≠ 0 ∧ s.length ≤ 4) (nx (pc + 3) ls s m)
      | _ => zno
    | _ => zno
  | .ireturn => match rt with
    | some ty => match st with
      | [.inl v] => zg (zfit ty v) (zend (some (zI v)) m)
      | _ => zno
    | none => zno
  | .lreturn => match st with
    | [.inr (.inr (.inl v))] => zg (rt = some .long) (zend (some (zL v)) m)
    | _ => zno
  | .dreturn => match st with
    | [.inr (.inr (.inr (.inr (.inl v))))] => zg (rt = some .double) (zend (some (zD v)) m)
    | _ => zno
  | .areturn => match rt with
    | some ty => match st with
      | [.inr (.inl v)] => zg (zisq ty = true) (zend (some (zR v)) m)
      | [.inr (.inr (.inr (.inl v)))] => zg (zisq ty = true) (zend (some (zE v)) m)
      | _ => zno
    | none => zno
  | .return_ => match st with
    | [] => zg (rt = none) (zend none m)
    | _ => zno
  | _ => zno
/-- how many bytes an instruction takes -/
def zlen (i : Instr) (n : Nat) : Bool := match i with
  | .bipush _ | .ldc _ | .iload _ | .lload _ | .dload _ | .aload _ | .istore _ | .lstore _ | .dstore _ | .astore _ | .newarray _ => n == 2
  | .sipush _ | .ldc2_w _ | .iinc _ _ | .ifCond _ _ | .if_icmp _ _ | .ifnull _ | .ifnonnull _ | .goto _ | .getfield _ | .putfield _ | .getstatic _ | .anewarray _ | .new _ | .invokestatic _ | .invokevirtual _ | .invokespecial _ => n == 3
  | .multianewarray _ _ => n == 4
  | .tableswitch _ _ _ _ | .lookupswitch _ _ => true
  | _ => n == 1
/-- n instructions at most -/
def zrun (cr : Nat → List zV → zM → zK) (xs : Nat → Int) (xl : Nat) (cc : ByteArray) (oc : Nat) (rt : Option FieldType) (ini : Bool) (hh : List (Nat × Nat × Nat × Nat × Nat)) : Nat → Nat → List zV → List zV → zM → zK
  | 0, _, _, _, _ => zno
  | n + 1, pc, ls, st, m => match decode cc pc with
    | .ok q => zg (zlen q.1 q.2 = true) (zexe cr xs xl cc oc rt ini hh (zrun cr xs xl cc oc rt ini hh n) q.1 pc ls st m)
    | .error _ => zno
/-- a call of method K, d calls deep at most -/
def zcall (xs : Nat → Int) (xl : Nat) : Nat → Nat → List zV → zM → zK
  | 0, _, _, _ => zno
  | d + 1, K, args, m => fun r m' => ∃ n : Nat, zrun (zcall xs xl d) xs xl (zMc K) (zMo K) (zMr K) (zMi K) (zMh K) n 0 (zent (zMl K) args) [] m r m'
