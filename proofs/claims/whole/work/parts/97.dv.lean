theorem n64_of {r : UInt64} (h : Jvm.FP.Core.dIsNaN r = false) : vf_n64 r := by
  have q : ¬ (9218868437227405312 < r.toNat % 2 ^ 63) := fun z => by
    rw [(Jvm.FP.Core.isNaN_bits r).mpr z] at h
    exact absurd h (by decide)
  show r &&& 0x7fffffffffffffff ≤ 0x7ff0000000000000
  rw [UInt64.le_iff_toNat_le, UInt64.toNat_and]
  have e : r.toNat &&& (0x7fffffffffffffff : UInt64).toNat = r.toNat % 2 ^ 63 := Nat.and_two_pow_sub_one_eq_mod r.toNat 63
  rw [e]
  have e2 : (0x7ff0000000000000 : UInt64).toNat = 9218868437227405312 := rfl
  rw [e2]
  omega
theorem n64_div {a b : Int} (hb : Int32.ofInt b ≠ 0) : vf_n64 (FP.ddiv (FP.i2d (Int32.ofInt a)) (FP.i2d (Int32.ofInt b))) := by
  refine n64_of (Jvm.FP.Core.ddiv_out (Jvm.FP.Core.i2d_fin _).notNaN (Jvm.FP.Core.i2d_fin _) (fun z => ?_))
  exact Jvm.FP.Core.i2d_ne_zero hb ((Jvm.FP.Core.zero_bits2 _).mp z)
theorem of_ne {b : Int} (h : b ≠ 0) (hr : wr b = b) : Int32.ofInt b ≠ 0 := fun z => by
  have e : (Int32.ofInt b).toInt = wr b := by rw [Int32.toInt_ofInt]; exact wr_bmod b
  rw [z, hr] at e
  exact h (e.symm.trans (by decide))
theorem colF_wr {H : Nat → Nat → Int} {c : Nat} : ∀ n, wr (colF H c n) = colF H c n
  | 0 => by unfold colF; decide
  | n + 1 => wr_wr _
theorem flaw_n64 {H : Nat → Nat → Int} {n : Nat} (h : colF H 2 n ≠ 0) : vf_n64 (FP.ddiv (FP.i2d (Int32.ofInt (colF H 3 n))) (FP.i2d (Int32.ofInt (colF H 2 n)))) := n64_div (of_ne h (colF_wr n))
