/-! DOUBLES, and the claim -/
theorem n64_bits (r : UInt64) : vf_n64 r ↔ r.toNat % 2 ^ 63 ≤ 9218868437227405312 := by
  unfold vf_n64
  rw [UInt64.le_iff_toNat_le, UInt64.toNat_and]
  have h1 : (0x7fffffffffffffff : UInt64).toNat = 2 ^ 63 - 1 := by decide
  have h2 : (0x7ff0000000000000 : UInt64).toNat = 9218868437227405312 := by decide
  rw [h1, h2, Nat.and_two_pow_sub_one_eq_mod]
theorem cmp_0 : Op.cmpValue (some Ordering.eq) CmpOp.l = 0 := rfl
/-- a number that isn't NaN, by the library's words -/
theorem n64_no (r : UInt64) : vf_n64 r ↔ _root_.Jvm.FP.Core.dIsNaN r = false := (n64_bits r).trans ((_root_.Jvm.FP.Core.ne_nan r).symm.trans (_root_.Jvm.FP.Core.notNaN_iff r).symm)
/-- ints divided, the divisor not 0 -/
theorem z_nan : zNaN := fun x y hy => by
  have hz : ¬ _root_.Jvm.FP.Core.DZero (_root_.Jvm.FP.Core.i2d y) := fun h => _root_.Jvm.FP.Core.i2d_ne_zero hy ((_root_.Jvm.FP.Core.zero_bits2 _).mp h)
  have hf := (_root_.Jvm.FP.Core.fin_bits _).mp (_root_.Jvm.FP.Core.i2d_fin x)
  have hx : _root_.Jvm.FP.Core.dIsNaN (_root_.Jvm.FP.Core.i2d x) = false := (_root_.Jvm.FP.Core.notNaN_iff _).mpr ((_root_.Jvm.FP.Core.ne_nan _).mpr (Nat.le_of_lt hf))
  exact (n64_no _).mpr (_root_.Jvm.FP.Core.ddiv_out hx (_root_.Jvm.FP.Core.i2d_fin y) hz)
theorem z_cmp : zCmp := fun a ha => by
  have h := _root_.Jvm.FP.Core.dcmp_refl ((n64_no a).mp ha)
  show Op.cmpValue (_root_.Jvm.FP.Core.dcmp a a) CmpOp.l = 0
  rw [h]
  exact cmp_0
theorem i_vc : Claimed_1_1 ∧ Claimed_1_2 := i_vc0 z_nan z_cmp
