/-! what is used of doubles -/
theorem nan_eq (q : UInt64) : isNaN64 q = true ↔ FP.dIsNaN q = true := by
  rw [FP.Core.isNaN_bits]
  have h1 : (q &&& 0x7fffffffffffffff).toNat = q.toNat % 2 ^ 63 := by
    rw [UInt64.toNat_and]
    exact Nat.and_two_pow_sub_one_eq_mod q.toNat 63
  have h2 : isNaN64 q = true ↔ (0x7ff0000000000000 : UInt64) < q &&& 0x7fffffffffffffff := by
    unfold isNaN64
    exact decide_eq_true_iff
  rw [h2, UInt64.lt_iff_toNat_lt, h1]
  exact Iff.rfl
theorem fp_dn (q : UInt64) (h : isNaN64 q = true) : isNaN64 (FP.dsub FP.dconst1 q) = true := by
  cases hc : FP.dIsNaN (FP.dsub FP.dconst1 q) with
  | true => exact (nan_eq _).mpr hc
  | false =>
    have h2 : FP.dIsNaN q = false := (FP.Core.dsub_in hc).2
    rw [(nan_eq q).mp h] at h2
    cases h2
theorem fp_c2 (q q' : UInt64) (h : isNaN64 q = true) (_ : isNaN64 q' = true) : FP.dcmp q q' = none := (FP.Core.dcmp_none q q').mpr (Or.inl ((FP.Core.dIsNaN_iff q).mp ((nan_eq q).mp h)))
theorem fp_c1 (q : UInt64) (h : isNaN64 q = true) : FP.dcmp q q = none := fp_c2 q q h h
theorem fp_c3 (q : UInt64) (h : isNaN64 q = false) : FP.dcmp q q = some .eq := FP.Core.dcmp_self (fun h2 => by
  rw [(nan_eq q).mpr ((FP.Core.dIsNaN_iff q).mpr h2)] at h
  cases h)
