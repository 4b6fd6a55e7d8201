/-! what is used of doubles -/
theorem nan_eq (q : UInt64) : isNaN64 q = true ↔ FP.dIsNaN q = true := by
  rw [FP.Core.isNaN_bits]
  have h1 : (q &&& 0x7fffffffffffffff).toNat = q.toNat % 2 ^ 63 := by
    rw [UInt64.toNat_and]
    exact Nat.and_two_pow_sub_one_eq_mod q.toNat 63
  have h2 : isNaN64 q = true ↔ (0x7ff0000000000000 : UInt64) < q &&& 0x7fffffffffffffff := by
    unfold isNaN64
    exact decide_eq_true_iff
  rw [h2, UInt64.lt_iff_toNat_lt, h1]
  exact Iff.rfl
theorem fp_nn {q : UInt64} (h : FP.Core.val64 q ≠ .nan) : isNaN64 q = false := by
  cases e : isNaN64 q with
  | false => rfl
  | true =>
    have h1 := (nan_eq q).mp e
    have h2 := (FP.Core.notNaN_iff q).mpr h
    have h3 : FP.dIsNaN q = false := h2
    rw [h1] at h3
    cases h3
theorem fp_al {q p : UInt64} (h : FP.Core.val64 p ≠ .nan) (ha : alike64 q p = true) : q = p := by
  unfold alike64 at ha
  rw [fp_nn h, Bool.and_false, Bool.or_false] at ha
  exact decide_eq_true_iff.mp ha
def fp_1 : FP.Core.Datum := .fin false (2 ^ 52) (-52)
def fp_0 : FP.Core.Datum := .fin false 0 (-1074)
theorem fp_v1 : FP.Core.val64 FP.dconst1 = fp_1 := by decide +kernel
theorem fp_v0 : FP.Core.val64 FP.dconst0 = fp_0 := by decide +kernel
theorem fp_f1 : FP.Core.fits FP.Core.b64 fp_1 := by rw [← fp_v1]; exact FP.Core.decode_fits FP.Core.good_b64 _
theorem fp_f0 : FP.Core.fits FP.Core.b64 fp_0 := by rw [← fp_v0]; exact FP.Core.decode_fits FP.Core.good_b64 _
theorem fp_z1 : FP.Core.zval FP.Core.b64 fp_1 = ((2 ^ 1074 : Nat) : Int) := by decide +kernel
theorem fp_m1 : FP.Core.zmag FP.Core.b64 fp_1 = 2 ^ 1074 := by decide +kernel
theorem fp_z0 : FP.Core.zval FP.Core.b64 fp_0 = 0 := by decide +kernel
theorem fp_int : ∀ x, x < 401 → 0 < x → FP.Core.val64 (FP.i2d (nI x)) = .fin false (x * 2 ^ (52 - x.log2)) ((x.log2 : Int) - 52) := by decide +kernel
theorem fp_zero : ∀ z, z < 401 → 0 < z → FP.ddiv (FP.i2d (nI 0)) (FP.i2d (nI z)) = FP.dconst0 := by decide +kernel
theorem fp_log : ∀ x, x < 401 → x.log2 ≤ 8 := by decide +kernel
/-- a quotient -/
theorem fp_q {x z : Nat} (hx : 0 < x) (hxz : x ≤ z) (hz : z ≤ 400) : ∃ Q, FP.Core.val64 (FP.ddiv (FP.i2d (nI x)) (FP.i2d (nI z))) = Q ∧ Q ≠ .nan ∧ FP.Core.sgn Q = false ∧ FP.Core.zmag FP.Core.b64 Q ≤ 2 ^ 1074 ∧ (x = z → FP.Core.zmag FP.Core.b64 Q = 2 ^ 1074) := by
  have lx := fp_log x (by omega)
  have lz := fp_log z (by omega)
  have h1 : FP.Core.val64 (FP.ddiv (FP.i2d (nI x)) (FP.i2d (nI z))) = FP.Core.roundRatio FP.Core.b64 false (x * 2 ^ (52 - x.log2)) (z * 2 ^ (52 - z.log2)) (((x.log2 : Int) - 52) - ((z.log2 : Int) - 52)) := by
    refine (FP.Core.val64_ddiv _ _).trans ?_
    rw [show FP.Core.val64 (FP.i2d (nI x)) = _ from fp_int x (by omega) hx, show FP.Core.val64 (FP.i2d (nI z)) = _ from fp_int z (by omega) (by omega)]
    show (if z * 2 ^ (52 - z.log2) = 0 then _ else _) = _
    rw [if_neg (fun e => by
      rcases Nat.mul_eq_zero.mp e with e | e
      · omega
      · exact absurd e (Nat.ne_of_gt (Nat.two_pow_pos _)))]
    rfl
  have hB : 0 < z * 2 ^ (52 - z.log2) := Nat.mul_pos (by omega) (Nat.two_pow_pos _)
  have hA : FP.Core.inUnits (x * 2 ^ (52 - x.log2)) (((x.log2 : Int) - 52) - ((z.log2 : Int) - 52)) (-1074) = x * 2 ^ (1126 - z.log2) := by
    unfold FP.Core.inUnits
    rw [Nat.mul_assoc, ← Nat.pow_add]
    congr 2
    omega
  have hC : (2 : Nat) ^ 1074 * 2 ^ (FP.Core.b64.qmin - (-1074)).toNat * (z * 2 ^ (52 - z.log2)) = z * 2 ^ (1126 - z.log2) := by
    rw [FP.Core.qmin_b64, show ((-1074 : Int) - (-1074)).toNat = 0 by decide, Nat.pow_zero, Nat.mul_one, Nat.mul_left_comm, ← Nat.pow_add]
    congr 2
    omega
  have hle := FP.Core.zmag_roundRatio_le FP.Core.good_b64 (s := false) (A := x * 2 ^ (52 - x.log2)) (e := ((x.log2 : Int) - 52) - ((z.log2 : Int) - 52)) (e0 := -1074) hB fp_f1 (by unfold fp_1; exact FP.Core.Datum.noConfusion) (by decide) (by omega) (by
    rw [fp_m1, hA, hC]
    exact Nat.mul_le_mul_right _ hxz)
  rw [fp_m1] at hle
  refine ⟨_, h1, FP.Core.roundRatio_ne_nan _ _ _ _ _, FP.Core.sgn_roundRatio _ _ _ _ _, hle, fun e => Nat.le_antisymm hle ?_⟩
  have hge := FP.Core.zmag_roundRatio_ge FP.Core.good_b64 (s := false) (A := x * 2 ^ (52 - x.log2)) (e := ((x.log2 : Int) - 52) - ((z.log2 : Int) - 52)) (e0 := -1074) hB fp_f1 (by decide) (by omega) (by
    rw [fp_m1, hA, hC, e]
    exact Nat.le_refl _)
  rw [fp_m1] at hge
  exact hge
/-- one less a number from 0 to 1 -/
theorem fp_s {q : UInt64} (h0 : FP.Core.val64 q ≠ .nan) (h1 : 0 ≤ FP.Core.zval FP.Core.b64 (FP.Core.val64 q)) (h2 : FP.Core.zval FP.Core.b64 (FP.Core.val64 q) ≤ ((2 ^ 1074 : Nat) : Int)) : FP.Core.val64 (FP.dsub FP.dconst1 q) ≠ .nan ∧ 0 ≤ FP.Core.zval FP.Core.b64 (FP.Core.val64 (FP.dsub FP.dconst1 q)) ∧ FP.Core.zval FP.Core.b64 (FP.Core.val64 (FP.dsub FP.dconst1 q)) ≤ ((2 ^ 1074 : Nat) : Int) ∧ (FP.Core.zval FP.Core.b64 (FP.Core.val64 q) = ((2 ^ 1074 : Nat) : Int) → FP.Core.zval FP.Core.b64 (FP.Core.val64 (FP.dsub FP.dconst1 q)) = 0) := by
  have hs : FP.Core.val64 (FP.dsub FP.dconst1 q) = FP.Core.round FP.Core.b64 (FP.Core.exactSum fp_1 (FP.Core.negate (FP.Core.val64 q))) := by
    refine (FP.Core.val64_dsub _ _).trans ?_
    rw [show FP.Core.val64 FP.dconst1 = fp_1 from fp_v1]
  have hf := FP.Core.decode_fits FP.Core.good_b64 q.toNat
  have hf : FP.Core.fits FP.Core.b64 (FP.Core.val64 q) := hf
  rw [hs]
  generalize FP.Core.val64 q = Q at *
  cases Q with
  | nan => exact absurd rfl h0
  | inf t =>
    exfalso
    cases t
    · revert h2; decide +kernel
    · revert h1; decide +kernel
  | fin t d r =>
    have hn := FP.Core.negate_fits hf
    obtain ⟨sg, n, e, e1, e2, e3⟩ := FP.Core.sum_units fp_f1 (show FP.Core.fits FP.Core.b64 (.fin (!t) d r) from hn)
    have e4 : FP.Core.zval FP.Core.b64 (.fin (!t) d r) = - FP.Core.zval FP.Core.b64 (.fin t d r) := FP.Core.zval_negate FP.Core.b64 (.fin t d r)
    have e5 : FP.Core.zval FP.Core.b64 (.fin false (2 ^ 52) (-52)) = ((2 ^ 1074 : Nat) : Int) := fp_z1
    rw [e4, e5] at e3
    have hE : FP.Core.exactSum fp_1 (FP.Core.negate (.fin t d r)) = .fin sg n e := e1
    rw [hE]
    have hP : (2 ^ (FP.Core.b64.qmin - FP.Core.b64.qmin).toNat : Nat) = 1 := by rw [Int.sub_self]; rfl
    have n1 : fp_1 ≠ .nan := by unfold fp_1; exact FP.Core.Datum.noConfusion
    have n0 : fp_0 ≠ .nan := by unfold fp_0; exact FP.Core.Datum.noConfusion
    generalize FP.Core.zval FP.Core.b64 (.fin t d r) = v at *
    refine ⟨FP.Core.roundRatio_ne_nan _ _ _ _ _, ?_, ?_, fun hv => ?_⟩
    · have := FP.Core.zval_round_ge FP.Core.good_b64 (s := sg) (c := n) (q := e) (e0 := FP.Core.b64.qmin) fp_f0 n0 (Int.le_refl _) e2 (by rw [fp_z0, e3]; omega)
      rw [fp_z0] at this
      exact this
    · have := FP.Core.zval_round_le FP.Core.good_b64 (s := sg) (c := n) (q := e) (e0 := FP.Core.b64.qmin) fp_f1 n1 (Int.le_refl _) e2 (by rw [fp_z1, e3, hP]; omega)
      rw [fp_z1] at this
      exact this
    · have a := FP.Core.zval_round_ge FP.Core.good_b64 (s := sg) (c := n) (q := e) (e0 := FP.Core.b64.qmin) fp_f0 n0 (Int.le_refl _) e2 (by rw [fp_z0, e3]; omega)
      have b := FP.Core.zval_round_le FP.Core.good_b64 (s := sg) (c := n) (q := e) (e0 := FP.Core.b64.qmin) fp_f0 n0 (Int.le_refl _) e2 (by rw [fp_z0, e3]; omega)
      rw [fp_z0] at a b
      omega
theorem fp_div {a b : Nat} (hab : a ≤ b) (hb : 0 < b) (hb4 : b ≤ 400) : FP.Core.val64 (FP.ddiv (FP.i2d (nI a)) (FP.i2d (nI b))) ≠ .nan ∧ 0 ≤ FP.Core.zval FP.Core.b64 (FP.Core.val64 (FP.ddiv (FP.i2d (nI a)) (FP.i2d (nI b)))) ∧ FP.Core.zval FP.Core.b64 (FP.Core.val64 (FP.ddiv (FP.i2d (nI a)) (FP.i2d (nI b)))) ≤ ((2 ^ 1074 : Nat) : Int) ∧ (a = b → FP.Core.zval FP.Core.b64 (FP.Core.val64 (FP.ddiv (FP.i2d (nI a)) (FP.i2d (nI b)))) = ((2 ^ 1074 : Nat) : Int)) := by
  rcases Nat.eq_zero_or_pos a with e | ha
  · subst e
    rw [fp_zero b (by omega) hb, fp_v0, fp_z0]
    refine ⟨by unfold fp_0; exact FP.Core.Datum.noConfusion, Int.le_refl _, Int.natCast_nonneg _, fun e => ?_⟩
    omega
  · obtain ⟨Q, h1, h2, h3, h4, h5⟩ := fp_q ha hab hb4
    rw [h1]
    have hz : FP.Core.zval FP.Core.b64 Q = (FP.Core.zmag FP.Core.b64 Q : Int) := by
      unfold FP.Core.zval
      rw [h3]; rfl
    rw [hz]
    exact ⟨h2, Int.natCast_nonneg _, Int.ofNat_le.mpr h4, fun e => congrArg Int.ofNat (h5 e)⟩
theorem fp_one {z : UInt64} {a b : Nat} (hab : a ≤ b) (hb : 0 < b) (hb4 : b ≤ 400) (hd : ∃ q : UInt64, alike64 q (FP.ddiv (FP.i2d (nI a)) (FP.i2d (nI b))) = true ∧ alike64 z (FP.dsub FP.dconst1 q) = true) : FP.Core.val64 z ≠ .nan ∧ 0 ≤ FP.Core.zval FP.Core.b64 (FP.Core.val64 z) ∧ FP.Core.zval FP.Core.b64 (FP.Core.val64 z) ≤ ((2 ^ 1074 : Nat) : Int) ∧ (a = b → FP.Core.zval FP.Core.b64 (FP.Core.val64 z) = 0) := by
  obtain ⟨q, h1, h2⟩ := hd
  obtain ⟨a1, a2, a3, a4⟩ := fp_div hab hb hb4
  have := fp_al a1 h1
  subst this
  obtain ⟨b1, b2, b3, b4⟩ := fp_s a1 a2 a3
  have := fp_al b1 h2
  subst this
  exact ⟨b1, b2, b3, fun e => b4 (a4 e)⟩
theorem fp_c0 {z : UInt64} (h : FP.Core.val64 z ≠ .nan) : FP.dcmp z FP.dconst0 = some (compare (FP.Core.zval FP.Core.b64 (FP.Core.val64 z)) 0) := by
  have := FP.Core.order_zval FP.Core.good_b64 (FP.Core.decode_fits FP.Core.good_b64 z.toNat) fp_f0 h (by unfold fp_0; exact FP.Core.Datum.noConfusion)
  rw [fp_z0, ← fp_v0] at this
  exact this
theorem fp_c1 {z : UInt64} (h : FP.Core.val64 z ≠ .nan) : FP.dcmp z FP.dconst1 = some (compare (FP.Core.zval FP.Core.b64 (FP.Core.val64 z)) ((2 ^ 1074 : Nat) : Int)) := by
  have := FP.Core.order_zval FP.Core.good_b64 (FP.Core.decode_fits FP.Core.good_b64 z.toNat) fp_f1 h (by unfold fp_1; exact FP.Core.Datum.noConfusion)
  rw [fp_z1, ← fp_v1] at this
  exact this
theorem fp_lt {v : Int} (h : 0 ≤ v) : ¬ Op.cmpValue (some (compare v 0)) .g < 0 := by
  rcases Int.lt_or_eq_of_le h with e | e
  · have : compare v 0 = .gt := by
      simp only [compare, compareOfLessAndEq]
      rw [if_neg (by omega), if_neg (by omega)]
    rw [this]
    show ¬ (1 : Int32) < 0
    decide
  · subst e
    show ¬ (0 : Int32) < 0
    decide
theorem fp_gt {v w : Int} (h : v ≤ w) : ¬ 0 < Op.cmpValue (some (compare v w)) .l := by
  rcases Int.lt_or_eq_of_le h with e | e
  · have : compare v w = .lt := by
      simp only [compare, compareOfLessAndEq]
      rw [if_pos e]
    rw [this]
    show ¬ (0 : Int32) < -1
    decide
  · subst e
    have : compare v v = .eq := by
      unfold compare instOrdInt compareOfLessAndEq
      show (if v < v then _ else if v = v then _ else _) = _
      rw [if_neg (by omega), if_pos rfl]
    rw [this]
    show ¬ (0 : Int32) < 0
    decide
theorem fp_nat {x : Int32} (h : 0 ≤ x) : x = nI x.toInt.toNat ∧ ((x.toInt.toNat : Nat) : Int) = x.toInt := by
  have h0 := Int32.le_iff_toInt_le.mp h
  have h1 : (0 : Int32).toInt = 0 := by decide
  rw [h1] at h0
  have h2 : ((x.toInt.toNat : Nat) : Int) = x.toInt := Int.toNat_of_nonneg h0
  refine ⟨Int32.toInt_inj.mp ?_, h2⟩
  have := x.toInt_lt
  rw [nI_toInt (by omega), h2]
theorem fp_k {r : Int32 × Int32 × Int32} {z : UInt64} (h : spk r) (hd : DR r.1 r.2.1 r.2.2 z) : FP.Core.val64 z ≠ .nan ∧ 0 ≤ FP.Core.zval FP.Core.b64 (FP.Core.val64 z) ∧ FP.Core.zval FP.Core.b64 (FP.Core.val64 z) ≤ ((2 ^ 1074 : Nat) : Int) ∧ (spz r → FP.Core.zval FP.Core.b64 (FP.Core.val64 z) = 0) := by
  rcases h with e | ⟨e, h1, h2, h3, h4⟩
  · rcases hd with ⟨e', -⟩ | ⟨-, rfl⟩ | ⟨e', -⟩
    · rw [e] at e'; exact absurd e' (by decide)
    · rw [fp_v0, fp_z0]
      exact ⟨by unfold fp_0; exact FP.Core.Datum.noConfusion, Int.le_refl _, Int.natCast_nonneg _, fun _ => rfl⟩
    · rw [e] at e'; exact absurd e' (by decide)
  · rcases hd with ⟨e', -⟩ | ⟨e', -⟩ | ⟨-, hq⟩
    · rw [e] at e'; exact absurd e' (by decide)
    · rw [e] at e'; exact absurd e' (by decide)
    · obtain ⟨a1, a2⟩ := fp_nat h1
      obtain ⟨b1, b2⟩ := fp_nat (x := r.2.2) (Int32.le_trans h1 h2)
      have i2 := Int32.le_iff_toInt_le.mp h2
      have i3 := Int32.le_iff_toInt_le.mp h3
      have i4 := Int32.le_iff_toInt_le.mp h4
      rw [show (1 : Int32).toInt = 1 by decide] at i3
      rw [show (400 : Int32).toInt = 400 by decide] at i4
      rw [a1, b1] at hq
      obtain ⟨c1, c2, c3, c4⟩ := fp_one (a := r.2.1.toInt.toNat) (b := r.2.2.toInt.toNat) (by omega) (by omega) (by omega) hq
      refine ⟨c1, c2, c3, fun hz => c4 ?_⟩
      rcases hz with w | ⟨-, w, -, -⟩
      · rw [e] at w; exact absurd w (by decide)
      · rw [w]
theorem spz.k {r : Int32 × Int32 × Int32} (h : spz r) : spk r := by
  rcases h with e | ⟨e, h1, h2, h3⟩
  · exact Or.inl e
  · refine Or.inr ⟨e, ?_, ?_, h2, h3⟩
    · rw [h1]; exact Int32.le_trans (by decide) h2
    · rw [h1]; exact Int32.le_refl _
theorem sp_all_lt {r : Int32 × Int32 × Int32} {z : UInt64} (h : spk r) (hd : DR r.1 r.2.1 r.2.2 z) : ¬ Op.cmpValue (FP.dcmp z FP.dconst0) .g < 0 := by
  obtain ⟨c1, c2, c3, c4⟩ := fp_k h hd
  rw [fp_c0 c1]
  exact fp_lt c2
theorem sp_all_gt {r : Int32 × Int32 × Int32} {z : UInt64} (h : spk r) (hd : DR r.1 r.2.1 r.2.2 z) : ¬ 0 < Op.cmpValue (FP.dcmp z FP.dconst1) .l := by
  obtain ⟨c1, c2, c3, c4⟩ := fp_k h hd
  rw [fp_c1 c1]
  exact fp_gt c3
theorem sp_all_eq {r : Int32 × Int32 × Int32} {z : UInt64} (h : spz r) (hd : DR r.1 r.2.1 r.2.2 z) : Op.cmpValue (FP.dcmp z FP.dconst0) .l = 0 := by
  obtain ⟨c1, c2, c3, c4⟩ := fp_k h.k hd
  rw [fp_c0 c1, c4 h]
  rfl
