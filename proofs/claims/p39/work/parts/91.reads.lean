/-! what the class answers about a table, in words of N alone -/
def hN (N : Nat → Int32) : MG := (fun _ => N, fun _ => 0)
theorem two_cg {P Q R : Option Int32} {r r' : Int32} (a : P = some r) (b : R = some r) (a' : Q = some r') (b' : R = some r') : P = Q := a.trans (b.symm.trans (b'.trans a'.symm))
section
variable {g g' : MG} {N : Nat → Int32} {n c m n' c' m' : Nat} {u u' : Nat → Nat}
theorem row_ex (hT : TB g 0 N n c m u) (x y : Int32) : ∃ r, m_X6_row g x y = some r := by
  obtain ⟨r, a, -⟩ := p_row (h := hN N) hT x y
  exact ⟨r, a⟩
theorem row_cg (hT : TB g 0 N n c m u) (hT' : TB g' 0 N n' c' m' u') (x y : Int32) : m_X6_row g x y = m_X6_row g' x y := by
  obtain ⟨r, a, b⟩ := p_row (h := hN N) hT x y
  obtain ⟨r', a', b'⟩ := p_row (h := hN N) hT' x y
  exact two_cg a b a' b'
theorem slice_ex (hT : TB g 0 N n c m u) (x y : Int32) : ∃ r, m_X6_slice g x y = some r := by
  obtain ⟨r, a, -⟩ := p_slice (h := hN N) hT x y
  exact ⟨r, a⟩
theorem slice_cg (hT : TB g 0 N n c m u) (hT' : TB g' 0 N n' c' m' u') (x y : Int32) : m_X6_slice g x y = m_X6_slice g' x y := by
  obtain ⟨r, a, b⟩ := p_slice (h := hN N) hT x y
  obtain ⟨r', a', b'⟩ := p_slice (h := hN N) hT' x y
  exact two_cg a b a' b'
theorem lies_ex (hT : TB g 0 N n c m u) (x y : Int32) : ∃ r, m_X6_lies g x y = some r := by
  obtain ⟨r, a, -⟩ := p_lies (h := hN N) hT x y
  exact ⟨r, a⟩
theorem lies_cg (hT : TB g 0 N n c m u) (hT' : TB g' 0 N n' c' m' u') (x y : Int32) : m_X6_lies g x y = m_X6_lies g' x y := by
  obtain ⟨r, a, b⟩ := p_lies (h := hN N) hT x y
  obtain ⟨r', a', b'⟩ := p_lies (h := hN N) hT' x y
  exact two_cg a b a' b'
theorem z_c0 (hT : TB g 0 N n c m u) : m_X6_count g 0 = some (nI m) := by
  unfold m_X6_count
  rw [if_pos rfl, hT.am]
theorem z_c1 (hT : TB g 0 N n c m u) : m_X6_count g 1 = some (nI c) := by
  unfold m_X6_count
  rw [if_neg (by decide), if_pos rfl, hT.2.2.1.2.2.1, hT.1.1.2.2.1]
theorem z_c2 (hT : TB g 0 N n c m u) : m_X6_count g 2 = some (nI (cn (itB N) n)) := by
  unfold m_X6_count
  rw [if_neg (by decide), if_neg (by decide), if_pos rfl, bnd_e (c_amountInTable hT)]
theorem z_c3 (hT : TB g 0 N n c m u) : m_X6_count g 3 = some (nI (cn (RP N 61) n)) := by
  unfold m_X6_count
  rw [if_neg (by decide), if_neg (by decide), if_neg (by decide), if_pos rfl, bnd_e (c_amount hT 61)]
theorem z_c4 (hT : TB g 0 N n c m u) : m_X6_count g 4 = some (nI n) := by
  unfold m_X6_count
  rw [if_neg (by decide), if_neg (by decide), if_neg (by decide), if_neg (by decide), if_pos rfl, hT.2.2.1.1, hT.1.1.1]
theorem z_c5 (hT : TB g 0 N n c m u) : m_X6_count g 5 = some (nI (cn (stB N c) n)) := by
  unfold m_X6_count
  rw [if_neg (by decide), if_neg (by decide), if_neg (by decide), if_neg (by decide), if_neg (by decide), if_pos rfl, bnd_e (c_strays hT)]
theorem z_c6 (hT : TB g 0 N n c m u) : m_X6_count g 6 = some (N 2) := by
  unfold m_X6_count
  have hR : (if N 2 = 0 then some (0 : Int32) else some 1) = some (N 2) := by
    rcases hT.1.2.1.1 with e | e
    · rw [e, if_pos rfl]
    · rw [e, if_neg (by decide)]
  rw [if_neg (by decide), if_neg (by decide), if_neg (by decide), if_neg (by decide), if_neg (by decide), if_neg (by decide), if_pos rfl, hT.2.2.1.2.2.2.1, hR]
theorem z_c7 (hT : TB g 0 N n c m u) : m_X6_count g 7 = some (nI (cn (gB N u m) (m + 1))) := by
  unfold m_X6_count
  rw [if_neg (by decide), if_neg (by decide), if_neg (by decide), if_neg (by decide), if_neg (by decide), if_neg (by decide), if_neg (by decide), if_pos rfl, bnd_e (c_gaps hT)]
theorem z_c8 (hT : TB g 0 N n c m u) : m_X6_count g 8 = some (1000 - smU (fun q => N (1325 + q) - N (1265 + q)) u m) := by
  unfold m_X6_count
  rw [if_neg (by decide), if_neg (by decide), if_neg (by decide), if_neg (by decide), if_neg (by decide), if_neg (by decide), if_neg (by decide), if_neg (by decide), if_pos rfl, bnd_e (c_freeKeys hT)]
theorem z_c9 (hT : TB g 0 N n c m u) : m_X6_count g 9 = some (N 3) := by
  unfold m_X6_count
  rw [if_neg (by decide), if_neg (by decide), if_neg (by decide), if_neg (by decide), if_neg (by decide), if_neg (by decide), if_neg (by decide), if_neg (by decide), if_neg (by decide), if_pos rfl, hT.2.2.1.2.2.2.2.1]
theorem z_c10 (hT : TB g 0 N n c m u) : m_X6_count g 10 = some (N 4) := by
  unfold m_X6_count
  rw [if_neg (by decide), if_neg (by decide), if_neg (by decide), if_neg (by decide), if_neg (by decide), if_neg (by decide), if_neg (by decide), if_neg (by decide), if_neg (by decide), if_neg (by decide), if_pos rfl, hT.2.2.1.2.2.2.2.2]
theorem z_c11 : m_X6_count g 11 = some (g.1 1 3) := by
  unfold m_X6_count
  rw [if_neg (by decide), if_neg (by decide), if_neg (by decide), if_neg (by decide), if_neg (by decide), if_neg (by decide), if_neg (by decide), if_neg (by decide), if_neg (by decide), if_neg (by decide), if_neg (by decide), if_pos rfl]
/-- the first eleven counts -/
theorem cnt_cg (hT : TB g 0 N n c m u) (hT' : TB g' 0 N n c m u) {k : Nat} (hk : k < 11) : (∃ r, m_X6_count g (nI k) = some r) ∧ m_X6_count g (nI k) = m_X6_count g' (nI k) := by
  rcases (show k = 0 ∨ k = 1 ∨ k = 2 ∨ k = 3 ∨ k = 4 ∨ k = 5 ∨ k = 6 ∨ k = 7 ∨ k = 8 ∨ k = 9 ∨ k = 10 by omega) with rfl | rfl | rfl | rfl | rfl | rfl | rfl | rfl | rfl | rfl | rfl
  · exact ⟨⟨_, z_c0 hT⟩, (z_c0 hT).trans (z_c0 hT').symm⟩
  · exact ⟨⟨_, z_c1 hT⟩, (z_c1 hT).trans (z_c1 hT').symm⟩
  · exact ⟨⟨_, z_c2 hT⟩, (z_c2 hT).trans (z_c2 hT').symm⟩
  · exact ⟨⟨_, z_c3 hT⟩, (z_c3 hT).trans (z_c3 hT').symm⟩
  · exact ⟨⟨_, z_c4 hT⟩, (z_c4 hT).trans (z_c4 hT').symm⟩
  · exact ⟨⟨_, z_c5 hT⟩, (z_c5 hT).trans (z_c5 hT').symm⟩
  · exact ⟨⟨_, z_c6 hT⟩, (z_c6 hT).trans (z_c6 hT').symm⟩
  · exact ⟨⟨_, z_c7 hT⟩, (z_c7 hT).trans (z_c7 hT').symm⟩
  · exact ⟨⟨_, z_c8 hT⟩, (z_c8 hT).trans (z_c8 hT').symm⟩
  · exact ⟨⟨_, z_c9 hT⟩, (z_c9 hT).trans (z_c9 hT').symm⟩
  · exact ⟨⟨_, z_c10 hT⟩, (z_c10 hT).trans (z_c10 hT').symm⟩
theorem z_row (hT : TB g 0 N n c m u) {i : Nat} (hi : i < n) (hp : ¬ N (805 + i) = -1) : m_X6_row g (nI i) 0 = some (N (5 + i)) ∧ m_X6_row g (nI i) 1 = some (N (405 + i)) ∧ m_X6_row g (nI i) 2 = some (N (805 + i)) ∧ (∃ r, m_X6_row g (nI i) 3 = some r ∧ HomR N c (N (5 + i)) r) ∧ m_X6_row g (nI i) 4 = some (if stB N c i = true then 1 else 0) := by
  have ne : ¬ (1 : Int32) = 0 := by decide
  refine ⟨?_, ?_, ?_, ?_, ?_⟩
  · unfold m_X6_row
    rw [bnd_e (c_has hT hi), if_neg hp, if_neg ne, if_pos rfl, bnd_e (c_key hT hi)]
  · unfold m_X6_row
    rw [bnd_e (c_has hT hi), if_neg hp, if_neg ne, if_neg (by decide), if_pos rfl, bnd_e (c_val hT hi)]
  · unfold m_X6_row
    rw [bnd_e (c_has hT hi), if_neg hp, if_neg ne, if_neg (by decide), if_neg (by decide), if_pos rfl, bnd_e (c_place hT hi)]
  · obtain ⟨r, hr, hR⟩ := c_home hT (N (5 + i))
    refine ⟨r, ?_, hR⟩
    unfold m_X6_row
    rw [bnd_e (c_has hT hi), if_neg hp, if_neg ne, if_neg (by decide), if_neg (by decide), if_neg (by decide), if_pos rfl, bnd_e (c_key hT hi), bnd_e hr]
  · unfold m_X6_row
    rw [bnd_e (c_has hT hi), if_neg hp, if_neg ne, if_neg (by decide), if_neg (by decide), if_neg (by decide), if_neg (by decide), if_pos rfl, bnd_e (c_stray hT hi)]
    cases stB N c i <;> rfl
theorem z_rowN (hT : TB g 0 N n c m u) {x : Int32} (ho : x.toInt < 0 ∨ (n : Int) ≤ x.toInt) (y : Int32) : m_X6_row g x y = some (-1001) := by
  unfold m_X6_row
  rw [bnd_e (c_has_out hT ho), if_pos rfl]
theorem z_bel (hT : TB g 0 N n c m u) {x : Int32} (hx : 0 ≤ x.toInt ∧ x.toInt < 1000) : ∃ r, m_X6_belongs g x = some r ∧ HomR N c x r := by
  obtain ⟨r, hr, hR⟩ := c_home hT x
  refine ⟨r, ?_, hR⟩
  unfold m_X6_belongs
  rw [bnd_e (c_isKey x), if_pos hx, if_neg (by decide), bnd_e hr]
def PlS (m : Nat) (u : Nat → Nat) (x : Int32) : Prop := x = 60 ∨ x = 61 ∨ ∃ j, j < m ∧ x = nI (u j)
theorem u_60 (hT : TB g 0 N n c m u) {j : Nat} (hj : j < m) : ¬ nI (u j) = 60 ∧ ¬ nI (u j) = 61 ∧ ¬ nI (u j) = -1 ∧ u j < 60 := by
  have h1 := (hT.2.1.2.1 j hj).1
  have h2 := hT.c6
  refine ⟨?_, ?_, nI_ne_m (by omega) (by decide), by omega⟩
  · rw [show (60 : Int32) = nI 60 from rfl, nI_eq (by omega) (by omega)]; omega
  · rw [show (61 : Int32) = nI 61 from rfl, nI_eq (by omega) (by omega)]; omega
theorem c_isPl (hT : TB g 0 N n c m u) {x : Int32} (hx : PlS m u x) : m_X6_isPlace g x = some 1 := by
  unfold m_X6_isPlace
  rcases hx with rfl | rfl | ⟨j, hj, rfl⟩
  · rw [if_pos rfl]
  · rw [if_neg (by decide), if_pos rfl]
  · obtain ⟨h1, h2, -⟩ := u_60 hT hj
    rw [if_neg h1, if_neg h2, bnd_e (c_hasS hT hj), if_neg (by decide)]
theorem pos_ex (hT : TB g 0 N n c m u) (x : Int32) : ∃ r, m_X4_positionOf g 0 x = some r := by
  rcases sl_or hT x with ⟨j, hj, rfl⟩ | ho
  · exact ⟨_, c_pos hT hj⟩
  · exact ⟨_, c_pos_no hT ho⟩
theorem z_slice (hT : TB g 0 N n c m u) {x : Int32} (hx : PlS m u x) : m_X6_slice g x 2 = some (nI (cn (RP N x) n)) ∧ (∃ l, m_X6_slice g x 3 = some l ∧ LeR N x n l) ∧ (∃ l, m_X6_slice g x 4 = some l ∧ GrR N x n l) ∧ m_X6_slice g x 5 = some (smI (RP N x) (fun i => N (405 + i)) n) ∧ m_X6_slice g x 6 = some (nI (cn (spB N c x) n)) := by
  have ne : ¬ (1 : Int32) = 0 := by decide
  obtain ⟨r20, hp1⟩ := pos_ex hT x
  obtain ⟨l1, e1, e2⟩ := c_least hT x
  obtain ⟨g1, e3, e4⟩ := c_greatest hT x
  refine ⟨?_, ⟨l1, ?_, e2⟩, ⟨g1, ?_, e4⟩, ?_, ?_⟩
  · unfold m_X6_slice
    rw [bnd_e (c_isPl hT hx), if_neg ne, bnd_e hp1, if_neg (by decide), if_neg (by decide), if_pos rfl, bnd_e (c_amount hT x)]
  · unfold m_X6_slice
    rw [bnd_e (c_isPl hT hx), if_neg ne, bnd_e hp1, if_neg (by decide), if_neg (by decide), if_neg (by decide), if_pos rfl, bnd_e e1]
  · unfold m_X6_slice
    rw [bnd_e (c_isPl hT hx), if_neg ne, bnd_e hp1, if_neg (by decide), if_neg (by decide), if_neg (by decide), if_neg (by decide), if_pos rfl, bnd_e (c_amount hT x), bnd_e e3]
  · unfold m_X6_slice
    rw [bnd_e (c_isPl hT hx), if_neg ne, bnd_e hp1, if_neg (by decide), if_neg (by decide), if_neg (by decide), if_neg (by decide), if_neg (by decide), if_pos rfl, bnd_e (c_sumAt hT x)]
  · unfold m_X6_slice
    rw [bnd_e (c_isPl hT hx), if_neg ne, bnd_e hp1, if_neg (by decide), if_neg (by decide), if_neg (by decide), if_neg (by decide), if_neg (by decide), if_neg (by decide), if_pos rfl, bnd_e (c_straysAt hT x)]
theorem z_bnd (hT : TB g 0 N n c m u) {j : Nat} (hj : j < m) : m_X6_slice g (nI (u j)) 0 = some (N (1265 + u j)) ∧ m_X6_slice g (nI (u j)) 1 = some (N (1325 + u j)) := by
  have ne : ¬ (1 : Int32) = 0 := by decide
  have hm := hT.m12
  have nj : ¬ nI j = -1005 := nI_ne_m (by omega) (by decide)
  have hx : PlS m u (nI (u j)) := Or.inr (Or.inr ⟨j, hj, rfl⟩)
  constructor
  · unfold m_X6_slice
    rw [bnd_e (c_isPl hT hx), if_neg ne, bnd_e (c_pos hT hj), if_pos rfl, if_neg nj, bnd_e (c_low hT hj)]
  · unfold m_X6_slice
    rw [bnd_e (c_isPl hT hx), if_neg ne, bnd_e (c_pos hT hj), if_neg (by decide), if_pos rfl, if_neg nj, bnd_e (c_high hT hj)]
/-- no place -/
theorem z_sliceN (hT : TB g 0 N n c m u) {x : Int32} (h0 : ¬ x = 60) (h1 : ¬ x = 61) (h2 : ∀ q, q < c → N (1205 + q) = 1 → x ≠ nI q) (y : Int32) : m_X6_slice g x y = some (-1001) := by
  unfold m_X6_slice m_X6_isPlace
  rw [if_neg h0, if_neg h1, bnd_e (c_hasS_no hT h2), if_pos rfl]
  rfl
theorem z_lies (hT : TB g 0 N n c m u) {x : Int32} (hx : PlS m u x) {k : Nat} (hk : k < 2 ^ 31) : ∃ r, m_X6_lies g x (nI k) = some r ∧ FiR (LiQ N x n (nI k)) n r := by
  obtain ⟨r, e1, e2⟩ := c_ranked hT x (nI k)
  refine ⟨r, ?_, e2⟩
  unfold m_X6_lies
  rw [bnd_e (c_isPl hT hx), if_neg (by decide), if_pos (Int32.not_lt.mp (nI_pos hk)), bnd_e e1]
theorem z_ord (hT : TB g 0 N n c m u) {j : Nat} (hj : j < m) : m_X6_ordered g (nI j) = some (nI (u j)) := by
  have hm := hT.m12
  unfold m_X6_ordered
  rw [if_pos (Int32.not_lt.mp (nI_pos (by omega))), hT.am, if_neg (by rw [nI_leI (by omega) (by omega)]; omega), bnd_e (c_number hT hj)]
theorem z_ordE (hT : TB g 0 N n c m u) : m_X6_ordered g (nI m) = some (-1005) := by
  have hm := hT.m12
  unfold m_X6_ordered
  rw [if_pos (Int32.not_lt.mp (nI_pos (by omega))), hT.am, if_pos (nI_le (Nat.le_refl m) (by omega))]
theorem z_gap (hT : TB g 0 N n c m u) {a : Nat} (ha : a ≤ m) (hg : gB N u m a = true) : m_X6_gap g (nI (cn (gB N u m) a)) 0 = some (nI (glN N u a)) ∧ m_X6_gap g (nI (cn (gB N u m) a)) 1 = some (nI (ghN N u m a - 1)) := by
  have hm := hT.m12
  have hX := cn_le (gB N u m) a
  have h0 : ¬ nI (cn (gB N u m) a) < 0 := nI_pos (by omega)
  obtain ⟨r, h5, h6⟩ := c_gapRanked hT (nI (cn (gB N u m) a))
  have hr : r = nI a := by
    rcases h6 with ⟨a', ha', hg', hx, rfl⟩ | ⟨hno, -⟩
    · have hX' := cn_le (gB N u m) a'
      rw [nI_eq (by omega) (by omega)] at hx
      rw [cn_same hg hg' hx]
    · exact absurd rfl (hno a (by omega) hg)
  subst hr
  constructor
  · unfold m_X6_gap
    rw [if_neg h0, if_neg (by decide), if_pos (by decide), bnd_e h5, if_neg (nI_ne_m (by omega) (by decide)), if_pos rfl, bnd_e (c_gapLow hT ha), gl_eq hT.1 hT.2.1 ha]
  · have hgt : glN N u a < ghN N u m a := by simpa only [gB, decide_eq_true_eq] using hg
    have hp : nI (ghN N u m a) - (1 : Int32) = nI (ghN N u m a - 1) := by
      obtain ⟨b, hb⟩ : ∃ b, ghN N u m a = b + 1 := ⟨ghN N u m a - 1, by omega⟩
      rw [hb, nI_pred, Nat.add_sub_cancel]
    unfold m_X6_gap
    rw [if_neg h0, if_neg (by decide), if_pos (by decide), bnd_e h5, if_neg (nI_ne_m (by omega) (by decide)), if_neg (by decide), bnd_e (c_gapHigh hT ha), gh_eq hT.1 hT.2.1 ha, hp]
theorem z_gapE (hT : TB g 0 N n c m u) : m_X6_gap g (nI (cn (gB N u m) (m + 1))) 0 = some (-1005) := by
  have hm := hT.m12
  have hX := cn_le (gB N u m) (m + 1)
  have h0 : ¬ nI (cn (gB N u m) (m + 1)) < 0 := nI_pos (by omega)
  obtain ⟨r, h5, h6⟩ := c_gapRanked hT (nI (cn (gB N u m) (m + 1)))
  have hr : r = -1005 := by
    rcases h6 with ⟨a, ha, hg, hx, rfl⟩ | ⟨-, rfl⟩
    · have h1 := cn_lt (p := gB N u m) ha hg
      rw [nI_eq (by omega) (by omega)] at hx
      omega
    · rfl
  subst hr
  unfold m_X6_gap
  rw [if_neg h0, if_neg (by decide), if_pos (by decide), bnd_e h5, if_pos rfl]
theorem c_strayR (hT : TB g 0 N n c m u) {x : Int32} (h0 : (0 : Int32) ≤ x) : ∃ r, m_X6_stray g x = some r ∧ RkR (stB N c) n x r := by
  have hn := hT.n4
  unfold m_X6_stray
  rw [if_pos h0]
  refine lpo_P (fun i y => y = (nI (cn (stB N c) i), nI i) ∧ ∀ j, j < i → stB N c j = true → x ≠ nI (cn (stB N c) j)) n _ 0 (Nat.zero_le n) (by omega) ⟨rfl, fun j hj => absurd hj (Nat.not_lt_zero j)⟩ ?_ ?_
  · rintro i y hi ⟨rfl, hno⟩
    have hcond : ¬ nI n ≤ nI i := by rw [nI_leI (by omega) (by omega)]; omega
    cases hb : stB N c i with
    | false =>
      right
      refine ⟨_, ⟨rfl, lt_up hno (fun q => absurd (hb.symm.trans q) Bool.false_ne_true)⟩, fun k => ?_⟩
      simp only [b_X6_stray_L12, m_X6_stray_L12]
      rw [hT.came, if_neg hcond, bnd_e (c_stray hT hi), hb, if_neg Bool.false_ne_true, if_pos rfl, cn_n hb, nI_1]
    | true =>
      by_cases e : nI (cn (stB N c) i) = x
      · left
        intro k
        refine ⟨nI i, ?_, Or.inl ⟨i, hi, hb, e.symm, rfl⟩⟩
        simp only [b_X6_stray_L12, m_X6_stray_L12]
        rw [hT.came, if_neg hcond, bnd_e (c_stray hT hi), hb, if_pos rfl, if_neg (by decide), if_pos e]
      · right
        refine ⟨_, ⟨rfl, lt_up hno (fun _ q => e q.symm)⟩, fun k => ?_⟩
        simp only [b_X6_stray_L12, m_X6_stray_L12]
        rw [hT.came, if_neg hcond, bnd_e (c_stray hT hi), hb, if_pos rfl, if_neg (by decide), if_neg e, cn_s hb, nI_1, nI_1]
  · rintro y ⟨rfl, hno⟩ k
    refine ⟨-1005, ?_, Or.inr ⟨hno, rfl⟩⟩
    simp only [b_X6_stray_L12, m_X6_stray_L12]
    rw [hT.came, if_pos (nI_le (Nat.le_refl n) (by omega))]
theorem z_unfit (hT : TB g 0 N n c m u) {j : Nat} (hj : j < m) : m_X6_unfit g (nI (u j)) = some (nI (cn (RP N 61) n) - nI (cn (RB N 61 (N (1265 + u j)) (N (1325 + u j))) n)) := by
  have hm := hT.m12
  unfold m_X6_unfit
  rw [bnd_e (c_pos hT hj), if_neg (nI_ne_m (by omega) (by decide)), bnd_e (c_low hT hj), bnd_e (c_high hT hj), bnd_e (c_unfitRows hT _ _)]
theorem z_heav (hT : TB g 0 N n c m u) : ∃ r, m_X6_heaviest g = some r ∧ HvR N n c r := c_heaviest (h := hN N) hT
/-! all that is told -/
noncomputable def tlG (g : MG) (k : Nat) : Int32 := if k < 11 then (m_X6_count g (nI k)).getD 0 else if k < 61 then (100 : Int32) * (m_X6_row g (nI (k - 11)) 0).getD 0 + (m_X6_row g (nI (k - 11)) 2).getD 0 else 0
theorem z_tell (hT : TB g 0 N n c m u) : m_L_tell g = some (tlG g) := by
  unfold m_L_tell
  refine lpo_eq (fun i x => x = (nI i, fun j => if j < i then tlG g j else 0)) 11 (by omega) (by rw [Prod.mk.injEq]; exact ⟨rfl, funext (fun j => (if_neg (Nat.not_lt_zero j)).symm)⟩) ?_ ?_
  · rintro i x hi rfl
    right
    obtain ⟨⟨r, hr⟩, -⟩ := cnt_cg hT hT hi
    refine ⟨_, rfl, fun k => ?_⟩
    simp only [b_L_tell_L7, m_L_tell_L7]
    rw [if_neg (by rw [show (11 : Int32) = nI 11 from rfl, nI_leI (by omega) (by omega)]; omega), bnd_e hr, if_pos (vin_nI (by omega) (by omega)), nI_clamp (by omega), nI_1]
    congr 2
    funext j
    unfold upd
    by_cases e : j = i
    · subst e
      rw [if_pos rfl, if_pos (Nat.lt_succ_self j)]
      unfold tlG
      rw [if_pos hi, hr]; rfl
    · rw [if_neg e]
      show (if j < i then tlG g j else 0) = _
      by_cases e2 : j < i
      · rw [if_pos e2, if_pos (by omega)]
      · rw [if_neg e2, if_neg (by omega)]
  · rintro x rfl k
    simp only [b_L_tell_L7, m_L_tell_L7]
    rw [if_pos (show (11 : Int32) ≤ nI 11 by decide)]
    refine lpo_eq (fun i x => x = (nI i, fun j => if j < 11 + i then tlG g j else 0)) 50 (by omega) rfl ?_ ?_
    · rintro i x hi rfl
      right
      obtain ⟨r0, h0⟩ := row_ex hT (nI i) 0
      obtain ⟨r2, h2⟩ := row_ex hT (nI i) 2
      refine ⟨_, rfl, fun k => ?_⟩
      simp only [b_L_tell_L29, m_L_tell_L29]
      rw [if_neg (by rw [show (50 : Int32) = nI 50 from rfl, nI_leI (by omega) (by omega)]; omega), bnd_e h0, bnd_e h2, show (11 : Int32) + nI i = nI (11 + i) from nI_add 11 i, if_pos (vin_nI (by omega) (by omega)), nI_clamp (by omega), nI_1]
      congr 2
      funext j
      unfold upd
      by_cases e : j = 11 + i
      · subst e
        rw [if_pos rfl, if_pos (by omega)]
        unfold tlG
        rw [if_neg (by omega), if_pos (by omega), show 11 + i - 11 = i by omega, h0, h2]; rfl
      · rw [if_neg e]
        show (if j < 11 + i then tlG g j else 0) = _
        by_cases e2 : j < 11 + i
        · rw [if_pos e2, if_pos (by omega)]
        · rw [if_neg e2, if_neg (by omega)]
    · rintro x rfl k
      simp only [b_L_tell_L29, m_L_tell_L29]
      rw [if_pos (show (50 : Int32) ≤ nI 50 by decide)]
      congr 1
      funext j
      by_cases e : j < 11 + 50
      · rw [if_pos e]
      · rw [if_neg e]
        unfold tlG
        rw [if_neg (by omega), if_neg (by omega)]
theorem tell_cg (hT : TB g 0 N n c m u) (hT' : TB g' 0 N n c m u) : tlG g = tlG g' := by
  funext k
  unfold tlG
  by_cases h1 : k < 11
  · rw [if_pos h1, if_pos h1, (cnt_cg hT hT' h1).2]
  · rw [if_neg h1, if_neg h1]
    rw [row_cg hT hT', row_cg hT hT']
theorem z_same {f1 f2 : Nat → Int32} (e : f1 = f2) : m_L_same f1 f2 = some 1 := by
  subst e
  unfold m_L_same
  refine lpo_eq (fun i x => x = nI i) 64 (by omega) rfl ?_ ?_
  · rintro i x hi rfl
    right
    refine ⟨_, rfl, fun k => ?_⟩
    simp only [b_L_same_L2, m_L_same_L2]
    rw [if_neg (by rw [show (64 : Int32) = nI 64 from rfl, nI_leI (by omega) (by omega)]; omega), if_pos (vin_nI (by omega) (by omega)), if_pos trivial, nI_1]
  · rintro x rfl k
    simp only [b_L_same_L2, m_L_same_L2]
    rw [if_pos (show (64 : Int32) ≤ nI 64 by decide)]
end
