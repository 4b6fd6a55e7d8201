/-! the rows of a place in their order -/
/-- the first row with q -/
def FiR (q : Nat → Prop) (n : Nat) (r : Int32) : Prop := (∃ i, i < n ∧ q i ∧ (∀ j, j < i → ¬ q j) ∧ r = nI i) ∨ ((∀ i, i < n → ¬ q i) ∧ r = -1005)
theorem fi_u {q : Nat → Prop} {n : Nat} {r r' : Int32} (h : FiR q n r) (h' : FiR q n r') : r = r' := by
  rcases h with ⟨i, hi, hq, hf, rfl⟩ | ⟨hno, rfl⟩
  · rcases h' with ⟨j, hj, hq', hf', rfl⟩ | ⟨hno, -⟩
    · rcases Nat.lt_trichotomy i j with a | a | a
      · exact absurd hq (hf' i a)
      · rw [a]
      · exact absurd hq' (hf j a)
    · exact absurd hq (hno i hi)
  · rcases h' with ⟨j, hj, hq', -, -⟩ | ⟨-, rfl⟩
    · exact absurd hq' (hno j hj)
    · rfl
def AhB (N : Nat → Int32) (p : Int32) (i j : Nat) : Bool := decide (N (805 + j) = p) && (decide (N (5 + j) < N (5 + i)) || (decide (N (5 + j) = N (5 + i)) && decide (j < i)))
theorem ah_t {N : Nat → Int32} {p : Int32} {i j : Nat} (h : N (805 + j) = p ∧ (N (5 + j) < N (5 + i) ∨ (N (5 + j) = N (5 + i) ∧ j < i))) : AhB N p i j = true := by
  simp only [AhB, Bool.and_eq_true, Bool.or_eq_true, decide_eq_true_eq]
  exact h
theorem ah_f {N : Nat → Int32} {p : Int32} {i j : Nat} (h : ¬ (N (805 + j) = p ∧ (N (5 + j) < N (5 + i) ∨ (N (5 + j) = N (5 + i) ∧ j < i)))) : AhB N p i j = false := by
  rw [Bool.eq_false_iff]
  simp only [AhB, ne_eq, Bool.and_eq_true, Bool.or_eq_true, decide_eq_true_eq]
  exact h
def LiQ (N : Nat → Int32) (p : Int32) (n : Nat) (x : Int32) (i : Nat) : Prop := N (805 + i) = p ∧ nI (cn (AhB N p i) n) = x
section
variable {g : MG} {t : Nat} {N : Nat → Int32} {n c m : Nat} {u : Nat → Nat}
theorem c_ahead (h : TB g t N n c m u) {i : Nat} (hi : i < n) (p : Int32) : m_X3_amountAhead g t (nI i) p = some (nI (cn (AhB N p i) n)) := by
  have hn := h.n4
  have ne : ¬ (1 : Int32) = 0 := by decide
  unfold m_X3_amountAhead
  rw [bnd_e (c_key h hi)]
  refine lpo_eq (fun j x => x = (nI (cn (AhB N p i) j), nI j)) n (by omega) rfl ?_ ?_
  · rintro j x hj rfl
    have hcond : ¬ nI n ≤ nI j := by rw [nI_leI (by omega) (by omega)]; omega
    right
    by_cases h1 : N (5 + j) < N (5 + i)
    · by_cases h2 : N (805 + j) = p
      · refine ⟨_, rfl, fun k => ?_⟩
        simp only [b_X3_amountAhead_L12, m_X3_amountAhead_L12]
        rw [h.came, if_neg hcond, bnd_e (c_key h hj), if_pos h1, if_neg ne, bnd_e (c_place h hj), if_pos h2, cn_s (ah_t ⟨h2, Or.inl h1⟩), nI_1, nI_1]
      · refine ⟨_, rfl, fun k => ?_⟩
        simp only [b_X3_amountAhead_L12, m_X3_amountAhead_L12]
        rw [h.came, if_neg hcond, bnd_e (c_key h hj), if_pos h1, if_neg ne, bnd_e (c_place h hj), if_neg h2, cn_n (ah_f (fun q => h2 q.1)), nI_1]
    · by_cases h3 : N (5 + j) = N (5 + i)
      · by_cases h4 : j < i
        · have h4' : ¬ nI i ≤ nI j := by rw [nI_leI (by omega) (by omega)]; omega
          by_cases h2 : N (805 + j) = p
          · refine ⟨_, rfl, fun k => ?_⟩
            simp only [b_X3_amountAhead_L12, m_X3_amountAhead_L12]
            rw [h.came, if_neg hcond, bnd_e (c_key h hj), if_neg h1, bnd_e (c_key h hj), if_pos h3, if_neg h4', if_neg ne, bnd_e (c_place h hj), if_pos h2, cn_s (ah_t ⟨h2, Or.inr ⟨h3, h4⟩⟩), nI_1, nI_1]
          · refine ⟨_, rfl, fun k => ?_⟩
            simp only [b_X3_amountAhead_L12, m_X3_amountAhead_L12]
            rw [h.came, if_neg hcond, bnd_e (c_key h hj), if_neg h1, bnd_e (c_key h hj), if_pos h3, if_neg h4', if_neg ne, bnd_e (c_place h hj), if_neg h2, cn_n (ah_f (fun q => h2 q.1)), nI_1]
        · have h4' : nI i ≤ nI j := nI_le (by omega) (by omega)
          refine ⟨_, rfl, fun k => ?_⟩
          simp only [b_X3_amountAhead_L12, m_X3_amountAhead_L12]
          rw [h.came, if_neg hcond, bnd_e (c_key h hj), if_neg h1, bnd_e (c_key h hj), if_pos h3, if_pos h4', if_pos trivial, cn_n (ah_f (fun q => q.2.elim h1 (fun z => h4 z.2))), nI_1]
      · refine ⟨_, rfl, fun k => ?_⟩
        simp only [b_X3_amountAhead_L12, m_X3_amountAhead_L12]
        rw [h.came, if_neg hcond, bnd_e (c_key h hj), if_neg h1, bnd_e (c_key h hj), if_neg h3, if_pos trivial, cn_n (ah_f (fun q => q.2.elim h1 (fun z => h3 z.1))), nI_1]
  · rintro x rfl k
    simp only [b_X3_amountAhead_L12, m_X3_amountAhead_L12]
    rw [h.came, if_pos (nI_le (Nat.le_refl n) (by omega))]
theorem c_ranked (h : TB g t N n c m u) (p x : Int32) : ∃ r, m_X3_ranked g t p x = some r ∧ FiR (LiQ N p n x) n r := by
  have hn := h.n4
  unfold m_X3_ranked
  refine lpo_P (fun i y => y = nI i ∧ ∀ j, j < i → ¬ LiQ N p n x j) n _ 0 (Nat.zero_le n) (by omega) ⟨rfl, fun j hj => absurd hj (Nat.not_lt_zero j)⟩ ?_ ?_
  · rintro i y hi ⟨rfl, hno⟩
    have hcond : ¬ nI n ≤ nI i := by rw [nI_leI (by omega) (by omega)]; omega
    by_cases h1 : N (805 + i) = p
    · by_cases h2 : nI (cn (AhB N p i) n) = x
      · left
        intro k
        refine ⟨nI i, ?_, Or.inl ⟨i, hi, ⟨h1, h2⟩, hno, rfl⟩⟩
        simp only [b_X3_ranked_L2, m_X3_ranked_L2]
        rw [h.came, if_neg hcond, bnd_e (c_place h hi), if_pos h1, bnd_e (c_ahead h hi p), if_pos h2]
      · right
        refine ⟨_, ⟨rfl, lt_up hno (fun q => h2 q.2)⟩, fun k => ?_⟩
        simp only [b_X3_ranked_L2, m_X3_ranked_L2]
        rw [h.came, if_neg hcond, bnd_e (c_place h hi), if_pos h1, bnd_e (c_ahead h hi p), if_neg h2, nI_1]
    · right
      refine ⟨_, ⟨rfl, lt_up hno (fun q => h1 q.1)⟩, fun k => ?_⟩
      simp only [b_X3_ranked_L2, m_X3_ranked_L2]
      rw [h.came, if_neg hcond, bnd_e (c_place h hi), if_neg h1, nI_1]
  · rintro y ⟨rfl, hno⟩ k
    refine ⟨-1005, ?_, Or.inr ⟨hno, rfl⟩⟩
    simp only [b_X3_ranked_L2, m_X3_ranked_L2]
    rw [h.came, if_pos (nI_le (Nat.le_refl n) (by omega))]
end
section
variable {g h : MG} {n c m : Nat} {u : Nat → Nat}
theorem p_isPlace (hT : TB g 0 (h.1 1) n c m u) (x : Int32) : (m_X6_isPlace g x = some 1 ∧ m_X7_isPlace h x = some 1 ∧ (x = 60 ∨ x = 61 ∨ ∃ j, j < m ∧ x = nI (u j))) ∨ (m_X6_isPlace g x = some 0 ∧ m_X7_isPlace h x = some 0) := by
  unfold m_X6_isPlace m_X7_isPlace
  have ne : ¬ (1 : Int32) = 0 := by decide
  by_cases h1 : x = 60
  · left
    rw [if_pos h1, if_pos h1]
    exact ⟨rfl, rfl, Or.inl h1⟩
  · rw [if_neg h1, if_neg h1]
    by_cases h2 : x = 61
    · left
      rw [if_pos h2, if_pos h2]
      exact ⟨rfl, rfl, Or.inr (Or.inl h2)⟩
    · rw [if_neg h2, if_neg h2]
      rcases sl_or hT x with ⟨j, hj, rfl⟩ | ho
      · left
        obtain ⟨h3, h4⟩ := hT.2.1.2.1 j hj
        rw [bnd_e (c_hasS hT hj), bnd_e (r_isSlice hT.1 h3), if_pos h4, if_neg ne]
        exact ⟨rfl, rfl, Or.inr (Or.inr ⟨j, hj, rfl⟩)⟩
      · right
        rw [bnd_e (c_hasS_no hT ho), bnd_e (r_isSlice_no hT.1 ho), if_pos rfl]
        exact ⟨rfl, rfl⟩
/-- the reference's inner round: how many are ahead -/
theorem r_ahead (hk : OkN (h.1 1) n c) {i : Nat} (hi : i < n) (p x : Int32) (k22 : Int32 → Option Int32) : lpo (b_X7_lies_L52 k22 h p x (nI i)) fuelN (0, 0) = if nI (cn (AhB (h.1 1) p i) n) = x then some (nI i) else k22 (nI i + (1 : Int32)) := by
  have hn := hk.1.2.1
  have ne : ¬ (1 : Int32) = 0 := by decide
  generalize hr : (if nI (cn (AhB (h.1 1) p i) n) = x then some (nI i) else k22 (nI i + (1 : Int32))) = R
  have key : ∀ (d j f : Nat), j + d = n → d < f → lpo (b_X7_lies_L52 k22 h p x (nI i)) f (nI (cn (AhB (h.1 1) p i) j), nI j) = R := by
    intro d
    induction d with
    | zero =>
      intro j f hj hf
      obtain ⟨f', rfl⟩ : ∃ f', f = f' + 1 := ⟨f - 1, by omega⟩
      have hjn : j = n := by omega
      subst hjn
      show m_X7_lies_L52 _ k22 h p x (nI i) _ _ = R
      unfold m_X7_lies_L52
      rw [if_pos vk0, ak0, hk.1.1, if_pos (nI_le (Nat.le_refl j) (by omega))]
      exact hr
    | succ d ih =>
      intro j f hj hf
      obtain ⟨f', rfl⟩ : ∃ f', f = f' + 1 := ⟨f - 1, by omega⟩
      have hjn : j < n := by omega
      have hcond : ¬ h.1 1 0 ≤ nI j := by rw [hk.1.1, nI_leI (by omega) (by omega)]; omega
      have hgo := ih (j + 1) f' (by omega) (by omega)
      show m_X7_lies_L52 (lpo (b_X7_lies_L52 k22 h p x (nI i)) f') k22 h p x (nI i) (nI (cn (AhB (h.1 1) p i) j)) (nI j) = R
      unfold m_X7_lies_L52
      have yes : AhB (h.1 1) p i j = true → m_X7_lies_J129 (lpo (b_X7_lies_L52 k22 h p x (nI i)) f') k22 p x h (nI i) (nI (cn (AhB (h.1 1) p i) j)) (nI j) 1 = R := fun hb => by
        unfold m_X7_lies_J129
        rw [if_neg ne, nI_1, nI_1, ← cn_s hb]
        exact hgo
      have no : AhB (h.1 1) p i j = false → m_X7_lies_J129 (lpo (b_X7_lies_L52 k22 h p x (nI i)) f') k22 p x h (nI i) (nI (cn (AhB (h.1 1) p i) j)) (nI j) 0 = R := fun hb => by
        unfold m_X7_lies_J129
        rw [if_pos rfl, nI_z, nI_1, ← cn_n hb]
        exact hgo
      rw [if_pos vk0, ak0, if_neg hcond, if_pos (v805 (by omega)), a805 (by omega)]
      by_cases h2 : h.1 1 (805 + j) = p
      · have ej : ((5 : Int32) + nI j).toNatClampNeg = 5 + j := a5 (by omega)
        have ei : ((5 : Int32) + nI i).toNatClampNeg = 5 + i := a5 (by omega)
        rw [if_pos h2, if_pos (v5 (by omega)), if_pos (v5 (by omega))]
        by_cases h1 : h.1 1 (5 + j) < h.1 1 (5 + i)
        · rw [if_pos (by rw [ej, ei]; exact h1)]
          exact yes (ah_t ⟨h2, Or.inl h1⟩)
        · rw [if_neg (by rw [ej, ei]; exact h1), if_pos (v5 (by omega)), if_pos (v5 (by omega))]
          by_cases h3 : h.1 1 (5 + j) = h.1 1 (5 + i)
          · rw [if_pos (by rw [ej, ei]; exact h3)]
            by_cases h4 : j < i
            · rw [if_neg (by rw [nI_leI (by omega) (by omega)]; omega)]
              exact yes (ah_t ⟨h2, Or.inr ⟨h3, h4⟩⟩)
            · rw [if_pos (nI_le (by omega) (by omega))]
              exact no (ah_f (fun q => q.2.elim h1 (fun z => h4 z.2)))
          · rw [if_neg (by rw [ej, ei]; exact h3)]
            exact no (ah_f (fun q => q.2.elim h1 (fun z => h3 z.1)))
      · rw [if_neg h2]
        exact no (ah_f (fun q => h2 q.1))
  exact key n 0 fuelN (by omega) (by unfold fuelN; omega)
theorem r_lies (hk : OkN (h.1 1) n c) (p x : Int32) : ∃ r, lpo (b_X7_lies_L22 h p x) fuelN 0 = some r ∧ FiR (LiQ (h.1 1) p n x) n r := by
  have hn := hk.1.2.1
  refine lpo_P (fun i y => y = nI i ∧ ∀ j, j < i → ¬ LiQ (h.1 1) p n x j) n _ 0 (Nat.zero_le n) (by omega) ⟨rfl, fun j hj => absurd hj (Nat.not_lt_zero j)⟩ ?_ ?_
  · rintro i y hi ⟨rfl, hno⟩
    have hcond : ¬ h.1 1 0 ≤ nI i := by rw [hk.1.1, nI_leI (by omega) (by omega)]; omega
    by_cases h1 : h.1 1 (805 + i) = p
    · by_cases h2 : nI (cn (AhB (h.1 1) p i) n) = x
      · left
        intro k
        refine ⟨nI i, ?_, Or.inl ⟨i, hi, ⟨h1, h2⟩, hno, rfl⟩⟩
        simp only [b_X7_lies_L22, m_X7_lies_L22]
        rw [if_pos vk0, ak0, if_neg hcond, if_pos (v805 (by omega)), a805 (by omega), if_pos h1, r_ahead hk hi, if_pos h2]
      · right
        refine ⟨_, ⟨rfl, lt_up hno (fun q => h2 q.2)⟩, fun k => ?_⟩
        simp only [b_X7_lies_L22, m_X7_lies_L22]
        rw [if_pos vk0, ak0, if_neg hcond, if_pos (v805 (by omega)), a805 (by omega), if_pos h1, r_ahead hk hi, if_neg h2, nI_1]
    · right
      refine ⟨_, ⟨rfl, lt_up hno (fun q => h1 q.1)⟩, fun k => ?_⟩
      simp only [b_X7_lies_L22, m_X7_lies_L22]
      rw [if_pos vk0, ak0, if_neg hcond, if_pos (v805 (by omega)), a805 (by omega), if_neg h1, nI_1]
  · rintro y ⟨rfl, hno⟩ k
    refine ⟨-1005, ?_, Or.inr ⟨hno, rfl⟩⟩
    simp only [b_X7_lies_L22, m_X7_lies_L22]
    rw [if_pos vk0, ak0, hk.1.1, if_pos (nI_le (Nat.le_refl n) (by omega))]
theorem p_lies (hT : TB g 0 (h.1 1) n c m u) (x y : Int32) : ∃ r, m_X6_lies g x y = some r ∧ m_X7_lies h x y = some r := by
  unfold m_X6_lies m_X7_lies
  have ne : ¬ (1 : Int32) = 0 := by decide
  rcases p_isPlace hT x with ⟨h1, h2, -⟩ | ⟨h1, h2⟩
  · rw [bnd_e h1, bnd_e h2, if_neg ne, if_neg ne]
    by_cases h0 : (0 : Int32) ≤ y
    · obtain ⟨r, e1, e2⟩ := c_ranked hT x y
      obtain ⟨r', e3, e4⟩ := r_lies hT.1 x y
      rw [if_pos h0, if_pos h0, bnd_e e1, e3, fi_u e2 e4]
      exact ⟨_, rfl, rfl⟩
    · rw [if_neg h0, if_neg h0]
      exact ⟨_, rfl, rfl⟩
  · rw [bnd_e h1, bnd_e h2, if_pos rfl, if_pos rfl]
    exact ⟨_, rfl, rfl⟩
end
