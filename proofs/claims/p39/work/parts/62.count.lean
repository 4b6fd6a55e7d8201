/-! count on both sides -/
theorem it_t {N : Nat → Int32} {i : Nat} (h1 : ¬ N (805 + i) = -1) (h2 : ¬ N (805 + i) = 61) : itB N i = true := by simp only [itB, h1, h2, decide_false, Bool.not_false, Bool.and_self]
theorem it_1 {N : Nat → Int32} {i : Nat} (h1 : N (805 + i) = -1) : itB N i = false := by simp only [itB, h1, decide_true, Bool.not_true, Bool.false_and]
theorem it_2 {N : Nat → Int32} {i : Nat} (h1 : N (805 + i) = 61) : itB N i = false := by simp only [itB, h1, decide_true, Bool.not_true, Bool.and_false]
section
variable {g h : MG} {n c m : Nat} {u : Nat → Nat}
theorem c_inT {N : Nat → Int32} (hT : TB g 0 N n c m u) {i : Nat} (hi : i < n) : m_X3_isInTable g 0 (nI i) = some (if itB N i = true then 1 else 0) := by
  rw [c_inTable hT hi]
  by_cases h1 : N (805 + i) = -1
  · rw [if_pos h1, it_1 h1]; rfl
  · by_cases h2 : N (805 + i) = 61
    · rw [if_neg h1, if_pos h2, it_2 h2]; rfl
    · rw [if_neg h1, if_neg h2, it_t h1 h2]; rfl
theorem c_amountInTable {N : Nat → Int32} (hT : TB g 0 N n c m u) : m_X3_amountInTable g 0 = some (nI (cn (itB N) n)) := by
  have hn := hT.n4
  have ne : ¬ (1 : Int32) = 0 := by decide
  unfold m_X3_amountInTable
  refine lpo_eq (fun i x => x = (nI (cn (itB N) i), nI i)) n (by omega) rfl ?_ ?_
  · rintro i x hi rfl
    have hcond : ¬ nI n ≤ nI i := by rw [nI_leI (by omega) (by omega)]; omega
    right
    cases hb : itB N i with
    | true =>
      refine ⟨_, rfl, fun k => ?_⟩
      simp only [b_X3_amountInTable_L4, m_X3_amountInTable_L4]
      rw [hT.came, if_neg hcond, bnd_e (c_inT hT hi), hb, if_pos rfl, if_neg ne, cn_s hb, nI_1, nI_1]
    | false =>
      refine ⟨_, rfl, fun k => ?_⟩
      simp only [b_X3_amountInTable_L4, m_X3_amountInTable_L4]
      rw [hT.came, if_neg hcond, bnd_e (c_inT hT hi), hb, if_neg Bool.false_ne_true, if_pos rfl, cn_n hb, nI_1]
  · rintro x rfl k
    simp only [b_X3_amountInTable_L4, m_X3_amountInTable_L4]
    rw [hT.came, if_pos (nI_le (Nat.le_refl n) (by omega))]
theorem r_inT (hk : OkN (h.1 1) n c) {i : Nat} (hi : i < n) : m_X7_isInTable h (nI i) = some (if itB (h.1 1) i = true then 1 else 0) := by
  have hn := hk.1.2.1
  have ea : ((805 : Int32) + nI i).toNatClampNeg = 805 + i := a805 (by omega)
  unfold m_X7_isInTable
  rw [if_pos (v805 (by omega))]
  by_cases h1 : h.1 1 (805 + i) = -1
  · rw [if_pos (by rw [ea]; exact h1), it_1 h1]; rfl
  · rw [if_neg (by rw [ea]; exact h1), if_pos (v805 (by omega))]
    by_cases h2 : h.1 1 (805 + i) = 61
    · rw [if_pos (by rw [ea]; exact h2), it_2 h2]; rfl
    · rw [if_neg (by rw [ea]; exact h2), it_t h1 h2]; rfl
theorem r_countLoop (hk : OkN (h.1 1) n c) (x r0 : Int32) (hE : ∀ k, m_X7_count_L4 k h x (nI (cn (itB (h.1 1)) n)) (nI n) = some r0) : m_X7_count h x = some r0 := by
  have hn := hk.1.2.1
  have ne : ¬ (1 : Int32) = 0 := by decide
  unfold m_X7_count
  refine lpo_eq (fun i z => z = (nI (cn (itB (h.1 1)) i), nI i)) n (by omega) rfl ?_ ?_
  · rintro i z hi rfl
    have hcond : ¬ h.1 1 (0 : Int32).toNatClampNeg ≤ nI i := by rw [ak0, hk.1.1, nI_leI (by omega) (by omega)]; omega
    right
    cases hb : itB (h.1 1) i with
    | true =>
      refine ⟨_, rfl, fun k => ?_⟩
      simp only [b_X7_count_L4, m_X7_count_L4]
      rw [if_pos vk0, if_neg hcond, bnd_e (r_inT hk hi), hb, if_pos rfl, if_neg ne, cn_s hb, nI_1, nI_1]
    | false =>
      refine ⟨_, rfl, fun k => ?_⟩
      simp only [b_X7_count_L4, m_X7_count_L4]
      rw [if_pos vk0, if_neg hcond, bnd_e (r_inT hk hi), hb, if_neg Bool.false_ne_true, if_pos rfl, cn_n hb, nI_z, nI_1]
  · rintro z rfl k
    exact hE k
theorem p_count (hT : TB g 0 (h.1 1) n c m u) (hkept : g.1 1 3 = h.1 0 15) (hlen : g.1 3 0 = h.1 0 16) (x : Int32) : ∃ r, m_X6_count g x = some r ∧ m_X7_count h x = some r := by
  have hn := hT.n4
  have hk := hT.1
  have hs := hT.2.1
  have hin : h.1 1 (0 : Int32).toNatClampNeg ≤ nI n := by rw [ak0, hk.1.1]; exact nI_le (Nat.le_refl n) (by omega)
  have hct := hT.2.2.1
  unfold m_X6_count
  by_cases x0 : x = 0
  · rw [if_pos x0, hT.am]
    refine ⟨_, rfl, r_countLoop hk _ _ (fun k => ?_)⟩
    unfold m_X7_count_L4
    rw [if_pos vk0, if_pos hin, if_pos x0, bnd_e (r_slices hk), (al_bij hk hs (fun _ => 0)).1]
  by_cases x1 : x = 1
  · rw [if_neg x0, if_pos x1, hct.2.2.1]
    refine ⟨_, rfl, r_countLoop hk _ _ (fun k => ?_)⟩
    unfold m_X7_count_L4
    rw [if_pos vk0, if_pos hin, if_neg x0, if_pos x1, if_pos vk1, ak1]
  by_cases x2 : x = 2
  · rw [if_neg x0, if_neg x1, if_pos x2, bnd_e (c_amountInTable hT)]
    refine ⟨_, rfl, r_countLoop hk _ _ (fun k => ?_)⟩
    unfold m_X7_count_L4
    rw [if_pos vk0, if_pos hin, if_neg x0, if_neg x1, if_pos x2]
  by_cases x3 : x = 3
  · rw [if_neg x0, if_neg x1, if_neg x2, if_pos x3, bnd_e (c_amount hT 61)]
    refine ⟨_, rfl, r_countLoop hk _ _ (fun k => ?_)⟩
    unfold m_X7_count_L4
    rw [if_pos vk0, if_pos hin, if_neg x0, if_neg x1, if_neg x2, if_pos x3, bnd_e (r_rowsIn hk 61)]
  by_cases x4 : x = 4
  · rw [if_neg x0, if_neg x1, if_neg x2, if_neg x3, if_pos x4, hct.1]
    refine ⟨_, rfl, r_countLoop hk _ _ (fun k => ?_)⟩
    unfold m_X7_count_L4
    rw [if_pos vk0, if_pos hin, if_neg x0, if_neg x1, if_neg x2, if_neg x3, if_pos x4, if_pos vk0, ak0]
  by_cases x5 : x = 5
  · rw [if_neg x0, if_neg x1, if_neg x2, if_neg x3, if_neg x4, if_pos x5, bnd_e (c_strays hT)]
    refine ⟨_, rfl, r_countLoop hk _ _ (fun k => ?_)⟩
    unfold m_X7_count_L4
    rw [if_pos vk0, if_pos hin, if_neg x0, if_neg x1, if_neg x2, if_neg x3, if_neg x4, if_pos x5, bnd_e (r_strays hk)]
  by_cases x6 : x = 6
  · rw [if_neg x0, if_neg x1, if_neg x2, if_neg x3, if_neg x4, if_neg x5, if_pos x6, hct.2.2.2.1]
    have hR : (if h.1 1 2 = 0 then some (0 : Int32) else some 1) = some (h.1 1 2) := by
      rcases hk.2.1.1 with e | e
      · rw [e, if_pos rfl]
      · rw [e, if_neg (by decide)]
    rw [hR]
    refine ⟨_, rfl, r_countLoop hk _ _ (fun k => ?_)⟩
    unfold m_X7_count_L4
    rw [if_pos vk0, if_pos hin, if_neg x0, if_neg x1, if_neg x2, if_neg x3, if_neg x4, if_neg x5, if_pos x6, if_pos vk2, ak2]
  by_cases x7 : x = 7
  · rw [if_neg x0, if_neg x1, if_neg x2, if_neg x3, if_neg x4, if_neg x5, if_neg x6, if_pos x7, bnd_e (c_gaps hT)]
    refine ⟨_, rfl, r_countLoop hk _ _ (fun k => ?_)⟩
    unfold m_X7_count_L4
    rw [if_pos vk0, if_pos hin, if_neg x0, if_neg x1, if_neg x2, if_neg x3, if_neg x4, if_neg x5, if_neg x6, if_pos x7, bnd_e (r_gaps hk), gap_all hk hs]
  by_cases x8 : x = 8
  · rw [if_neg x0, if_neg x1, if_neg x2, if_neg x3, if_neg x4, if_neg x5, if_neg x6, if_neg x7, if_pos x8, bnd_e (c_freeKeys hT)]
    refine ⟨_, rfl, r_countLoop hk _ _ (fun k => ?_)⟩
    unfold m_X7_count_L4
    rw [if_pos vk0, if_pos hin, if_neg x0, if_neg x1, if_neg x2, if_neg x3, if_neg x4, if_neg x5, if_neg x6, if_neg x7, if_pos x8, bnd_e (r_freeKeys hk hs)]
  by_cases x9 : x = 9
  · rw [if_neg x0, if_neg x1, if_neg x2, if_neg x3, if_neg x4, if_neg x5, if_neg x6, if_neg x7, if_neg x8, if_pos x9, hct.2.2.2.2.1]
    refine ⟨_, rfl, r_countLoop hk _ _ (fun k => ?_)⟩
    unfold m_X7_count_L4
    have e9 : (3 : Int32) + x - 9 = 3 := by rw [x9]; decide
    rw [if_pos vk0, if_pos hin, if_neg x0, if_neg x1, if_neg x2, if_neg x3, if_neg x4, if_neg x5, if_neg x6, if_neg x7, if_neg x8, if_pos x9, e9, if_pos vk3, ak3]
  by_cases x10 : x = 10
  · rw [if_neg x0, if_neg x1, if_neg x2, if_neg x3, if_neg x4, if_neg x5, if_neg x6, if_neg x7, if_neg x8, if_neg x9, if_pos x10, hct.2.2.2.2.2]
    refine ⟨_, rfl, r_countLoop hk _ _ (fun k => ?_)⟩
    unfold m_X7_count_L4
    have e9 : (3 : Int32) + x - 9 = 4 := by rw [x10]; decide
    rw [if_pos vk0, if_pos hin, if_neg x0, if_neg x1, if_neg x2, if_neg x3, if_neg x4, if_neg x5, if_neg x6, if_neg x7, if_neg x8, if_neg x9, if_pos x10, e9, if_pos vk4, ak4]
  by_cases x11 : x = 11
  · rw [if_neg x0, if_neg x1, if_neg x2, if_neg x3, if_neg x4, if_neg x5, if_neg x6, if_neg x7, if_neg x8, if_neg x9, if_neg x10, if_pos x11, hkept]
    refine ⟨_, rfl, r_countLoop hk _ _ (fun k => ?_)⟩
    unfold m_X7_count_L4
    rw [if_pos vk0, if_pos hin, if_neg x0, if_neg x1, if_neg x2, if_neg x3, if_neg x4, if_neg x5, if_neg x6, if_neg x7, if_neg x8, if_neg x9, if_neg x10, if_pos x11]
  by_cases x12 : x = 12
  · rw [if_neg x0, if_neg x1, if_neg x2, if_neg x3, if_neg x4, if_neg x5, if_neg x6, if_neg x7, if_neg x8, if_neg x9, if_neg x10, if_neg x11, if_pos x12, hlen]
    refine ⟨_, rfl, r_countLoop hk _ _ (fun k => ?_)⟩
    unfold m_X7_count_L4
    rw [if_pos vk0, if_pos hin, if_neg x0, if_neg x1, if_neg x2, if_neg x3, if_neg x4, if_neg x5, if_neg x6, if_neg x7, if_neg x8, if_neg x9, if_neg x10, if_neg x11, if_pos x12]
  rw [if_neg x0, if_neg x1, if_neg x2, if_neg x3, if_neg x4, if_neg x5, if_neg x6, if_neg x7, if_neg x8, if_neg x9, if_neg x10, if_neg x11, if_neg x12]
  refine ⟨_, rfl, r_countLoop hk _ _ (fun k => ?_)⟩
  unfold m_X7_count_L4
  rw [if_pos vk0, if_pos hin, if_neg x0, if_neg x1, if_neg x2, if_neg x3, if_neg x4, if_neg x5, if_neg x6, if_neg x7, if_neg x8, if_neg x9, if_neg x10, if_neg x11, if_neg x12]
end
