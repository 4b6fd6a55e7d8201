/-! the reference's reads of a table N = h.1 1 -/
theorem v5 {i : Nat} (hi : i < 400) : vin ((5 : Int32) + nI i) 1385 := by
  rw [show (5 : Int32) + nI i = nI (5 + i) from nI_add 5 i]
  exact vin_nI (by omega) (by omega)
theorem a5 {i : Nat} (hi : i < 400) : ((5 : Int32) + nI i).toNatClampNeg = 5 + i := by
  rw [show (5 : Int32) + nI i = nI (5 + i) from nI_add 5 i]
  exact nI_clamp (by omega)
theorem v405 {i : Nat} (hi : i < 400) : vin ((405 : Int32) + nI i) 1385 := by
  rw [show (405 : Int32) + nI i = nI (405 + i) from nI_add 405 i]
  exact vin_nI (by omega) (by omega)
theorem a405 {i : Nat} (hi : i < 400) : ((405 : Int32) + nI i).toNatClampNeg = 405 + i := by
  rw [show (405 : Int32) + nI i = nI (405 + i) from nI_add 405 i]
  exact nI_clamp (by omega)
theorem v805 {i : Nat} (hi : i < 400) : vin ((805 : Int32) + nI i) 1385 := by
  rw [show (805 : Int32) + nI i = nI (805 + i) from nI_add 805 i]
  exact vin_nI (by omega) (by omega)
theorem a805 {i : Nat} (hi : i < 400) : ((805 : Int32) + nI i).toNatClampNeg = 805 + i := by
  rw [show (805 : Int32) + nI i = nI (805 + i) from nI_add 805 i]
  exact nI_clamp (by omega)
theorem v1205 {i : Nat} (hi : i < 60) : vin ((1205 : Int32) + nI i) 1385 := by
  rw [show (1205 : Int32) + nI i = nI (1205 + i) from nI_add 1205 i]
  exact vin_nI (by omega) (by omega)
theorem a1205 {i : Nat} (hi : i < 60) : ((1205 : Int32) + nI i).toNatClampNeg = 1205 + i := by
  rw [show (1205 : Int32) + nI i = nI (1205 + i) from nI_add 1205 i]
  exact nI_clamp (by omega)
theorem v1265 {i : Nat} (hi : i < 60) : vin ((1265 : Int32) + nI i) 1385 := by
  rw [show (1265 : Int32) + nI i = nI (1265 + i) from nI_add 1265 i]
  exact vin_nI (by omega) (by omega)
theorem a1265 {i : Nat} (hi : i < 60) : ((1265 : Int32) + nI i).toNatClampNeg = 1265 + i := by
  rw [show (1265 : Int32) + nI i = nI (1265 + i) from nI_add 1265 i]
  exact nI_clamp (by omega)
theorem v1325 {i : Nat} (hi : i < 60) : vin ((1325 : Int32) + nI i) 1385 := by
  rw [show (1325 : Int32) + nI i = nI (1325 + i) from nI_add 1325 i]
  exact vin_nI (by omega) (by omega)
theorem a1325 {i : Nat} (hi : i < 60) : ((1325 : Int32) + nI i).toNatClampNeg = 1325 + i := by
  rw [show (1325 : Int32) + nI i = nI (1325 + i) from nI_add 1325 i]
  exact nI_clamp (by omega)
theorem vk0 : vin (0 : Int32) 1385 := by decide
theorem ak0 : (0 : Int32).toNatClampNeg = 0 := by decide
theorem vk1 : vin (1 : Int32) 1385 := by decide
theorem ak1 : (1 : Int32).toNatClampNeg = 1 := by decide
theorem vk2 : vin (2 : Int32) 1385 := by decide
theorem ak2 : (2 : Int32).toNatClampNeg = 2 := by decide
theorem vk3 : vin (3 : Int32) 1385 := by decide
theorem ak3 : (3 : Int32).toNatClampNeg = 3 := by decide
theorem vk4 : vin (4 : Int32) 1385 := by decide
theorem ak4 : (4 : Int32).toNatClampNeg = 4 := by decide
theorem nI_z (a : Nat) : nI a + (0 : Int32) = nI a := nI_add a 0
section
variable {h : MG} {n c : Nat}
theorem r_in {x lo hi : Int32} : m_X7_in h x lo hi = some (if lo.toInt ≤ x.toInt ∧ x.toInt ≤ hi.toInt then 1 else 0) := by
  unfold m_X7_in
  by_cases h1 : x < lo
  · rw [if_pos h1, if_neg]
    have := Int32.lt_iff_toInt_lt.mp h1
    omega
  · have h1' := Int32.le_iff_toInt_le.mp (Int32.not_lt.mp h1)
    rw [if_neg h1]
    by_cases h2 : hi < x
    · rw [if_pos h2, if_neg]
      have := Int32.lt_iff_toInt_lt.mp h2
      omega
    · rw [if_neg h2, if_pos]
      exact ⟨h1', Int32.le_iff_toInt_le.mp (Int32.not_lt.mp h2)⟩
theorem r_in1 {x lo hi : Int32} (e : lo.toInt ≤ x.toInt ∧ x.toInt ≤ hi.toInt) : m_X7_in h x lo hi = some 1 := by rw [r_in, if_pos e]
theorem r_in0 {x lo hi : Int32} (e : ¬ (lo.toInt ≤ x.toInt ∧ x.toInt ≤ hi.toInt)) : m_X7_in h x lo hi = some 0 := by rw [r_in, if_neg e]
theorem OkN.pred {N : Nat → Int32} (hk : OkN N n c) : (N 0 - (1 : Int32)).toInt = (n : Int) - 1 := by
  have := hk.1.2.1
  rw [hk.1.1]
  exact pk_sub_toInt (a := n) (b := 1) (by omega) (by omega)
theorem OkN.pred1 {N : Nat → Int32} (hk : OkN N n c) : (N 1 - (1 : Int32)).toInt = (c : Int) - 1 := by
  have := hk.1.2.2.2
  rw [hk.1.2.2.1]
  exact pk_sub_toInt (a := c) (b := 1) (by omega) (by omega)
theorem r_isRow (hk : OkN (h.1 1) n c) {i : Nat} (hi : i < n) : m_X7_isRow h (nI i) = some (if h.1 1 (805 + i) = -1 then 0 else 1) := by
  have hn := hk.1.2.1
  have ht := nI_toInt (n := i) (by omega)
  unfold m_X7_isRow
  rw [if_pos vk0, ak0, bnd_e (r_in1 (by rw [hk.pred, ht]; exact ⟨by show (0 : Int) ≤ i; omega, by omega⟩)), if_neg (by decide), if_pos (v805 (by omega)), a805 (by omega)]
  split <;> rfl
theorem r_isRow_out (hk : OkN (h.1 1) n c) {x : Int32} (hx : x.toInt < 0 ∨ (n : Int) ≤ x.toInt) : m_X7_isRow h x = some 0 := by
  unfold m_X7_isRow
  rw [if_pos vk0, ak0, bnd_e (r_in0 (by
    rw [hk.pred]
    rintro ⟨h1, h2⟩
    have h1 : (0 : Int) ≤ x.toInt := h1
    omega)), if_pos rfl]
theorem r_isSlice (hk : OkN (h.1 1) n c) {q : Nat} (hq : q < c) : m_X7_isSlice h (nI q) = some (if h.1 1 (1205 + q) = 1 then 1 else 0) := by
  have hn := hk.1.2.2.2
  have ht := nI_toInt (n := q) (by omega)
  unfold m_X7_isSlice
  rw [if_pos vk1, ak1, bnd_e (r_in1 (by rw [hk.pred1, ht]; exact ⟨by show (0 : Int) ≤ q; omega, by omega⟩)), if_neg (by decide), if_pos (v1205 (by omega)), a1205 (by omega)]
  split <;> rfl
theorem r_isSlice_out (hk : OkN (h.1 1) n c) {x : Int32} (hx : x.toInt < 0 ∨ (c : Int) ≤ x.toInt) : m_X7_isSlice h x = some 0 := by
  unfold m_X7_isSlice
  rw [if_pos vk1, ak1, bnd_e (r_in0 (by
    rw [hk.pred1]
    rintro ⟨h1, h2⟩
    have h1 : (0 : Int) ≤ x.toInt := h1
    omega)), if_pos rfl]
theorem r_has (hk : OkN (h.1 1) n c) {q : Nat} (hq : q < c) (ha : h.1 1 (1205 + q) = 1) (k : Int32) : m_X7_has h (nI q) k = some (if (h.1 1 (1265 + q)).toInt ≤ k.toInt ∧ k.toInt < (h.1 1 (1325 + q)).toInt then 1 else 0) := by
  have hn := hk.1.2.2.2
  have hb := (hk.2.2.2.1 q hq).2 ha
  have h1 : ((1 : Int32)).toInt = 1 := by decide
  have hs : (h.1 1 (1325 + q) - (1 : Int32)).toInt = (h.1 1 (1325 + q)).toInt - 1 := by
    rw [i_sub (by rw [h1]; omega) (by rw [h1]; omega), h1]
  unfold m_X7_has
  rw [if_pos (v1265 (by omega)), if_pos (v1325 (by omega)), a1265 (by omega), a1325 (by omega)]
  by_cases e : (h.1 1 (1265 + q)).toInt ≤ k.toInt ∧ k.toInt < (h.1 1 (1325 + q)).toInt
  · rw [bnd_e (r_in1 (by rw [hs]; omega)), if_pos e]; rfl
  · rw [bnd_e (r_in0 (by rw [hs]; omega)), if_neg e]; rfl
theorem r_owner (hk : OkN (h.1 1) n c) (x : Int32) : ∃ r, m_X7_owner h x = some r ∧ OwnR (h.1 1) c x r := by
  have hc := hk.1.2.2.2
  unfold m_X7_owner
  refine lpo_P (fun i y => y = nI i ∧ ∀ j, j < i → ¬ Own (h.1 1) c x j) c (OwnR (h.1 1) c x) 0 (Nat.zero_le c) (by omega) ⟨rfl, fun j hj => absurd hj (Nat.not_lt_zero j)⟩ ?_ ?_
  · rintro i y hi ⟨rfl, hno⟩
    have hcond : ¬ h.1 1 1 ≤ nI i := by rw [hk.1.2.2.1, nI_leI (by omega) (by omega)]; omega
    have hup : (¬ Own (h.1 1) c x i) → ∀ j, j < i + 1 → ¬ Own (h.1 1) c x j := fun hn j hj => by
      rcases Nat.lt_or_ge j i with a | a
      · exact hno j a
      · have : j = i := by omega
        subst this
        exact hn
    by_cases ha : h.1 1 (1205 + i) = 1
    · by_cases e : (h.1 1 (1265 + i)).toInt ≤ x.toInt ∧ x.toInt < (h.1 1 (1325 + i)).toInt
      · left
        intro k
        refine ⟨nI i, ?_, Or.inl ⟨i, ⟨hi, ha, e.1, e.2⟩, rfl⟩⟩
        simp only [b_X7_owner_L2, m_X7_owner_L2]
        rw [if_pos vk1, ak1, if_neg hcond, bnd_e (r_isSlice hk hi), if_pos ha, if_neg (by decide), bnd_e (r_has hk hi ha x), if_pos e, if_neg (by decide)]
      · right
        refine ⟨nI (i + 1), ⟨rfl, hup (fun ho => e ⟨ho.2.2.1, ho.2.2.2⟩)⟩, fun k => ?_⟩
        simp only [b_X7_owner_L2, m_X7_owner_L2]
        rw [if_pos vk1, ak1, if_neg hcond, bnd_e (r_isSlice hk hi), if_pos ha, if_neg (by decide), bnd_e (r_has hk hi ha x), if_neg e, if_pos rfl, nI_1]
    · right
      refine ⟨nI (i + 1), ⟨rfl, hup (fun ho => ha ho.2.1)⟩, fun k => ?_⟩
      simp only [b_X7_owner_L2, m_X7_owner_L2]
      rw [if_pos vk1, ak1, if_neg hcond, bnd_e (r_isSlice hk hi), if_neg ha, if_pos rfl, nI_1]
  · rintro y ⟨rfl, hno⟩ k
    refine ⟨-1005, ?_, Or.inr ⟨fun q hq => hno q hq.1 hq, rfl⟩⟩
    simp only [b_X7_owner_L2, m_X7_owner_L2]
    rw [if_pos vk1, ak1, hk.1.2.2.1, if_pos (nI_le (Nat.le_refl c) (by omega))]
theorem r_home (hk : OkN (h.1 1) n c) (x : Int32) : ∃ r, m_X7_belongsTo h x = some r ∧ HomR (h.1 1) c x r := by
  obtain ⟨r, h1, h2⟩ := r_owner hk x
  have hc := hk.1.2.2.2
  unfold m_X7_belongsTo
  rw [bnd_e h1]
  rcases h2 with ⟨q, hq, rfl⟩ | ⟨hn, rfl⟩
  · have := hq.1
    rw [if_neg (nI_ne_m (by omega) (by decide))]
    exact ⟨_, rfl, Or.inl ⟨q, hq, rfl⟩⟩
  · rw [if_pos rfl, if_pos vk2, ak2]
    rcases hk.2.1.1 with e | e
    · rw [e, if_neg (by decide)]
      exact ⟨_, rfl, Or.inr ⟨hn, Or.inr ⟨e, rfl⟩⟩⟩
    · rw [e, if_pos rfl]
      exact ⟨_, rfl, Or.inr ⟨hn, Or.inl ⟨e, rfl⟩⟩⟩
theorem r_rowsIn (hk : OkN (h.1 1) n c) (p : Int32) : m_X7_rowsIn h p = some (nI (cn (RP (h.1 1) p) n)) := by
  have hn := hk.1.2.1
  unfold m_X7_rowsIn
  refine lpo_eq (fun i x => x = (nI (cn (RP (h.1 1) p) i), nI i)) n (by omega) rfl ?_ ?_
  · rintro i x hi rfl
    have hcond : ¬ h.1 1 0 ≤ nI i := by rw [hk.1.1, nI_leI (by omega) (by omega)]; omega
    right
    by_cases hb : h.1 1 (805 + i) = p
    · have hb' : RP (h.1 1) p i = true := by simp only [RP, hb, decide_true]
      refine ⟨_, rfl, fun k => ?_⟩
      simp only [b_X7_rowsIn_L4, m_X7_rowsIn_L4]
      rw [if_pos vk0, ak0, if_neg hcond, if_pos (v805 (by omega)), a805 (by omega), if_pos hb, cn_s hb', nI_1, nI_1]
    · have hb' : RP (h.1 1) p i = false := by simp only [RP, hb, decide_false]
      refine ⟨_, rfl, fun k => ?_⟩
      simp only [b_X7_rowsIn_L4, m_X7_rowsIn_L4]
      rw [if_pos vk0, ak0, if_neg hcond, if_pos (v805 (by omega)), a805 (by omega), if_neg hb, cn_n hb', nI_z, nI_1]
  · rintro x rfl k
    simp only [b_X7_rowsIn_L4, m_X7_rowsIn_L4]
    rw [if_pos vk0, ak0, hk.1.1, if_pos (nI_le (Nat.le_refl n) (by omega))]
theorem r_rowsBetween (hk : OkN (h.1 1) n c) (p lo hi : Int32) (hlo : -2147483648 < hi.toInt) : m_X7_rowsBetween h p lo hi = some (nI (cn (RB (h.1 1) p lo hi) n)) := by
  have hn := hk.1.2.1
  have h1 : ((1 : Int32)).toInt = 1 := by decide
  have hs : (hi - (1 : Int32)).toInt = hi.toInt - 1 := by
    have := hi.toInt_lt
    rw [i_sub (by rw [h1]; omega) (by rw [h1]; omega), h1]
  unfold m_X7_rowsBetween
  refine lpo_eq (fun i x => x = (nI (cn (RB (h.1 1) p lo hi) i), nI i)) n (by omega) rfl ?_ ?_
  · rintro i x hi' rfl
    have hcond : ¬ h.1 1 0 ≤ nI i := by rw [hk.1.1, nI_leI (by omega) (by omega)]; omega
    right
    by_cases hb : h.1 1 (805 + i) = p
    · by_cases e : lo.toInt ≤ (h.1 1 (5 + i)).toInt ∧ (h.1 1 (5 + i)).toInt ≤ hi.toInt - 1
      · have hb' : RB (h.1 1) p lo hi i = true := by
          simp only [RB, Bool.and_eq_true, decide_eq_true_eq]
          exact ⟨hb, e.1, by omega⟩
        refine ⟨_, rfl, fun k => ?_⟩
        simp only [b_X7_rowsBetween_L6, m_X7_rowsBetween_L6]
        rw [if_pos vk0, ak0, if_neg hcond, if_pos (v805 (by omega)), a805 (by omega), if_pos hb, if_pos (v5 (by omega)), a5 (by omega), bnd_e (r_in1 (by rw [hs]; exact e)), if_neg (by decide), cn_s hb', nI_1, nI_1]
      · have hb' : RB (h.1 1) p lo hi i = false := by
          rw [Bool.eq_false_iff]
          simp only [RB, ne_eq, Bool.and_eq_true, decide_eq_true_eq]
          rintro ⟨-, a, b⟩
          exact e ⟨a, by omega⟩
        refine ⟨_, rfl, fun k => ?_⟩
        simp only [b_X7_rowsBetween_L6, m_X7_rowsBetween_L6]
        rw [if_pos vk0, ak0, if_neg hcond, if_pos (v805 (by omega)), a805 (by omega), if_pos hb, if_pos (v5 (by omega)), a5 (by omega), bnd_e (r_in0 (by rw [hs]; exact e)), if_pos rfl, cn_n hb', nI_z, nI_1]
    · have hb' : RB (h.1 1) p lo hi i = false := by
        rw [Bool.eq_false_iff]
        simp only [RB, ne_eq, Bool.and_eq_true, decide_eq_true_eq]
        exact fun q => hb q.1
      refine ⟨_, rfl, fun k => ?_⟩
      simp only [b_X7_rowsBetween_L6, m_X7_rowsBetween_L6]
      rw [if_pos vk0, ak0, if_neg hcond, if_pos (v805 (by omega)), a805 (by omega), if_neg hb, cn_n hb', nI_z, nI_1]
  · rintro x rfl k
    simp only [b_X7_rowsBetween_L6, m_X7_rowsBetween_L6]
    rw [if_pos vk0, ak0, hk.1.1, if_pos (nI_le (Nat.le_refl n) (by omega))]
end
