/-! ordered, heaviest, count on both sides -/
noncomputable def odB (N : Nat → Int32) (u : Nat → Nat) (m k : Nat) : Bool := @decide (∃ j, j < m ∧ (N (1265 + u j)).toInt = (k : Int)) (Classical.propDecidable _)
theorem od_iff {N : Nat → Int32} {u : Nat → Nat} {m k : Nat} : odB N u m k = true ↔ ∃ j, j < m ∧ (N (1265 + u j)).toInt = (k : Int) := by
  unfold odB
  exact @decide_eq_true_iff _ (Classical.propDecidable _)
def lwN (N : Nat → Int32) (u : Nat → Nat) (j : Nat) : Nat := (N (1265 + u j)).toInt.toNat
section
variable {N : Nat → Int32} {n c m : Nat} {u : Nat → Nat}
theorem lw_lt (hk : OkN N n c) (hs : SO N c m u) {i j : Nat} (hij : i < j) (hj : j < m) : lwN N u i < lwN N u j := by
  have h1 := hs.2.2.2 i j hij hj
  have h2 := u_b hk hs (j := i) (by omega)
  have h3 := u_b hk hs hj
  unfold lwN
  omega
theorem od_lw (hk : OkN N n c) (hs : SO N c m u) {k : Nat} (h : odB N u m k = true) : ∃ j, j < m ∧ k = lwN N u j := by
  obtain ⟨j, hj, e⟩ := od_iff.mp h
  exact ⟨j, hj, by unfold lwN; omega⟩
theorem lw_od (hk : OkN N n c) (hs : SO N c m u) {j : Nat} (hj : j < m) : odB N u m (lwN N u j) = true := od_iff.mpr ⟨j, hj, by
  have := u_b hk hs hj
  unfold lwN
  omega⟩
theorem lw_seg (hk : OkN N n c) (hs : SO N c m u) {j k : Nat} (hj : j < m) (h1 : lwN N u j < k) (h2 : ∀ i, j < i → i < m → k < lwN N u i) : odB N u m k = false := by
  rw [Bool.eq_false_iff]
  intro h
  obtain ⟨i, hi, rfl⟩ := od_lw hk hs h
  rcases Nat.lt_trichotomy i j with a | a | a
  · have := lw_lt hk hs a hj
    omega
  · subst a; omega
  · have := h2 i a hi
    omega
theorem od_cn (hk : OkN N n c) (hs : SO N c m u) : ∀ j, j < m → cn (odB N u m) (lwN N u j) = j := by
  intro j
  induction j with
  | zero =>
    intro hj
    refine cn_0 (fun k hk' => ?_)
    rw [Bool.eq_false_iff]
    intro h
    obtain ⟨i, hi, rfl⟩ := od_lw hk hs h
    rcases Nat.eq_zero_or_pos i with a | a
    · subst a; omega
    · have := lw_lt hk hs a hi
      omega
  | succ j ih =>
    intro hj
    have h1 := ih (by omega)
    have h2 : lwN N u j < lwN N u (j + 1) := lw_lt hk hs (Nat.lt_succ_self j) hj
    have h3 := cn_s (lw_od hk hs (j := j) (by omega))
    rw [cn_seg0 (s := lwN N u j + 1) (by omega) (fun k a b => lw_seg hk hs (j := j) (by omega) (by omega) (fun i hi him => by
      rcases Nat.lt_or_ge (j + 1) i with z | z
      · have := lw_lt hk hs z him
        omega
      · have : i = j + 1 := by omega
        subst this
        exact b)), h3, h1]
theorem od_all (hk : OkN N n c) (hs : SO N c m u) : cn (odB N u m) 1000 = m := by
  rcases Nat.eq_zero_or_pos m with h0 | h0
  · subst h0
    refine cn_0 (fun k _ => ?_)
    rw [Bool.eq_false_iff]
    intro h
    obtain ⟨j, hj, -⟩ := od_lw hk hs h
    omega
  · have hb := u_b hk hs (j := m - 1) (by omega)
    have h1 := od_cn hk hs (m - 1) (by omega)
    have h3 := cn_s (lw_od hk hs (j := m - 1) (by omega))
    rw [cn_seg0 (s := lwN N u (m - 1) + 1) (by unfold lwN; omega) (fun k a b => lw_seg hk hs (j := m - 1) (by omega) (by omega) (fun i hi him => by omega)), h3, h1]
    omega
end
def itB (N : Nat → Int32) (i : Nat) : Bool := !decide (N (805 + i) = -1) && !decide (N (805 + i) = 61)
def HvR (N : Nat → Int32) (n c : Nat) (r : Int32) : Prop := ((∀ q, q < c → ¬ N (1205 + q) = 1) ∧ r = -1005) ∨ ∃ q, q < c ∧ N (1205 + q) = 1 ∧ r = nI q ∧ ∀ q', q' < c → N (1205 + q') = 1 → cn (RP N (nI q')) n < cn (RP N (nI q)) n ∨ (cn (RP N (nI q')) n = cn (RP N (nI q)) n ∧ q ≤ q')
theorem hv_u {N : Nat → Int32} {n c : Nat} {r r' : Int32} (h : HvR N n c r) (h' : HvR N n c r') : r = r' := by
  rcases h with ⟨hno, rfl⟩ | ⟨q, hq, ha, rfl, hb⟩
  · rcases h' with ⟨-, rfl⟩ | ⟨q, hq, ha, -, -⟩
    · rfl
    · exact absurd ha (hno q hq)
  · rcases h' with ⟨hno, rfl⟩ | ⟨q', hq', ha', rfl, hb'⟩
    · exact absurd ha (hno q hq)
    · have h1 := hb q' hq' ha'
      have h2 := hb' q hq ha
      rw [show q = q' by omega]
section
variable {g h : MG} {n c m : Nat} {u : Nat → Nat}
theorem p_ordered (hT : TB g 0 (h.1 1) n c m u) (x : Int32) : ∃ r, m_X6_ordered g x = some r ∧ m_X7_ordered h x = some r := by
  have hm := hT.m12
  have hc := hT.c6
  have hk := hT.1
  have hs := hT.2.1
  unfold m_X6_ordered m_X7_ordered
  by_cases h0 : (0 : Int32) ≤ x
  · obtain ⟨X, hX, rfl⟩ := nI_of (Int32.not_lt.mpr h0)
    rw [if_pos h0, if_pos h0]
    have h2 : ∃ r, lpo (b_X7_ordered_L12 h (nI X)) fuelN (nI X, 0) = some r ∧ ((X < m ∧ r = nI (u X)) ∨ (m ≤ X ∧ r = -1005)) := by
      refine lpo_P (fun i z => z = (nI (X - cn (odB (h.1 1) u m) i), nI i) ∧ cn (odB (h.1 1) u m) i ≤ X) 1000 _ 0 (by omega) (by omega) ⟨rfl, Nat.zero_le X⟩ ?_ ?_
      · rintro i z hi ⟨rfl, hle⟩
        have hcond : ¬ (1000 : Int32) ≤ nI i := by rw [show (1000 : Int32) = nI 1000 from rfl, nI_leI (by omega) (by omega)]; omega
        have hci := cn_le (odB (h.1 1) u m) i
        rcases r_own hk i with ⟨f1, o1⟩ | ⟨f1, q, hq, o1, nq⟩
        · have hb : odB (h.1 1) u m i = false := by
            rw [Bool.eq_false_iff]
            intro hz
            obtain ⟨j, hj, e⟩ := od_iff.mp hz
            have bj := u_b hk hs hj
            exact fr_t.mp f1 (u j) ⟨(hs.2.1 j hj).1, (hs.2.1 j hj).2, by rw [nI_toInt (by omega)]; omega⟩
          right
          refine ⟨_, ⟨rfl, by rw [cn_n hb]; exact hle⟩, fun k => ?_⟩
          simp only [b_X7_ordered_L12, m_X7_ordered_L12]
          rw [if_neg hcond, bnd_e o1, if_pos rfl, cn_n hb, nI_1]
        · obtain ⟨j, hj, rfl⟩ := hs.2.2.1 q hq.1 hq.2.1
          have bj := u_b hk hs hj
          have hq60 := hq.1
          by_cases e : h.1 1 (1265 + u j) = nI i
          · have hij : i = lwN (h.1 1) u j := by
              unfold lwN
              rw [e, nI_toInt (by omega)]
              omega
            have hb : odB (h.1 1) u m i = true := od_iff.mpr ⟨j, hj, by rw [e, nI_toInt (by omega)]⟩
            have hcn : cn (odB (h.1 1) u m) i = j := by rw [hij]; exact od_cn hk hs j hj
            by_cases eX : j = X
            · left
              intro k
              refine ⟨nI (u j), ?_, Or.inl ⟨by omega, by rw [eX]⟩⟩
              simp only [b_X7_ordered_L12, m_X7_ordered_L12]
              rw [if_neg hcond, bnd_e o1, if_neg nq, if_pos (v1265 (by omega)), a1265 (by omega), if_pos e, if_pos (by rw [hcn, eX, Nat.sub_self]; rfl)]
            · right
              refine ⟨(nI (X - cn (odB (h.1 1) u m) (i + 1)), nI (i + 1)), ⟨rfl, by rw [cn_s hb]; omega⟩, fun k => ?_⟩
              simp only [b_X7_ordered_L12, m_X7_ordered_L12]
              rw [if_neg hcond, bnd_e o1, if_neg nq, if_pos (v1265 (by omega)), a1265 (by omega), if_pos e, if_neg (nI_ne0 (by omega) (by omega)), cn_s hb, nI_1, show X - cn (odB (h.1 1) u m) i = (X - (cn (odB (h.1 1) u m) i + 1)) + 1 by omega, pk_m1]
          · have hb : odB (h.1 1) u m i = false := by
              rw [Bool.eq_false_iff]
              intro hz
              obtain ⟨j', hj', e'⟩ := od_iff.mp hz
              have bj' := u_b hk hs hj'
              have e3 := own_u hk hq (r := u j') ⟨(hs.2.1 j' hj').1, (hs.2.1 j' hj').2, by rw [nI_toInt (by omega)]; omega⟩
              rw [← e3] at e'
              exact e (Int32.toInt_inj.mp (by rw [nI_toInt (by omega)]; exact e'))
            right
            refine ⟨_, ⟨rfl, by rw [cn_n hb]; exact hle⟩, fun k => ?_⟩
            simp only [b_X7_ordered_L12, m_X7_ordered_L12]
            rw [if_neg hcond, bnd_e o1, if_neg nq, if_pos (v1265 (by omega)), a1265 (by omega), if_neg e, cn_n hb, nI_1]
      · rintro z ⟨rfl, hle⟩ k
        rw [od_all hk hs] at hle
        refine ⟨-1005, ?_, Or.inr ⟨hle, rfl⟩⟩
        simp only [b_X7_ordered_L12, m_X7_ordered_L12]
        rw [if_pos (show (1000 : Int32) ≤ nI 1000 by decide)]
    obtain ⟨r, h3, h4⟩ := h2
    rw [h3, hT.am]
    rcases h4 with ⟨hX2, rfl⟩ | ⟨hX2, rfl⟩
    · rw [if_neg (by rw [nI_leI (by omega) (by omega)]; omega), bnd_e (c_number hT hX2)]
      exact ⟨_, rfl, rfl⟩
    · rw [if_pos (nI_le hX2 hX)]
      exact ⟨_, rfl, rfl⟩
  · rw [if_neg h0, if_neg h0]
    exact ⟨_, rfl, rfl⟩
theorem c_heaviest (hT : TB g 0 (h.1 1) n c m u) : ∃ r, m_X6_heaviest g = some r ∧ HvR (h.1 1) n c r := by
  have hn := hT.n4
  have hm := hT.m12
  have hc := hT.c6
  have hs := hT.2.1
  unfold m_X6_heaviest
  refine lpo_P (fun i z => (i = 0 ∧ z = (-1005, -1, 0)) ∨ ∃ j, j < i ∧ z = (nI (u j), nI (cn (RP (h.1 1) (nI (u j))) n), nI i) ∧ ∀ j', j' < i → cn (RP (h.1 1) (nI (u j'))) n < cn (RP (h.1 1) (nI (u j))) n ∨ (cn (RP (h.1 1) (nI (u j'))) n = cn (RP (h.1 1) (nI (u j))) n ∧ u j ≤ u j')) m _ 0 (Nat.zero_le m) (by omega) (Or.inl ⟨rfl, rfl⟩) ?_ ?_
  · rintro i z hi hI
    have hui := (hs.2.1 i hi).1
    have hRi := cn_le (RP (h.1 1) (nI (u i))) n
    have hcond : ¬ nI m ≤ nI i := by rw [nI_leI (by omega) (by omega)]; omega
    right
    rcases hI with ⟨rfl, rfl⟩ | ⟨j, hj, rfl, hb⟩
    · refine ⟨(nI (u 0), nI (cn (RP (h.1 1) (nI (u 0))) n), nI 1), Or.inr ⟨0, by omega, rfl, fun j' hj' => ?_⟩, fun k => ?_⟩
      · have : j' = 0 := by omega
        subst this
        exact Or.inr ⟨rfl, Nat.le_refl _⟩
      · simp only [b_X6_heaviest_L8, m_X6_heaviest_L8]
        rw [hT.am, if_neg (show ¬ nI m ≤ 0 from hcond), show (0 : Int32) = nI 0 from rfl, bnd_e (c_number hT hi), bnd_e (c_amount hT _), if_pos (Int32.lt_iff_toInt_lt.mpr (by rw [nI_toInt (by omega)]; show (-1 : Int) < _; omega)), nI_1]
    · have huj := (hs.2.1 j (by omega)).1
      have hRj := cn_le (RP (h.1 1) (nI (u j))) n
      have keep : (cn (RP (h.1 1) (nI (u i))) n < cn (RP (h.1 1) (nI (u j))) n ∨ (cn (RP (h.1 1) (nI (u i))) n = cn (RP (h.1 1) (nI (u j))) n ∧ u j ≤ u i)) → ∃ x', ((i + 1 = 0 ∧ x' = ((-1005 : Int32), (-1 : Int32), (0 : Int32))) ∨ ∃ j, j < i + 1 ∧ x' = (nI (u j), nI (cn (RP (h.1 1) (nI (u j))) n), nI (i + 1)) ∧ ∀ j', j' < i + 1 → cn (RP (h.1 1) (nI (u j'))) n < cn (RP (h.1 1) (nI (u j))) n ∨ (cn (RP (h.1 1) (nI (u j'))) n = cn (RP (h.1 1) (nI (u j))) n ∧ u j ≤ u j')) ∧ x' = (nI (u j), nI (cn (RP (h.1 1) (nI (u j))) n), nI (i + 1)) := fun hh => ⟨_, Or.inr ⟨j, by omega, rfl, lt_up hb hh⟩, rfl⟩
      have take_ : (cn (RP (h.1 1) (nI (u j))) n < cn (RP (h.1 1) (nI (u i))) n ∨ (cn (RP (h.1 1) (nI (u j))) n = cn (RP (h.1 1) (nI (u i))) n ∧ u i ≤ u j)) → ∃ x', ((i + 1 = 0 ∧ x' = ((-1005 : Int32), (-1 : Int32), (0 : Int32))) ∨ ∃ j, j < i + 1 ∧ x' = (nI (u j), nI (cn (RP (h.1 1) (nI (u j))) n), nI (i + 1)) ∧ ∀ j', j' < i + 1 → cn (RP (h.1 1) (nI (u j'))) n < cn (RP (h.1 1) (nI (u j))) n ∨ (cn (RP (h.1 1) (nI (u j'))) n = cn (RP (h.1 1) (nI (u j))) n ∧ u j ≤ u j')) ∧ x' = (nI (u i), nI (cn (RP (h.1 1) (nI (u i))) n), nI (i + 1)) := fun hh => ⟨_, Or.inr ⟨i, by omega, rfl, lt_up (fun j' hj' => by have := hb j' hj'; omega) (Or.inr ⟨rfl, Nat.le_refl _⟩)⟩, rfl⟩
      by_cases h1 : cn (RP (h.1 1) (nI (u j))) n < cn (RP (h.1 1) (nI (u i))) n
      · obtain ⟨x', hx', e⟩ := take_ (Or.inl h1)
        refine ⟨x', hx', fun k => ?_⟩
        simp only [b_X6_heaviest_L8, m_X6_heaviest_L8]
        rw [hT.am, if_neg hcond, bnd_e (c_number hT hi), bnd_e (c_amount hT _), if_pos (nI_lt h1 (by omega)), nI_1, e]
      · by_cases h2 : cn (RP (h.1 1) (nI (u i))) n = cn (RP (h.1 1) (nI (u j))) n
        · by_cases h3 : u j ≤ u i
          · obtain ⟨x', hx', e⟩ := keep (Or.inr ⟨h2, h3⟩)
            refine ⟨x', hx', fun k => ?_⟩
            simp only [b_X6_heaviest_L8, m_X6_heaviest_L8]
            rw [hT.am, if_neg hcond, bnd_e (c_number hT hi), bnd_e (c_amount hT _), if_neg (nI_nlt (by omega) (by omega)), if_pos (by rw [h2]), if_pos (nI_le h3 (by omega)), nI_1, e]
          · obtain ⟨x', hx', e⟩ := take_ (Or.inr ⟨h2.symm, by omega⟩)
            refine ⟨x', hx', fun k => ?_⟩
            simp only [b_X6_heaviest_L8, m_X6_heaviest_L8]
            rw [hT.am, if_neg hcond, bnd_e (c_number hT hi), bnd_e (c_amount hT _), if_neg (nI_nlt (by omega) (by omega)), if_pos (by rw [h2]), if_neg (by rw [nI_leI (by omega) (by omega)]; exact h3), nI_1, e]
        · obtain ⟨x', hx', e⟩ := keep (Or.inl (by omega))
          refine ⟨x', hx', fun k => ?_⟩
          simp only [b_X6_heaviest_L8, m_X6_heaviest_L8]
          rw [hT.am, if_neg hcond, bnd_e (c_number hT hi), bnd_e (c_amount hT _), if_neg (nI_nlt (by omega) (by omega)), if_neg (by rw [nI_eq (by omega) (by omega)]; exact h2), nI_1, e]
  · rintro z hI k
    rcases hI with ⟨rfl, rfl⟩ | ⟨j, hj, rfl, hb⟩
    · refine ⟨-1005, ?_, Or.inl ⟨fun q hq ha => ?_, rfl⟩⟩
      · simp only [b_X6_heaviest_L8, m_X6_heaviest_L8]
        rw [hT.am, if_pos (show nI 0 ≤ 0 by decide)]
      · obtain ⟨j, hj, -⟩ := hs.2.2.1 q hq ha
        omega
    · refine ⟨nI (u j), ?_, Or.inr ⟨u j, (hs.2.1 j hj).1, (hs.2.1 j hj).2, rfl, fun q' hq' ha' => ?_⟩⟩
      · simp only [b_X6_heaviest_L8, m_X6_heaviest_L8]
        rw [hT.am, if_pos (nI_le (Nat.le_refl m) (by omega))]
      · obtain ⟨j', hj', rfl⟩ := hs.2.2.1 q' hq' ha'
        exact hb j' hj'
theorem r_heaviest (hk : OkN (h.1 1) n c) : ∃ r, m_X7_heaviest h = some r ∧ HvR (h.1 1) n c r := by
  have hn := hk.1.2.1
  have hc := hk.1.2.2.2
  have ne : ¬ (1 : Int32) = 0 := by decide
  unfold m_X7_heaviest
  refine lpo_P (fun i z => ∃ r, z = (r, nI i) ∧ (((∀ q, q < i → ¬ h.1 1 (1205 + q) = 1) ∧ r = -1005) ∨ ∃ q, q < i ∧ h.1 1 (1205 + q) = 1 ∧ r = nI q ∧ ∀ q', q' < i → h.1 1 (1205 + q') = 1 → cn (RP (h.1 1) (nI q')) n < cn (RP (h.1 1) (nI q)) n ∨ (cn (RP (h.1 1) (nI q')) n = cn (RP (h.1 1) (nI q)) n ∧ q ≤ q'))) c _ 0 (Nat.zero_le c) (by omega) ⟨-1005, rfl, Or.inl ⟨fun q hq => absurd hq (Nat.not_lt_zero q), rfl⟩⟩ ?_ ?_
  · rintro i z hi ⟨r, rfl, hI⟩
    have hcond : ¬ h.1 1 1 ≤ nI i := by rw [hk.1.2.2.1, nI_leI (by omega) (by omega)]; omega
    have hRi := cn_le (RP (h.1 1) (nI i)) n
    right
    by_cases ha : h.1 1 (1205 + i) = 1
    · rcases hI with ⟨hno, rfl⟩ | ⟨q, hq, haq, rfl, hb⟩
      · refine ⟨(nI i, nI (i + 1)), ⟨_, rfl, Or.inr ⟨i, by omega, ha, rfl, lt_up (fun q' hq' haq' => absurd haq' (hno q' hq')) (fun _ => Or.inr ⟨rfl, Nat.le_refl _⟩)⟩⟩, fun k => ?_⟩
        simp only [b_X7_heaviest_L6, m_X7_heaviest_L6]
        rw [if_pos vk1, ak1, if_neg hcond, bnd_e (r_isSlice hk hi), if_pos ha, if_neg ne, if_pos trivial, nI_1]
      · have hRq := cn_le (RP (h.1 1) (nI q)) n
        by_cases h1 : cn (RP (h.1 1) (nI i)) n ≤ cn (RP (h.1 1) (nI q)) n
        · refine ⟨(nI q, nI (i + 1)), ⟨_, rfl, Or.inr ⟨q, by omega, haq, rfl, lt_up hb (fun _ => by omega)⟩⟩, fun k => ?_⟩
          simp only [b_X7_heaviest_L6, m_X7_heaviest_L6]
          rw [if_pos vk1, ak1, if_neg hcond, bnd_e (r_isSlice hk hi), if_pos ha, if_neg ne, if_neg (nI_ne_m (by omega) (by decide)), bnd_e (r_rowsIn hk _), bnd_e (r_rowsIn hk _), if_pos (nI_le h1 (by omega)), nI_1]
        · refine ⟨(nI i, nI (i + 1)), ⟨_, rfl, Or.inr ⟨i, by omega, ha, rfl, lt_up (fun q' hq' haq' => by have := hb q' hq' haq'; omega) (fun _ => Or.inr ⟨rfl, Nat.le_refl _⟩)⟩⟩, fun k => ?_⟩
          simp only [b_X7_heaviest_L6, m_X7_heaviest_L6]
          rw [if_pos vk1, ak1, if_neg hcond, bnd_e (r_isSlice hk hi), if_pos ha, if_neg ne, if_neg (nI_ne_m (by omega) (by decide)), bnd_e (r_rowsIn hk _), bnd_e (r_rowsIn hk _), if_neg (by rw [nI_leI (by omega) (by omega)]; exact h1), nI_1]
    · refine ⟨(r, nI (i + 1)), ⟨r, rfl, ?_⟩, fun k => ?_⟩
      · rcases hI with ⟨hno, rfl⟩ | ⟨q, hq, haq, rfl, hb⟩
        · exact Or.inl ⟨lt_up hno ha, rfl⟩
        · exact Or.inr ⟨q, by omega, haq, rfl, lt_up hb (fun z => absurd z ha)⟩
      · simp only [b_X7_heaviest_L6, m_X7_heaviest_L6]
        rw [if_pos vk1, ak1, if_neg hcond, bnd_e (r_isSlice hk hi), if_neg ha, if_pos rfl, nI_1]
  · rintro z ⟨r, rfl, hI⟩ k
    refine ⟨r, ?_, ?_⟩
    · simp only [b_X7_heaviest_L6, m_X7_heaviest_L6]
      rw [if_pos vk1, ak1, hk.1.2.2.1, if_pos (nI_le (Nat.le_refl c) (by omega))]
    · rcases hI with ⟨hno, rfl⟩ | ⟨q, hq, haq, rfl, hb⟩
      · exact Or.inl ⟨hno, rfl⟩
      · exact Or.inr ⟨q, hq, haq, rfl, hb⟩
theorem p_heaviest (hT : TB g 0 (h.1 1) n c m u) : ∃ r, m_X6_heaviest g = some r ∧ m_X7_heaviest h = some r := by
  obtain ⟨r, h1, h2⟩ := c_heaviest hT
  obtain ⟨r', h3, h4⟩ := r_heaviest hT.1
  exact ⟨r, h1, by rw [hv_u h2 h4]; exact h3⟩
end
