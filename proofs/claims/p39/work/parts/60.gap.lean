/-! gap and ordered on both sides -/
theorem cn_same {p : Nat → Bool} {i j : Nat} (hi : p i = true) (hj : p j = true) (e : cn p i = cn p j) : i = j := by
  rcases Nat.lt_trichotomy i j with a | a | a
  · have := cn_lt a hi
    omega
  · exact a
  · have := cn_lt a hj
    omega
def GapR (N : Nat → Int32) (u : Nat → Nat) (m : Nat) (x y r : Int32) : Prop := (∃ a, a ≤ m ∧ gB N u m a = true ∧ x = nI (cn (gB N u m) a) ∧ r = if y = 0 then nI (glN N u a) else nI (ghN N u m a - 1)) ∨ ((∀ a, a ≤ m → gB N u m a = true → x ≠ nI (cn (gB N u m) a)) ∧ r = -1005)
theorem gapR_u {N : Nat → Int32} {u : Nat → Nat} {m : Nat} (hm : m ≤ 12) {x y r r' : Int32} (h : GapR N u m x y r) (h' : GapR N u m x y r') : r = r' := by
  rcases h with ⟨a, ha, hg, hx, rfl⟩ | ⟨hno, rfl⟩
  · rcases h' with ⟨b, hb, hg', hx', rfl⟩ | ⟨hno, -⟩
    · have e : cn (gB N u m) a = cn (gB N u m) b := by
        have h1 := cn_le (gB N u m) a
        have h2 := cn_le (gB N u m) b
        exact (nI_eq (by omega) (by omega)).mp (hx.symm.trans hx')
      rw [cn_same hg hg' e]
    · exact absurd hx (hno a ha hg)
  · rcases h' with ⟨b, hb, hg', hx', -⟩ | ⟨-, rfl⟩
    · exact absurd hx' (hno b hb hg')
    · rfl
section
variable {g h : MG} {n c m : Nat} {u : Nat → Nat}
theorem gap_same : b_X7_gap_L69_1 = b_X7_gap_L69 := rfl
theorem r_last (hk : OkN (h.1 1) n c) (hs : SO (h.1 1) c m u) {a : Nat} (ha : a ≤ m) (hg : glN (h.1 1) u a < ghN (h.1 1) u m a) (x y : Int32) : lpo (b_X7_gap_L69 h x y (nI (glN (h.1 1) u a))) fuelN (nI (glN (h.1 1) u a)) = some (if y = 0 then nI (glN (h.1 1) u a) else nI (ghN (h.1 1) u m a - 1)) := by
  have b1 := gl_b hk hs ha
  have b2 := gh_b hk hs ha
  have hge : ghN (h.1 1) u m a ≤ 1000 := by unfold ghN; omega
  refine lpo_eq (fun d z => z = nI (glN (h.1 1) u a + d) ∧ glN (h.1 1) u a + d < ghN (h.1 1) u m a) (ghN (h.1 1) u m a) (by omega) ⟨rfl, hg⟩ ?_ ?_
  · rintro d z hd ⟨rfl, hlt⟩
    generalize hv : glN (h.1 1) u a + d = v at hlt ⊢
    have e1 : (1000 : Int32) = nI 1000 := rfl
    by_cases h1 : v + 1 < ghN (h.1 1) u m a
    · right
      refine ⟨nI (v + 1), ⟨by rw [← hv, Nat.add_assoc], by omega⟩, fun k => ?_⟩
      simp only [b_X7_gap_L69, m_X7_gap_L69]
      rcases r_own hk (v + 1) with ⟨f1, o1⟩ | ⟨f1, q, hq, o1, nq⟩
      · rw [nI_1, if_neg (by rw [e1, nI_leI (by omega) (by omega)]; omega), bnd_e o1, if_pos rfl]
      · rw [free_in hk hs ha (by omega) h1] at f1
        cases f1
    · left
      intro k
      have hv2 : v = ghN (h.1 1) u m a - 1 := by omega
      simp only [b_X7_gap_L69, m_X7_gap_L69]
      have hfin : (if y = 0 then some (nI (glN (h.1 1) u a)) else some (nI v)) = some (if y = 0 then nI (glN (h.1 1) u a) else nI (ghN (h.1 1) u m a - 1)) := by
        rw [hv2]
        split <;> rfl
      by_cases h2 : 1000 ≤ v + 1
      · rw [nI_1, if_pos (by rw [e1]; exact nI_le h2 (by omega)), hfin]
      · have ham : a < m := by
          rcases Nat.lt_or_ge a m with z | z
          · exact z
          · exfalso
            have : ghN (h.1 1) u m a = 1000 := by
              unfold ghN gHi
              rw [if_pos (by omega)]
              decide
            omega
        have bj := u_b hk hs ham
        have e2 : gHi (h.1 1) u m a = h.1 1 (1265 + u a) := by simp only [gHi, if_neg (show ¬ a = m by omega)]
        have e3 : gLo (h.1 1) u (a + 1) = h.1 1 (1325 + u a) := by simp only [gLo, if_neg (show ¬ a + 1 = 0 by omega), Nat.add_sub_cancel]
        have hown := own_in hk hs (a := a) (k := v + 1) ham (by omega) (by
          have hv3 : v + 1 = ghN (h.1 1) u m a := by omega
          rw [hv3]
          unfold ghN glN
          rw [e2, e3]
          omega)
        rcases r_own hk (v + 1) with ⟨f1, o1⟩ | ⟨f1, q, hq, o1, nq⟩
        · exact absurd hown (fr_t.mp f1 _)
        · rw [nI_1, if_neg (by rw [e1, nI_leI (by omega) (by omega)]; omega), bnd_e o1, if_neg nq, hfin]
  · rintro z ⟨rfl, hlt⟩ k
    omega
theorem r_gapLoop (hk : OkN (h.1 1) n c) (hs : SO (h.1 1) c m u) {X : Nat} (hX : X < 2 ^ 31) (y : Int32) : ∃ r, lpo (b_X7_gap_L22 h (nI X) y) fuelN (nI X, 0) = some r ∧ GapR (h.1 1) u m (nI X) y r := by
  have hm := hs.1
  -- a start of a gap with that rank is the gap's low bound
  have found : ∀ i, i < 1000 → sgB (h.1 1) c i = true → cn (sgB (h.1 1) c) i = X → ∃ a, a ≤ m ∧ gB (h.1 1) u m a = true ∧ cn (gB (h.1 1) u m) a = X ∧ i = glN (h.1 1) u a := fun i hi hb e => by
    have h1 : X < cn (gB (h.1 1) u m) (m + 1) := by
      rw [← gap_all hk hs, ← e]
      exact cn_lt hi hb
    obtain ⟨a, ha, hg, he⟩ := cn_hit h1
    have h2 := gap_cn hk hs a (by omega)
    have h3 := h2.2.2 (by simpa only [gB, decide_eq_true_eq] using hg)
    exact ⟨a, by omega, hg, he, cn_same hb h3 (by rw [e, h2.1, he])⟩
  have done : ∀ i, i < 1000 → sgB (h.1 1) c i = true → cn (sgB (h.1 1) c) i = X → ∃ r, lpo (b_X7_gap_L69 h (nI X) y (nI i)) fuelN (nI i) = some r ∧ GapR (h.1 1) u m (nI X) y r := fun i hi hb e => by
    obtain ⟨a, ha, hg, he, rfl⟩ := found i hi hb e
    exact ⟨_, r_last hk hs ha (by simpa only [gB, decide_eq_true_eq] using hg) _ _, Or.inl ⟨a, ha, hg, by rw [he], rfl⟩⟩
  refine lpo_P (fun i z => z = (nI (X - cn (sgB (h.1 1) c) i), nI i) ∧ cn (sgB (h.1 1) c) i ≤ X) 1000 _ 0 (by omega) (by omega) ⟨rfl, Nat.zero_le X⟩ ?_ ?_
  · rintro i z hi ⟨rfl, hle⟩
    have hcond : ¬ (1000 : Int32) ≤ nI i := by rw [show (1000 : Int32) = nI 1000 from rfl, nI_leI (by omega) (by omega)]; omega
    have hci := cn_le (sgB (h.1 1) c) i
    have go : sgB (h.1 1) c i = true → cn (sgB (h.1 1) c) i ≠ X → ¬ nI (X - cn (sgB (h.1 1) c) i) = 0 ∧ cn (sgB (h.1 1) c) (i + 1) ≤ X ∧ nI (X - cn (sgB (h.1 1) c) i) + (-1) = nI (X - cn (sgB (h.1 1) c) (i + 1)) := fun hb e => by
      refine ⟨nI_ne0 (by omega) (by omega), by rw [cn_s hb]; omega, ?_⟩
      rw [cn_s hb, show X - cn (sgB (h.1 1) c) i = (X - (cn (sgB (h.1 1) c) i + 1)) + 1 by omega, pk_m1]
    rcases r_own hk i with ⟨f1, o1⟩ | ⟨f1, q, -, o1, nq⟩
    · by_cases e : i = 0
      · subst e
        have hb : sgB (h.1 1) c 0 = true := by unfold sgB; rw [f1, decide_eq_true rfl]; rfl
        by_cases eX : cn (sgB (h.1 1) c) 0 = X
        · left
          intro k
          obtain ⟨r, h1, h2⟩ := done 0 hi hb eX
          refine ⟨r, ?_, h2⟩
          simp only [b_X7_gap_L22, m_X7_gap_L22]
          rw [if_neg hcond, bnd_e o1, if_pos rfl, if_pos (show nI 0 = 0 from rfl), if_pos (by rw [eX, Nat.sub_self]; rfl)]
          exact h1
        · right
          obtain ⟨g1, g2, g3⟩ := go hb eX
          refine ⟨_, ⟨rfl, g2⟩, fun k => ?_⟩
          simp only [b_X7_gap_L22, m_X7_gap_L22]
          rw [if_neg hcond, bnd_e o1, if_pos rfl, if_pos (show nI 0 = 0 from rfl), if_neg g1, g3, nI_1]
      · have e0 : ¬ nI i = 0 := nI_ne0 (by omega) (by omega)
        have ei : nI i - (1 : Int32) = nI (i - 1) := by
          obtain ⟨b, rfl⟩ : ∃ b, i = b + 1 := ⟨i - 1, by omega⟩
          rw [nI_pred, Nat.add_sub_cancel]
        rcases r_own hk (i - 1) with ⟨f2, o2⟩ | ⟨f2, q, -, o2, nq⟩
        · have hb : sgB (h.1 1) c i = false := by unfold sgB; rw [f1, f2, decide_eq_false e]; rfl
          right
          refine ⟨_, ⟨rfl, by rw [cn_n hb]; exact hle⟩, fun k => ?_⟩
          simp only [b_X7_gap_L22, m_X7_gap_L22]
          rw [if_neg hcond, bnd_e o1, if_pos rfl, if_neg e0, ei, bnd_e o2, if_pos rfl, cn_n hb, nI_1]
        · have hb : sgB (h.1 1) c i = true := by unfold sgB; rw [f1, f2]; simp only [Bool.not_false, Bool.or_true, Bool.and_self]
          by_cases eX : cn (sgB (h.1 1) c) i = X
          · left
            intro k
            obtain ⟨r, h1, h2⟩ := done i hi hb eX
            refine ⟨r, ?_, h2⟩
            simp only [b_X7_gap_L22, m_X7_gap_L22]
            rw [if_neg hcond, bnd_e o1, if_pos rfl, if_neg e0, ei, bnd_e o2, if_neg nq, if_pos (by rw [eX, Nat.sub_self]; rfl), gap_same]
            exact h1
          · right
            obtain ⟨g1, g2, g3⟩ := go hb eX
            refine ⟨_, ⟨rfl, g2⟩, fun k => ?_⟩
            simp only [b_X7_gap_L22, m_X7_gap_L22]
            rw [if_neg hcond, bnd_e o1, if_pos rfl, if_neg e0, ei, bnd_e o2, if_neg nq, if_neg g1, g3, nI_1]
    · have hb : sgB (h.1 1) c i = false := by unfold sgB; rw [f1, Bool.false_and]
      right
      refine ⟨_, ⟨rfl, by rw [cn_n hb]; exact hle⟩, fun k => ?_⟩
      simp only [b_X7_gap_L22, m_X7_gap_L22]
      rw [if_neg hcond, bnd_e o1, if_neg nq, cn_n hb, nI_1]
  · rintro z ⟨rfl, hle⟩ k
    refine ⟨-1005, ?_, Or.inr ⟨fun a ha hg e => ?_, rfl⟩⟩
    · simp only [b_X7_gap_L22, m_X7_gap_L22]
      rw [if_pos (show (1000 : Int32) ≤ nI 1000 by decide)]
    · have h1 := cn_lt (p := gB (h.1 1) u m) (i := a) (j := m + 1) (by omega) hg
      have h2 := cn_le (gB (h.1 1) u m) a
      rw [gap_all hk hs] at hle
      have := (nI_eq hX (by omega)).mp e
      omega
theorem p_gap (hT : TB g 0 (h.1 1) n c m u) (x y : Int32) : ∃ r, m_X6_gap g x y = some r ∧ m_X7_gap h x y = some r := by
  have hm := hT.m12
  have ne : ¬ (1 : Int32) = 0 := by decide
  unfold m_X6_gap m_X7_gap
  by_cases h0 : x < 0
  · rw [if_pos h0, if_pos h0]
    exact ⟨_, rfl, rfl⟩
  · rw [if_neg h0, if_neg h0]
    by_cases h1 : y < 0
    · have h1' : y.toInt < 0 := Int32.lt_iff_toInt_lt.mp h1
      rw [if_pos h1, bnd_e (r_in0 (by show ¬ ((0 : Int) ≤ y.toInt ∧ y.toInt ≤ (1 : Int)); omega)), if_pos rfl]
      exact ⟨_, rfl, rfl⟩
    · have h1' : 0 ≤ y.toInt := Int32.le_iff_toInt_le.mp (Int32.not_lt.mp h1)
      rw [if_neg h1]
      by_cases h2 : y ≤ 1
      · have h2' : y.toInt ≤ 1 := Int32.le_iff_toInt_le.mp h2
        rw [if_pos h2, bnd_e (r_in1 (by show ((0 : Int) ≤ y.toInt ∧ y.toInt ≤ (1 : Int)); omega)), if_neg ne]
        obtain ⟨X, hX, rfl⟩ := nI_of h0
        obtain ⟨r', h3, h4⟩ := r_gapLoop hT.1 hT.2.1 hX y
        obtain ⟨r, h5, h6⟩ := c_gapRanked hT (nI X)
        rw [bnd_e h5, h3]
        rcases h6 with ⟨a, ha, hg, hx, rfl⟩ | ⟨hno, rfl⟩
        · have hval : GapR (h.1 1) u m (nI X) y (if y = 0 then nI (glN (h.1 1) u a) else nI (ghN (h.1 1) u m a - 1)) := Or.inl ⟨a, by omega, hg, hx, rfl⟩
          rw [gapR_u hm h4 hval, if_neg (nI_ne_m (by omega) (by decide))]
          by_cases hy : y = 0
          · rw [if_pos hy, if_pos hy, bnd_e (c_gapLow hT (by omega)), gl_eq hT.1 hT.2.1 (by omega)]
            exact ⟨_, rfl, rfl⟩
          · have hgt : glN (h.1 1) u a < ghN (h.1 1) u m a := by simpa only [gB, decide_eq_true_eq] using hg
            have hp : nI (ghN (h.1 1) u m a) - (1 : Int32) = nI (ghN (h.1 1) u m a - 1) := by
              obtain ⟨b, hb⟩ : ∃ b, ghN (h.1 1) u m a = b + 1 := ⟨ghN (h.1 1) u m a - 1, by omega⟩
              rw [hb, nI_pred, Nat.add_sub_cancel]
            rw [if_neg hy, if_neg hy, bnd_e (c_gapHigh hT (by omega)), gh_eq hT.1 hT.2.1 (by omega), hp]
            exact ⟨_, rfl, rfl⟩
        · rw [if_pos rfl, gapR_u hm h4 (Or.inr ⟨fun a ha hg => hno a (by omega) hg, rfl⟩)]
          exact ⟨_, rfl, rfl⟩
      · have h2' : 1 < y.toInt := Int32.lt_iff_toInt_lt.mp (Int32.not_le.mp h2)
        rw [if_neg h2, bnd_e (r_in0 (by show ¬ ((0 : Int) ≤ y.toInt ∧ y.toInt ≤ (1 : Int)); omega)), if_pos rfl]
        exact ⟨_, rfl, rfl⟩
end
