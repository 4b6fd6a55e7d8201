/-! slice on the reference's side, and both -/
section
variable {N : Nat → Int32} {p : Int32} {i : Nat} {l : Int32}
theorem le_out (h : LeR N p i l) (hn : ¬ N (805 + i) = p) : LeR N p (i + 1) l := by
  rcases h with ⟨hno, rfl⟩ | ⟨a, ha, hp, rfl, hl⟩
  · exact Or.inl ⟨lt_up hno hn, rfl⟩
  · exact Or.inr ⟨a, by omega, hp, rfl, lt_up hl (fun q => absurd q hn)⟩
theorem gx_out (h : GrR N p i l) (hn : ¬ N (805 + i) = p) : GrR N p (i + 1) l := by
  rcases h with ⟨hno, rfl⟩ | ⟨a, ha, hp, rfl, hl⟩
  · exact Or.inl ⟨lt_up hno hn, rfl⟩
  · exact Or.inr ⟨a, by omega, hp, rfl, lt_up hl (fun q => absurd q hn)⟩
theorem le_new (h : LeR N p i l) (hp : N (805 + i) = p) (hk : l = -1005 ∨ ¬ l ≤ N (5 + i)) (h0 : ∀ j, j < i → 0 ≤ (N (5 + j)).toInt) : LeR N p (i + 1) (N (5 + i)) := by
  refine Or.inr ⟨i, Nat.lt_succ_self i, hp, rfl, ?_⟩
  rcases h with ⟨hno, rfl⟩ | ⟨a, ha, hpa, rfl, hl⟩
  · exact lt_up (fun j hj q => absurd q (hno j hj)) (fun _ => Int.le_refl _)
  · have hk' : (N (5 + i)).toInt ≤ (N (5 + a)).toInt := by
      rcases hk with hk | hk
      · have h1 := h0 a ha
        rw [hk] at h1
        exact absurd h1 (by decide)
      · have := Int32.lt_iff_toInt_lt.mp (Int32.not_le.mp hk)
        omega
    exact lt_up (fun j hj q => Int.le_trans hk' (hl j hj q)) (fun _ => Int.le_refl _)
theorem le_old (h : LeR N p i l) (hk : ¬ l = -1005) (hk2 : l ≤ N (5 + i)) : LeR N p (i + 1) l := by
  rcases h with ⟨hno, rfl⟩ | ⟨a, ha, hpa, rfl, hl⟩
  · exact absurd rfl hk
  · exact Or.inr ⟨a, by omega, hpa, rfl, lt_up hl (fun _ => Int32.le_iff_toInt_le.mp hk2)⟩
theorem gx_new (h : GrR N p i l) (hp : N (805 + i) = p) (hk : ¬ N (5 + i) ≤ l) : GrR N p (i + 1) (N (5 + i)) := by
  refine Or.inr ⟨i, Nat.lt_succ_self i, hp, rfl, ?_⟩
  rcases h with ⟨hno, rfl⟩ | ⟨a, ha, hpa, rfl, hl⟩
  · exact lt_up (fun j hj q => absurd q (hno j hj)) (fun _ => Int.le_refl _)
  · have hk' := Int32.lt_iff_toInt_lt.mp (Int32.not_le.mp hk)
    exact lt_up (fun j hj q => by have := hl j hj q; omega) (fun _ => Int.le_refl _)
theorem gx_old (h : GrR N p i l) (h0 : 0 ≤ (N (5 + i)).toInt) (hk : N (5 + i) ≤ l) : GrR N p (i + 1) l := by
  have hk' := Int32.le_iff_toInt_le.mp hk
  rcases h with ⟨hno, rfl⟩ | ⟨a, ha, hpa, rfl, hl⟩
  · exfalso
    have : ((-1005 : Int32)).toInt = -1005 := by decide
    omega
  · exact Or.inr ⟨a, by omega, hpa, rfl, lt_up hl (fun _ => hk')⟩
end
section
variable {g h : MG} {n c m : Nat} {u : Nat → Nat}
theorem r_slice (hk : OkN (h.1 1) n c) (p x : Int32) : ∃ r, lpo (b_X7_slice_L85 h p x) fuelN (0, -1005, -1005, 0, 0, 0) = some r ∧ ∃ l gr, LeR (h.1 1) p n l ∧ GrR (h.1 1) p n gr ∧ r = if x = 2 then nI (cn (RP (h.1 1) p) n) else if x = 3 then l else if x = 4 then gr else if x = 5 then smI (RP (h.1 1) p) (fun i => h.1 1 (405 + i)) n else nI (cn (spB (h.1 1) c p) n) := by
  have hn := hk.1.2.1
  have ne : ¬ (1 : Int32) = 0 := by decide
  have hkey := hk.2.2.1
  refine lpo_P (fun i y => ∃ l gr, y = (nI (cn (RP (h.1 1) p) i), l, gr, smI (RP (h.1 1) p) (fun i => h.1 1 (405 + i)) i, nI (cn (spB (h.1 1) c p) i), nI i) ∧ LeR (h.1 1) p i l ∧ GrR (h.1 1) p i gr) n _ 0 (Nat.zero_le n) (by omega) ⟨-1005, -1005, rfl, Or.inl ⟨fun i hi => absurd hi (Nat.not_lt_zero i), rfl⟩, Or.inl ⟨fun i hi => absurd hi (Nat.not_lt_zero i), rfl⟩⟩ ?_ ?_
  · rintro i y hi ⟨l, gr, rfl, hl, hg⟩
    have hcond : ¬ h.1 1 0 ≤ nI i := by rw [hk.1.1, nI_leI (by omega) (by omega)]; omega
    have hi4 : i < 400 := by omega
    right
    by_cases h1 : h.1 1 (805 + i) = p
    · have hrp := rp_iff.mpr h1
      -- the tail behind the two keys
      have tail : ∀ (k : (Int32 × Int32 × Int32 × Int32 × Int32 × Int32) → Option Int32) (l' gr' : Int32), m_X7_slice_J163 k p x h (nI (cn (RP (h.1 1) p) i) + 1) l' (smI (RP (h.1 1) p) (fun i => h.1 1 (405 + i)) i) (nI (cn (spB (h.1 1) c p) i)) (nI i) gr' = k (nI (cn (RP (h.1 1) p) (i + 1)), l', gr', smI (RP (h.1 1) p) (fun i => h.1 1 (405 + i)) (i + 1), nI (cn (spB (h.1 1) c p) (i + 1)), nI (i + 1)) := fun k l' gr' => by
        unfold m_X7_slice_J163
        rw [if_pos (v405 hi4), a405 hi4, bnd_e (r_stray hk hi)]
        cases hb : stB (h.1 1) c i with
        | true => rw [if_pos rfl, if_neg ne, cn_s hrp, cn_s (p := spB (h.1 1) c p) (by simp only [spB, hrp, hb, Bool.and_self]), sm_s hrp, nI_1, nI_1, nI_1]
        | false => rw [if_neg Bool.false_ne_true, if_pos rfl, cn_s hrp, cn_n (p := spB (h.1 1) c p) (by simp only [spB, hb, Bool.and_false]), sm_s hrp, nI_1, nI_1, nI_z]
      have mid : ∀ (k : (Int32 × Int32 × Int32 × Int32 × Int32 × Int32) → Option Int32) (l' : Int32), m_X7_slice_J147 k p x h (nI (cn (RP (h.1 1) p) i) + 1) gr (smI (RP (h.1 1) p) (fun i => h.1 1 (405 + i)) i) (nI (cn (spB (h.1 1) c p) i)) (nI i) (h.1 1 (5 + i)) l' = k (nI (cn (RP (h.1 1) p) (i + 1)), l', (if h.1 1 (5 + i) ≤ gr then gr else h.1 1 (5 + i)), smI (RP (h.1 1) p) (fun i => h.1 1 (405 + i)) (i + 1), nI (cn (spB (h.1 1) c p) (i + 1)), nI (i + 1)) := fun k l' => by
        unfold m_X7_slice_J147
        by_cases hc : h.1 1 (5 + i) ≤ gr
        · rw [if_pos hc, if_pos hc, tail]
        · rw [if_neg hc, if_neg hc, tail]
      have hg' : GrR (h.1 1) p (i + 1) (if h.1 1 (5 + i) ≤ gr then gr else h.1 1 (5 + i)) := by
        by_cases hc : h.1 1 (5 + i) ≤ gr
        · rw [if_pos hc]; exact gx_old hg (hkey i hi).1.1 hc
        · rw [if_neg hc]; exact gx_new hg h1 hc
      by_cases h2 : l = -1005
      · refine ⟨_, ⟨_, _, rfl, le_new hl h1 (Or.inl h2) (fun j hj => (hkey j (by omega)).1.1), hg'⟩, fun k => ?_⟩
        simp only [b_X7_slice_L85, m_X7_slice_L85]
        rw [if_pos vk0, ak0, if_neg hcond, if_pos (v805 hi4), a805 hi4, if_pos h1, if_pos (v5 hi4), a5 hi4, if_pos h2, mid]
      · by_cases h3 : l ≤ h.1 1 (5 + i)
        · refine ⟨_, ⟨_, _, rfl, le_old hl h2 h3, hg'⟩, fun k => ?_⟩
          simp only [b_X7_slice_L85, m_X7_slice_L85]
          rw [if_pos vk0, ak0, if_neg hcond, if_pos (v805 hi4), a805 hi4, if_pos h1, if_pos (v5 hi4), if_neg h2, if_pos (by rw [a5 hi4]; exact h3), a5 hi4, mid]
        · refine ⟨_, ⟨_, _, rfl, le_new hl h1 (Or.inr h3) (fun j hj => (hkey j (by omega)).1.1), hg'⟩, fun k => ?_⟩
          simp only [b_X7_slice_L85, m_X7_slice_L85]
          rw [if_pos vk0, ak0, if_neg hcond, if_pos (v805 hi4), a805 hi4, if_pos h1, if_pos (v5 hi4), if_neg h2, if_neg (by rw [a5 hi4]; exact h3), a5 hi4, mid]
    · have hr : RP (h.1 1) p i = false := by rw [Bool.eq_false_iff]; exact fun q => h1 (rp_iff.mp q)
      refine ⟨_, ⟨_, _, rfl, le_out hl h1, gx_out hg h1⟩, fun k => ?_⟩
      simp only [b_X7_slice_L85, m_X7_slice_L85]
      rw [if_pos vk0, ak0, if_neg hcond, if_pos (v805 hi4), a805 hi4, if_neg h1, cn_n hr, cn_n (p := spB (h.1 1) c p) (by simp only [spB, hr, Bool.false_and]), sm_n hr, nI_1]
  · rintro y ⟨l, gr, rfl, hl, hg⟩ k
    refine ⟨_, ?_, l, gr, hl, hg, rfl⟩
    simp only [b_X7_slice_L85, m_X7_slice_L85]
    rw [if_pos vk0, ak0, hk.1.1, if_pos (nI_le (Nat.le_refl n) (by omega))]
    split
    · rfl
    · split
      · rfl
      · split
        · rfl
        · split <;> rfl
theorem p_slice (hT : TB g 0 (h.1 1) n c m u) (x y : Int32) : ∃ r, m_X6_slice g x y = some r ∧ m_X7_slice h x y = some r := by
  have hn := hT.n4
  have hm := hT.m12
  have hc := hT.c6
  have ne : ¬ (1 : Int32) = 0 := by decide
  unfold m_X6_slice m_X7_slice
  rcases p_isPlace hT x with ⟨h1, h2, hpl⟩ | ⟨h1, h2⟩
  · rw [bnd_e h1, bnd_e h2, if_neg ne, if_neg ne]
    obtain ⟨l1, e1, e2⟩ := c_least hT x
    obtain ⟨g1, e3, e4⟩ := c_greatest hT x
    obtain ⟨r, hr, l, gr, hl, hg, hrr⟩ := r_slice hT.1 x y
    have hpos : ∃ r20, m_X4_positionOf g 0 x = some r20 ∧ ((x = 60 ∨ x = 61) ∧ r20 = -1005 ∨ ∃ j, j < m ∧ x = nI (u j) ∧ r20 = nI j) := by
      rcases hpl with hx | hx | ⟨j, hj, hx⟩
      · exact ⟨_, c_pos_no hT (fun q hq _ e => by
          rw [hx] at e
          have := nI_toInt (n := q) (by omega)
          rw [← e] at this
          have h60 : ((60 : Int32)).toInt = 60 := by decide
          omega), Or.inl ⟨Or.inl hx, rfl⟩⟩
      · exact ⟨_, c_pos_no hT (fun q hq _ e => by
          rw [hx] at e
          have := nI_toInt (n := q) (by omega)
          rw [← e] at this
          have h61 : ((61 : Int32)).toInt = 61 := by decide
          omega), Or.inl ⟨Or.inr hx, rfl⟩⟩
      · subst hx
        exact ⟨_, c_pos hT hj, Or.inr ⟨j, hj, rfl, rfl⟩⟩
    obtain ⟨r20, hp1, hp2⟩ := hpos
    rw [bnd_e hp1]
    by_cases hin : 0 ≤ y.toInt ∧ y.toInt ≤ 6
    · rw [bnd_e (r_in1 (by show (0 : Int) ≤ y.toInt ∧ y.toInt ≤ (6 : Int); exact hin)), if_neg ne]
      by_cases hlow : (2 : Int32) ≤ y
      · have hy2 : 2 ≤ y.toInt := Int32.le_iff_toInt_le.mp hlow
        have n0 : ¬ y = 0 := fun e => by rw [e] at hy2; exact absurd hy2 (by decide)
        have n1 : ¬ y = 1 := fun e => by rw [e] at hy2; exact absurd hy2 (by decide)
        rw [if_pos hlow, hr, hrr, if_neg n0, if_neg n1]
        by_cases y2 : y = 2
        · rw [if_pos y2, if_pos y2, bnd_e (c_amount hT x)]
          exact ⟨_, rfl, rfl⟩
        rw [if_neg y2, if_neg y2]
        by_cases y3 : y = 3
        · rw [if_pos y3, if_pos y3, bnd_e e1, le_u e2 hl]
          exact ⟨_, rfl, rfl⟩
        rw [if_neg y3, if_neg y3]
        by_cases y4 : y = 4
        · rw [if_pos y4, if_pos y4, bnd_e (c_amount hT x), bnd_e e3, gr_u e4 hg]
          exact ⟨_, rfl, rfl⟩
        rw [if_neg y4, if_neg y4]
        by_cases y5 : y = 5
        · rw [if_pos y5, if_pos y5, bnd_e (c_sumAt hT x)]
          exact ⟨_, rfl, rfl⟩
        rw [if_neg y5, if_neg y5]
        have y6 : y = 6 := by
          have q2 : ¬ y.toInt = 2 := fun e => y2 (Int32.toInt_inj.mp e)
          have q3 : ¬ y.toInt = 3 := fun e => y3 (Int32.toInt_inj.mp e)
          have q4 : ¬ y.toInt = 4 := fun e => y4 (Int32.toInt_inj.mp e)
          have q5 : ¬ y.toInt = 5 := fun e => y5 (Int32.toInt_inj.mp e)
          exact Int32.toInt_inj.mp (show y.toInt = 6 by omega)
        rw [if_pos y6, bnd_e (c_straysAt hT x)]
        exact ⟨_, rfl, rfl⟩
      · have hy2 : y.toInt < 2 := Int32.lt_iff_toInt_lt.mp (Int32.not_le.mp hlow)
        rw [if_neg hlow]
        have hy : y = 0 ∨ y = 1 := by
          rcases (show y.toInt = 0 ∨ y.toInt = 1 by omega) with e | e
          · exact Or.inl (Int32.toInt_inj.mp e)
          · exact Or.inr (Int32.toInt_inj.mp e)
        rcases hp2 with ⟨hx, rfl⟩ | ⟨j, hj, rfl, rfl⟩
        · have hx60 : ¬ x < 60 := by
            rcases hx with rfl | rfl <;> decide
          rw [if_neg hx60]
          rcases hy with rfl | rfl
          · rw [if_pos rfl, if_pos rfl]
            exact ⟨_, rfl, rfl⟩
          · rw [if_neg (by decide), if_pos rfl, if_pos rfl]
            exact ⟨_, rfl, rfl⟩
        · obtain ⟨h3, h4⟩ := hT.2.1.2.1 j hj
          have hx60 : nI (u j) < 60 := Int32.lt_iff_toInt_lt.mpr (by
            rw [nI_toInt (by omega)]
            show ((u j : Int)) < 60
            omega)
          have nj : ¬ nI j = -1005 := nI_ne_m (by omega) (by decide)
          rw [if_pos hx60, if_neg nj, if_neg nj]
          rcases hy with rfl | rfl
          · rw [if_pos rfl, if_pos rfl, bnd_e (c_low hT hj), if_pos (v1265 (by omega)), a1265 (by omega)]
            exact ⟨_, rfl, rfl⟩
          · rw [if_neg (by decide), if_pos rfl, bnd_e (c_high hT hj), if_neg (by decide), if_pos (v1325 (by omega)), a1325 (by omega)]
            exact ⟨_, rfl, rfl⟩
    · rw [bnd_e (r_in0 (by show ¬ ((0 : Int) ≤ y.toInt ∧ y.toInt ≤ (6 : Int)); exact hin)), if_pos rfl]
      have nk : ∀ k : Int32, 0 ≤ k.toInt ∧ k.toInt ≤ 6 → ¬ y = k := fun k hk e => hin (e ▸ hk)
      rw [if_neg (nk 0 (by decide)), if_neg (nk 1 (by decide)), if_neg (nk 2 (by decide)), if_neg (nk 3 (by decide)), if_neg (nk 4 (by decide)), if_neg (nk 5 (by decide)), if_neg (nk 6 (by decide))]
      exact ⟨_, rfl, rfl⟩
  · rw [bnd_e h1, bnd_e h2, if_pos rfl, if_pos rfl]
    exact ⟨_, rfl, rfl⟩
end
