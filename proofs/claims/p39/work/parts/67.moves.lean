/-! rows are moved from place to place -/
def PlOk (N : Nat → Int32) (c : Nat) (p : Int32) : Prop := p = -1 ∨ p = 60 ∨ p = 61 ∨ ∃ q, q < c ∧ p = nI q ∧ N (1205 + q) = 1
theorem st_rp (N : Nat → Int32) (n : Nat) : cn (fun i => N (805 + i) == 61) n = cn (RP N 61) n := cn_congr (fun i _ => by
  rw [Bool.eq_iff_iff]
  simp only [beq_iff_eq, RP, decide_eq_true_eq])
theorem OkN.stage {N : Nat → Int32} {n c : Nat} (hk : OkN N n c) : cn (RP N 61) n ≤ 20 := by
  rw [← st_rp]
  exact hk.2.2.2.2.2
theorem OkN.pl {N : Nat → Int32} {n c : Nat} (hk : OkN N n c) {i : Nat} (hi : i < n) : PlOk N c (N (805 + i)) := (hk.2.2.1 i hi).2.2
section
variable {g g' : MG} {t : Nat} {N N' : Nat → Int32} {n c m : Nat} {u : Nat → Nat}
theorem mv_TB (hT : TB g t N n c m u) (hg : ∀ k, 20 + 15 * t ≤ k → k < 35 + 15 * t → k ≠ 28 + 15 * t → g'.1 k = g.1 k) (h28 : ∀ i, i < n → g'.1 (28 + 15 * t) i = N' (805 + i)) (hN : ∀ i, i < 805 ∨ 805 + n ≤ i → N' i = N i) (hp : ∀ i, i < n → PlOk N c (N' (805 + i))) (hst : cn (RP N' 61) n ≤ 20) : TB g' t N' n c m u := by
  have hn := hT.n4
  obtain ⟨⟨⟨a1, a2, a3, a4⟩, b, d, e, f, -⟩, ⟨s1, s2, s3, s4⟩, h1, h2, h3⟩ := hT
  have z0 := hN 0 (by omega)
  have z1 := hN 1 (by omega)
  have z2 := hN 2 (by omega)
  have z3 := hN 3 (by omega)
  have z4 := hN 4 (by omega)
  refine ⟨⟨⟨by rw [z0]; exact a1, a2, by rw [z1]; exact a3, a4⟩, by rw [z2, z3, z4]; exact b, fun i hi => ?_, fun q hq => ?_, fun q r hq hr => ?_, by rw [st_rp]; exact hst⟩, ⟨s1, fun j hj => ?_, fun q hq => ?_, fun i j hij hj => ?_⟩, ?_, fun i hi => ?_, fun j hj => ?_⟩
  · obtain ⟨d1, d2, -⟩ := d i hi
    rw [hN (5 + i) (by omega), hN (405 + i) (by omega)]
    refine ⟨d1, d2, ?_⟩
    rcases hp i hi with z | z | z | ⟨q, hq, y1, y2⟩
    · exact Or.inl z
    · exact Or.inr (Or.inl z)
    · exact Or.inr (Or.inr (Or.inl z))
    · exact Or.inr (Or.inr (Or.inr ⟨q, hq, y1, by rw [hN (1205 + q) (by omega)]; exact y2⟩))
  · rw [hN (1205 + q) (by omega), hN (1265 + q) (by omega), hN (1325 + q) (by omega)]; exact e q hq
  · rw [hN (1205 + q) (by omega), hN (1265 + q) (by omega), hN (1325 + q) (by omega), hN (1205 + r) (by omega), hN (1265 + r) (by omega), hN (1325 + r) (by omega)]; exact f q r hq hr
  · rw [hN (1205 + u j) (by omega)]; exact s2 j hj
  · rw [hN (1205 + q) (by omega)]; exact s3 q hq
  · rw [hN (1325 + u i) (by omega), hN (1265 + u j) (by omega)]; exact s4 i j hij hj
  · rw [hg (21 + 15 * t) (by omega) (by omega) (by omega), hg (22 + 15 * t) (by omega) (by omega) (by omega), hg (20 + 15 * t) (by omega) (by omega) (by omega), z0, z1, z2, z3, z4]
    exact h1
  · rw [hg (24 + 15 * t) (by omega) (by omega) (by omega), hg (26 + 15 * t) (by omega) (by omega) (by omega), h28 i hi, hN (5 + i) (by omega), hN (405 + i) (by omega)]
    exact ⟨(h2 i hi).1, (h2 i hi).2.1, rfl⟩
  · rw [hg (30 + 15 * t) (by omega) (by omega) (by omega), hg (32 + 15 * t) (by omega) (by omega) (by omega), hg (34 + 15 * t) (by omega) (by omega) (by omega), hN (1265 + u j) (by omega), hN (1325 + u j) (by omega)]
    exact h3 j hj
/-- raw reads of rows -/
theorem w_place {G : MG} (h1 : G.1 (21 + 15 * t) 3 = nI n) (hn : n ≤ 400) {i : Nat} (hi : i < n) : m_X3_placeOf G t (nI i) = some (G.1 (28 + 15 * t) i) := by
  unfold m_X3_placeOf
  rw [if_neg (nI_pos (by omega)), if_neg (by rw [h1, nI_leI (by omega) (by omega)]; omega), bnd_e (e_at (by omega) (by omega))]
theorem w_key {G : MG} {i : Nat} (hi : i < 400) : m_X3_keyOf G t (nI i) = some (G.1 (24 + 15 * t) i) := by
  unfold m_X3_keyOf
  rw [bnd_e (e_at (by omega) (by omega))]
theorem w_move {G : MG} {i : Nat} (hi : i < 400) (q : Int32) : m_X3_move G t (nI i) q = some (g_w G (28 + 15 * t) i q) := by
  unfold m_X3_move
  rw [bnd_e (e_wr (by omega) (by omega))]
theorem w_lies {G : MG} (h1 : G.1 (21 + 15 * t) 3 = nI n) (hn : n ≤ 400) {i : Nat} (hi : i < n) {p lo hh : Int32} : m_X3_liesWithKey G t (nI i) p lo hh = some (if G.1 (28 + 15 * t) i = p ∧ lo.toInt ≤ (G.1 (24 + 15 * t) i).toInt ∧ (G.1 (24 + 15 * t) i).toInt < hh.toInt then 1 else 0) := by
  unfold m_X3_liesWithKey
  rw [bnd_e (w_place h1 hn hi)]
  by_cases e1 : G.1 (28 + 15 * t) i = p
  · rw [if_pos e1, bnd_e (w_key (by omega))]
    by_cases e2 : G.1 (24 + 15 * t) i < lo
    · rw [if_pos e2, if_neg]
      have := Int32.lt_iff_toInt_lt.mp e2
      omega
    · rw [if_neg e2, bnd_e (w_key (by omega))]
      have e2' := Int32.le_iff_toInt_le.mp (Int32.not_lt.mp e2)
      by_cases e3 : hh ≤ G.1 (24 + 15 * t) i
      · rw [if_pos e3, if_neg]
        have := Int32.le_iff_toInt_le.mp e3
        omega
      · rw [if_neg e3, if_pos]
        have := Int32.lt_iff_toInt_lt.mp (Int32.not_le.mp e3)
        exact ⟨e1, e2', this⟩
  · rw [if_neg e1, if_neg]
    exact fun h => e1 h.1
theorem rb_iff {p lo hh : Int32} {i : Nat} : RB N p lo hh i = true ↔ N (805 + i) = p ∧ lo.toInt ≤ (N (5 + i)).toInt ∧ (N (5 + i)).toInt < hh.toInt := by
  simp only [RB, Bool.and_eq_true, decide_eq_true_eq]
theorem c_moveKeys (hT : TB g t N n c m u) (p q lo hh : Int32) : ∃ G, m_X3_moveKeys g t p q lo hh = some G ∧ G.2 = g.2 ∧ (∀ k, k ≠ 28 + 15 * t → G.1 k = g.1 k) ∧ ∀ i, i < n → G.1 (28 + 15 * t) i = if RB N p lo hh i = true then q else N (805 + i) := by
  have hn := hT.n4
  unfold m_X3_moveKeys
  refine lpo_P (fun i z => ∃ G : MG, z = (nI i, G) ∧ G.2 = g.2 ∧ (∀ k, k ≠ 28 + 15 * t → G.1 k = g.1 k) ∧ (∀ j, j < i → G.1 (28 + 15 * t) j = if RB N p lo hh j = true then q else N (805 + j)) ∧ ∀ j, i ≤ j → j < n → G.1 (28 + 15 * t) j = N (805 + j)) n _ 0 (by omega) (by omega) ⟨g, rfl, rfl, fun k _ => rfl, fun j hj => absurd hj (Nat.not_lt_zero j), fun j _ hj => (hT.2.2.2.1 j hj).2.2⟩ ?_ ?_
  · rintro i z hi ⟨G, rfl, b1, b2, b3, b4⟩
    have hc : G.1 (21 + 15 * t) 3 = nI n := by rw [b2 _ (by omega)]; exact hT.came
    have hl := w_lies (t := t) hc hn hi (p := p) (lo := lo) (hh := hh)
    rw [b4 i (Nat.le_refl i) hi, b2 (24 + 15 * t) (by omega), (hT.2.2.2.1 i hi).1] at hl
    right
    by_cases e : RB N p lo hh i = true
    · refine ⟨(nI (i + 1), g_w G (28 + 15 * t) i q), ⟨_, rfl, by rw [gw_2, b1], fun k hk => by rw [gw_ne hk, b2 k hk], lt_up (fun j hj => by rw [gw_at, if_neg (by omega), b3 j hj]) (by rw [gw_at, if_pos rfl, if_pos e]), fun j h1 h2 => by rw [gw_at, if_neg (by omega), b4 j (by omega) h2]⟩, fun kk => ?_⟩
      simp only [b_X3_moveKeys_L3, m_X3_moveKeys_L3]
      rw [hc, if_neg (by rw [nI_leI (by omega) (by omega)]; omega), bnd_e hl, if_pos (rb_iff.mp e), if_neg (by decide), bnd_e (w_move (by omega) q), nI_1]
    · refine ⟨(nI (i + 1), G), ⟨_, rfl, b1, b2, lt_up b3 (by rw [b4 i (Nat.le_refl i) hi, if_neg e]), fun j h1 h2 => b4 j (by omega) h2⟩, fun kk => ?_⟩
      simp only [b_X3_moveKeys_L3, m_X3_moveKeys_L3]
      rw [hc, if_neg (by rw [nI_leI (by omega) (by omega)]; omega), bnd_e hl, if_neg (fun w => e (rb_iff.mpr w)), if_pos rfl, nI_1]
  · rintro z ⟨G, rfl, b1, b2, b3, b4⟩ kk
    refine ⟨G, ?_, b1, b2, b3⟩
    simp only [b_X3_moveKeys_L3, m_X3_moveKeys_L3]
    rw [b2 _ (by omega), hT.came, if_pos (nI_le (Nat.le_refl n) (by omega))]
end
section
variable {g h : MG} {n c m : Nat} {u : Nat → Nat}
theorem r_moveBetween (hk : OkN (h.1 1) n c) (p q lo hh : Int32) (hhi : -2147483648 < hh.toInt) : ∃ H, m_X7_moveBetween h p q lo hh = some H ∧ (∀ k, k ≠ 1 → H.1 k = h.1 k) ∧ (∀ i, i < 805 ∨ 805 + n ≤ i → H.1 1 i = h.1 1 i) ∧ ∀ i, i < n → H.1 1 (805 + i) = if RB (h.1 1) p lo hh i = true then q else h.1 1 (805 + i) := by
  have hn := hk.1.2.1
  have h1 : ((1 : Int32)).toInt = 1 := by decide
  have hs : (hh - (1 : Int32)).toInt = hh.toInt - 1 := by
    have := hh.toInt_lt
    rw [i_sub (by rw [h1]; omega) (by rw [h1]; omega), h1]
  unfold m_X7_moveBetween
  refine lpo_P (fun i z => ∃ H : MG, z = (nI i, H) ∧ (∀ k, k ≠ 1 → H.1 k = h.1 k) ∧ (∀ j, j < 805 ∨ 805 + i ≤ j → H.1 1 j = h.1 1 j) ∧ ∀ j, j < i → H.1 1 (805 + j) = if RB (h.1 1) p lo hh j = true then q else h.1 1 (805 + j)) n _ 0 (by omega) (by omega) ⟨h, rfl, fun k _ => rfl, fun j _ => rfl, fun j hj => absurd hj (Nat.not_lt_zero j)⟩ ?_ ?_
  · rintro i z hi ⟨H, rfl, b1, b2, b3⟩
    have hcond : ¬ H.1 1 (0 : Int32).toNatClampNeg ≤ nI i := by rw [ak0, b2 0 (by omega), hk.1.1, nI_leI (by omega) (by omega)]; omega
    have ea : ((805 : Int32) + nI i).toNatClampNeg = 805 + i := a805 (by omega)
    have eb : ((5 : Int32) + nI i).toNatClampNeg = 5 + i := a5 (by omega)
    have hpl : H.1 1 (805 + i) = h.1 1 (805 + i) := b2 _ (by omega)
    have hky : H.1 1 (5 + i) = h.1 1 (5 + i) := b2 _ (by omega)
    right
    by_cases e1 : h.1 1 (805 + i) = p
    · by_cases e2 : lo.toInt ≤ (h.1 1 (5 + i)).toInt ∧ (h.1 1 (5 + i)).toInt ≤ hh.toInt - 1
      · have hrb : RB (h.1 1) p lo hh i = true := rb_iff.mpr ⟨e1, e2.1, by omega⟩
        refine ⟨(nI (i + 1), g_w H 1 (805 + i) q), ⟨_, rfl, fun k hk => by rw [gw_ne hk, b1 k hk], fun j hj => by rw [gw_at, if_neg (by omega), b2 j (by omega)], lt_up (fun j hj => by rw [gw_at, if_neg (by omega), b3 j hj]) (by rw [gw_at, if_pos rfl, if_pos hrb])⟩, fun kk => ?_⟩
        simp only [b_X7_moveBetween_L3, m_X7_moveBetween_L3]
        rw [if_pos vk0, if_neg hcond, if_pos (v805 (by omega)), if_pos (by rw [ea, hpl]; exact e1), if_pos (v5 (by omega)), bnd_e (r_in1 (by rw [eb, hky, hs]; exact e2)), if_neg (by decide), if_pos (v805 (by omega)), ea, nI_1]
      · have hrb : ¬ RB (h.1 1) p lo hh i = true := fun w => e2 ⟨(rb_iff.mp w).2.1, by have := (rb_iff.mp w).2.2; omega⟩
        refine ⟨(nI (i + 1), H), ⟨_, rfl, b1, fun j hj => b2 j (by omega), lt_up b3 (by rw [hpl, if_neg hrb])⟩, fun kk => ?_⟩
        simp only [b_X7_moveBetween_L3, m_X7_moveBetween_L3]
        rw [if_pos vk0, if_neg hcond, if_pos (v805 (by omega)), if_pos (by rw [ea, hpl]; exact e1), if_pos (v5 (by omega)), bnd_e (r_in0 (by rw [eb, hky, hs]; exact e2)), if_pos rfl, nI_1]
    · have hrb : ¬ RB (h.1 1) p lo hh i = true := fun w => e1 (rb_iff.mp w).1
      refine ⟨(nI (i + 1), H), ⟨_, rfl, b1, fun j hj => b2 j (by omega), lt_up b3 (by rw [hpl, if_neg hrb])⟩, fun kk => ?_⟩
      simp only [b_X7_moveBetween_L3, m_X7_moveBetween_L3]
      rw [if_pos vk0, if_neg hcond, if_pos (v805 (by omega)), if_neg (by rw [ea, hpl]; exact e1), nI_1]
  · rintro z ⟨H, rfl, b1, b2, b3⟩ kk
    refine ⟨H, ?_, b1, b2, b3⟩
    simp only [b_X7_moveBetween_L3, m_X7_moveBetween_L3]
    rw [if_pos vk0, if_pos (by rw [ak0, b2 0 (by omega), hk.1.1]; exact nI_le (Nat.le_refl n) (by omega))]
/-- how many wait on the stage after a move -/
theorem st_move {N N' : Nat → Int32} {q : Int32} {f : Nat → Bool} (h : ∀ i, i < n → N' (805 + i) = if f i = true then q else N (805 + i)) (hq : q ≠ 61 ∨ cn (RP N 61) n + cn f n ≤ 20) (hs : cn (RP N 61) n ≤ 20) : cn (RP N' 61) n ≤ 20 := by
  rcases hq with hq | hq
  · refine Nat.le_trans (cn_mono (fun i hi hp => ?_)) hs
    have h1 := rp_iff.mp hp
    rw [h i hi] at h1
    by_cases e : f i = true
    · rw [if_pos e] at h1
      exact absurd h1 hq
    · rw [if_neg e] at h1
      exact rp_iff.mpr h1
  · have key : ∀ k, k ≤ n → cn (RP N' 61) k ≤ cn (RP N 61) k + cn f k := by
      intro k
      induction k with
      | zero => intro _; exact Nat.le_refl 0
      | succ k ih =>
        intro hk
        have := ih (by omega)
        have hk' := h k (by omega)
        cases hp : RP N' 61 k with
        | false =>
          rw [cn_n hp]
          simp only [cn]
          omega
        | true =>
          rw [cn_s hp]
          by_cases e : f k = true
          · rw [cn_s e]
            simp only [cn]
            omega
          · rw [if_neg e] at hk'
            have h1 : RP N 61 k = true := rp_iff.mpr (hk'.symm.trans (rp_iff.mp hp))
            rw [cn_s h1]
            simp only [cn]
            omega
    exact Nat.le_trans (key n (Nat.le_refl n)) hq
/-- both sides move the same rows -/
theorem mv_both (hT : TB g 0 (h.1 1) n c m u) (p q lo hh : Int32) (hhi : -2147483648 < hh.toInt) (hq : PlOk (h.1 1) c q) (hst : q ≠ 61 ∨ cn (RP (h.1 1) 61) n + cn (RB (h.1 1) p lo hh) n ≤ 20) : ∃ G H, m_X3_moveKeys g 0 p q lo hh = some G ∧ m_X7_moveBetween h p q lo hh = some H ∧ G.2 = g.2 ∧ (∀ k, k ≠ 28 → G.1 k = g.1 k) ∧ (∀ k, k ≠ 1 → H.1 k = h.1 k) ∧ TB G 0 (H.1 1) n c m u ∧ (∀ i, i < 805 ∨ 805 + n ≤ i → H.1 1 i = h.1 1 i) ∧ ∀ i, i < n → H.1 1 (805 + i) = if RB (h.1 1) p lo hh i = true then q else h.1 1 (805 + i) := by
  obtain ⟨G, a1, a2, a3, a4⟩ := c_moveKeys hT p q lo hh
  obtain ⟨H, b1, b2, b3, b4⟩ := r_moveBetween hT.1 p q lo hh hhi
  refine ⟨G, H, a1, b1, a2, a3, b2, mv_TB hT (fun k _ _ h3 => a3 k h3) (fun i hi => (a4 i hi).trans (b4 i hi).symm) b3 (fun i hi => ?_) (st_move b4 hst hT.1.stage), b3, b4⟩
  rw [b4 i hi]
  split
  · exact hq
  · exact hT.1.pl hi
end
