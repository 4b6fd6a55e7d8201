/-! tables whose slices change -/
section
variable {g g' h : MG} {N N' : Nat → Int32} {n c m c' m' : Nat} {u u' : Nat → Nat}
theorem sl_TB (hT : TB g 0 N n c m u) (hN : ∀ i, i = 0 ∨ (2 ≤ i ∧ i < 1205) → N' i = N i) (h1 : N' 1 = nI c') (hcc : c ≤ c') (hc' : c' ≤ 60)
    (hrow : ∀ i, i < n → ∀ q, q < c → N (1205 + q) = 1 → N (805 + i) = nI q → N' (1205 + q) = 1)
    (hal : ∀ q, q < c' → (N' (1205 + q) = 0 ∨ N' (1205 + q) = 1) ∧ (N' (1205 + q) = 1 → 0 ≤ (N' (1265 + q)).toInt ∧ (N' (1265 + q)).toInt < (N' (1325 + q)).toInt ∧ (N' (1325 + q)).toInt ≤ 1000))
    (hs : SO N' c' m' u') (hg : ∀ k, 20 ≤ k → k < 29 → k ≠ 22 → g'.1 k = g.1 k) (h22 : g'.1 22 3 = nI m' ∧ g'.1 22 4 = nI c')
    (hen : ∀ j, j < m' → g'.1 30 j = nI (u' j) ∧ g'.1 32 j = N' (1265 + u' j) ∧ g'.1 34 j = N' (1325 + u' j)) : TB g' 0 N' n c' m' u' := by
  have hn := hT.n4
  obtain ⟨⟨⟨a1, a2, a3, a4⟩, b, d, e, f, s⟩, -, k1, k2, k3⟩ := hT
  refine ⟨⟨⟨by rw [hN 0 (by omega)]; exact a1, a2, h1, hc'⟩, by rw [hN 2 (by omega), hN 3 (by omega), hN 4 (by omega)]; exact b, fun i hi => ?_, hal, fun q r hq hr q1 r1 hne => ?_, ?_⟩, hs, ?_, fun i hi => ?_, hen⟩
  · rw [hN (5 + i) (by omega), hN (405 + i) (by omega), hN (805 + i) (by omega)]
    obtain ⟨d1, d2, d3⟩ := d i hi
    refine ⟨d1, d2, ?_⟩
    rcases d3 with z | z | z | ⟨q, hq, z1, z2⟩
    · exact Or.inl z
    · exact Or.inr (Or.inl z)
    · exact Or.inr (Or.inr (Or.inl z))
    · exact Or.inr (Or.inr (Or.inr ⟨q, by omega, z1, hrow i hi q hq z2 z1⟩))
  · obtain ⟨i, hi, rfl⟩ := hs.2.2.1 q hq q1
    obtain ⟨j, hj, rfl⟩ := hs.2.2.1 r hr r1
    rcases Nat.lt_trichotomy i j with w | w | w
    · exact Or.inl (hs.2.2.2 i j w hj)
    · exact absurd (congrArg u' w) hne
    · exact Or.inr (hs.2.2.2 j i w hi)
  · rw [st_rp] at s ⊢
    rw [cn_congr (q := RP N 61) (fun i hi => by simp only [RP, hN (805 + i) (by omega)])]
    exact s
  · rw [hg (21 + 15 * 0) (by omega) (by omega) (by omega), hg (20 + 15 * 0) (by omega) (by omega) (by omega), hN 0 (by omega), hN 2 (by omega), hN 3 (by omega), hN 4 (by omega)]
    exact ⟨k1.1, h22.1, h22.2.trans h1.symm, k1.2.2.2⟩
  · rw [hg (24 + 15 * 0) (by omega) (by omega) (by omega), hg (26 + 15 * 0) (by omega) (by omega) (by omega), hg (28 + 15 * 0) (by omega) (by omega) (by omega), hN (5 + i) (by omega), hN (405 + i) (by omega), hN (805 + i) (by omega)]
    exact k2 i hi
/-- a slice lies over keys from a to b -/
def Tk (N : Nat → Int32) (c : Nat) (a b : Int32) : Prop := ∃ q, q < c ∧ N (1205 + q) = 1 ∧ (N (1265 + q)).toInt < b.toInt ∧ a.toInt < (N (1325 + q)).toInt
theorem c_overlap {t : Nat} (hT : TB g t N n c m u) (a b : Int32) : ∃ r, m_X4_overlap g t a b = some r ∧ ((r = 1 ∧ Tk N c a b) ∨ (r = 0 ∧ ¬ Tk N c a b)) := by
  have hm := hT.m12
  unfold m_X4_overlap
  refine lpo_P (fun i x => x = nI i ∧ ∀ j, j < i → ¬ ((N (1265 + u j)).toInt < b.toInt ∧ a.toInt < (N (1325 + u j)).toInt)) m _ 0 (Nat.zero_le m) (by omega) ⟨rfl, fun j hj => absurd hj (Nat.not_lt_zero j)⟩ ?_ ?_
  · rintro i x hi ⟨rfl, hno⟩
    have hcond : ¬ nI m ≤ nI i := by rw [nI_leI (by omega) (by omega)]; omega
    by_cases e1 : N (1325 + u i) ≤ a
    · right
      have e1' := Int32.le_iff_toInt_le.mp e1
      refine ⟨nI (i + 1), ⟨rfl, lt_up hno (by omega)⟩, fun k => ?_⟩
      simp only [b_X4_overlap_L2, m_X4_overlap_L2]
      rw [hT.am, if_neg hcond, bnd_e (c_high hT hi), if_pos e1, nI_1]
    · have e1' := Int32.lt_iff_toInt_lt.mp (Int32.not_le.mp e1)
      by_cases e2 : b ≤ N (1265 + u i)
      · right
        have e2' := Int32.le_iff_toInt_le.mp e2
        refine ⟨nI (i + 1), ⟨rfl, lt_up hno (by omega)⟩, fun k => ?_⟩
        simp only [b_X4_overlap_L2, m_X4_overlap_L2]
        rw [hT.am, if_neg hcond, bnd_e (c_high hT hi), if_neg e1, bnd_e (c_low hT hi), if_pos e2, nI_1]
      · have e2' := Int32.lt_iff_toInt_lt.mp (Int32.not_le.mp e2)
        left
        intro k
        refine ⟨1, ?_, Or.inl ⟨rfl, u i, (hT.2.1.2.1 i hi).1, (hT.2.1.2.1 i hi).2, e2', e1'⟩⟩
        simp only [b_X4_overlap_L2, m_X4_overlap_L2]
        rw [hT.am, if_neg hcond, bnd_e (c_high hT hi), if_neg e1, bnd_e (c_low hT hi), if_neg e2]
  · rintro x ⟨rfl, hno⟩ k
    refine ⟨0, ?_, Or.inr ⟨rfl, ?_⟩⟩
    · simp only [b_X4_overlap_L2, m_X4_overlap_L2]
      rw [hT.am, if_pos (nI_le (Nat.le_refl m) (by omega))]
    · rintro ⟨q, hq, hal, h1, h2⟩
      obtain ⟨j, hj, rfl⟩ := hT.2.1.2.2.1 q hq hal
      exact hno j hj ⟨h1, h2⟩
theorem r_isTaken (hk : OkN (h.1 1) n c) (a b : Int32) : ∃ r, m_X7_isTaken h a b = some r ∧ ((r = 1 ∧ Tk (h.1 1) c a b) ∨ (r = 0 ∧ ¬ Tk (h.1 1) c a b)) := by
  have hc := hk.1.2.2.2
  unfold m_X7_isTaken
  refine lpo_P (fun i x => x = nI i ∧ ∀ j, j < i → ¬ (h.1 1 (1205 + j) = 1 ∧ (h.1 1 (1265 + j)).toInt < b.toInt ∧ a.toInt < (h.1 1 (1325 + j)).toInt)) c _ 0 (Nat.zero_le c) (by omega) ⟨rfl, fun j hj => absurd hj (Nat.not_lt_zero j)⟩ ?_ ?_
  · rintro i x hi ⟨rfl, hno⟩
    have hcond : ¬ h.1 1 (1 : Int32).toNatClampNeg ≤ nI i := by rw [ak1, hk.1.2.2.1, nI_leI (by omega) (by omega)]; omega
    have el : ((1265 : Int32) + nI i).toNatClampNeg = 1265 + i := a1265 (by omega)
    have eh : ((1325 : Int32) + nI i).toNatClampNeg = 1325 + i := a1325 (by omega)
    by_cases e0 : h.1 1 (1205 + i) = 1
    · by_cases e2 : b ≤ h.1 1 (1265 + i)
      · right
        have e2' := Int32.le_iff_toInt_le.mp e2
        refine ⟨nI (i + 1), ⟨rfl, lt_up hno (by omega)⟩, fun k => ?_⟩
        simp only [b_X7_isTaken_L2, m_X7_isTaken_L2]
        rw [if_pos vk1, if_neg hcond, bnd_e (r_isSlice hk hi), if_pos e0, if_neg (by decide), if_pos (v1265 (by omega)), if_pos (by rw [el]; exact e2), nI_1]
      · have e2' := Int32.lt_iff_toInt_lt.mp (Int32.not_le.mp e2)
        by_cases e1 : h.1 1 (1325 + i) ≤ a
        · right
          have e1' := Int32.le_iff_toInt_le.mp e1
          refine ⟨nI (i + 1), ⟨rfl, lt_up hno (by omega)⟩, fun k => ?_⟩
          simp only [b_X7_isTaken_L2, m_X7_isTaken_L2]
          rw [if_pos vk1, if_neg hcond, bnd_e (r_isSlice hk hi), if_pos e0, if_neg (by decide), if_pos (v1265 (by omega)), if_neg (by rw [el]; exact e2), if_pos (v1325 (by omega)), if_pos (by rw [eh]; exact e1), nI_1]
        · have e1' := Int32.lt_iff_toInt_lt.mp (Int32.not_le.mp e1)
          left
          intro k
          refine ⟨1, ?_, Or.inl ⟨rfl, i, hi, e0, e2', e1'⟩⟩
          simp only [b_X7_isTaken_L2, m_X7_isTaken_L2]
          rw [if_pos vk1, if_neg hcond, bnd_e (r_isSlice hk hi), if_pos e0, if_neg (by decide), if_pos (v1265 (by omega)), if_neg (by rw [el]; exact e2), if_pos (v1325 (by omega)), if_neg (by rw [eh]; exact e1)]
    · right
      refine ⟨nI (i + 1), ⟨rfl, lt_up hno (fun w => e0 w.1)⟩, fun k => ?_⟩
      simp only [b_X7_isTaken_L2, m_X7_isTaken_L2]
      rw [if_pos vk1, if_neg hcond, bnd_e (r_isSlice hk hi), if_neg e0, if_pos rfl, nI_1]
  · rintro x ⟨rfl, hno⟩ k
    refine ⟨0, ?_, Or.inr ⟨rfl, ?_⟩⟩
    · simp only [b_X7_isTaken_L2, m_X7_isTaken_L2]
      rw [if_pos vk1, if_pos (by rw [ak1, hk.1.2.2.1]; exact nI_le (Nat.le_refl c) (by omega))]
    · rintro ⟨q, hq, hw⟩
      exact hno q hq hw
theorem p_taken (hT : TB g 0 (h.1 1) n c m u) (a b : Int32) : ∃ r, m_X4_overlap g 0 a b = some r ∧ m_X7_isTaken h a b = some r ∧ ((r = 1 ∧ Tk (h.1 1) c a b) ∨ (r = 0 ∧ ¬ Tk (h.1 1) c a b)) := by
  obtain ⟨r, h1, h2⟩ := c_overlap hT a b
  obtain ⟨r', h3, h4⟩ := r_isTaken hT.1 a b
  refine ⟨r, h1, ?_, h2⟩
  rw [h3]
  rcases h2 with ⟨rfl, w⟩ | ⟨rfl, w⟩ <;> rcases h4 with ⟨rfl, w'⟩ | ⟨rfl, w'⟩
  · rfl
  · exact absurd w w'
  · exact absurd w' w
  · rfl
theorem p_areBounds (a b : Int32) : ∃ r, m_X6_areBounds g a b = some r ∧ m_X7_areBounds h a b = some r ∧ ((r = 1 ∧ 0 ≤ a.toInt ∧ a.toInt < b.toInt ∧ b.toInt ≤ 1000) ∨ r = 0) := by
  have ne : ¬ (1 : Int32) = 0 := by decide
  unfold m_X6_areBounds m_X7_areBounds
  rw [bnd_e (c_isKey a)]
  by_cases e1 : 0 ≤ a.toInt ∧ a.toInt < 1000
  · have h1 : ((1 : Int32)).toInt = 1 := by decide
    have hs : (a + (1 : Int32)).toInt = a.toInt + 1 := by rw [i_add (by rw [h1]; omega) (by rw [h1]; omega), h1]
    rw [if_pos e1, if_neg ne, bnd_e (r_in1 (by show (0 : Int) ≤ a.toInt ∧ a.toInt ≤ (999 : Int); omega)), if_neg ne]
    by_cases e2 : a.toInt < b.toInt ∧ b.toInt ≤ 1000
    · rw [if_neg (show ¬ b ≤ a from fun w => by have := Int32.le_iff_toInt_le.mp w; omega), if_neg (show ¬ (1000 : Int32) < b from fun w => by have : 1000 < b.toInt := Int32.lt_iff_toInt_lt.mp w; omega), bnd_e (r_in1 (by show (a + (1 : Int32)).toInt ≤ b.toInt ∧ b.toInt ≤ (1000 : Int); rw [hs]; omega)), if_neg ne]
      exact ⟨1, rfl, rfl, Or.inl ⟨rfl, e1.1, e2.1, e2.2⟩⟩
    · rw [bnd_e (r_in0 (by show ¬ ((a + (1 : Int32)).toInt ≤ b.toInt ∧ b.toInt ≤ (1000 : Int)); rw [hs]; omega)), if_pos rfl]
      by_cases e3 : b ≤ a
      · rw [if_pos e3]
        exact ⟨0, rfl, rfl, Or.inr rfl⟩
      · have e3' := Int32.lt_iff_toInt_lt.mp (Int32.not_le.mp e3)
        rw [if_neg e3, if_pos (show (1000 : Int32) < b from Int32.lt_iff_toInt_lt.mpr (by show (1000 : Int) < b.toInt; omega))]
        exact ⟨0, rfl, rfl, Or.inr rfl⟩
  · rw [if_neg e1, if_pos rfl, bnd_e (r_in0 (by show ¬ ((0 : Int) ≤ a.toInt ∧ a.toInt ≤ (999 : Int)); omega)), if_pos rfl]
    exact ⟨0, rfl, rfl, Or.inr rfl⟩
/-- a new slice on both sides -/
theorem both_cut (hT : TB g 0 (h.1 1) n c m u) (hc : c < 60) (hm : m < 12) {a b : Int32} (hab : 0 ≤ a.toInt ∧ a.toInt < b.toInt ∧ b.toInt ≤ 1000) (hno : ¬ Tk (h.1 1) c a b) : ∃ G H u', m_X4_append g 0 a b = some (nI c, G) ∧ m_X7_cutSlice h a b = some (nI c, H) ∧ G.2 = g.2 ∧ (∀ k, k < 20 ∨ 35 ≤ k → G.1 k = g.1 k) ∧ (∀ k, k ≠ 1 → H.1 k = h.1 k) ∧ TB G 0 (H.1 1) n (c + 1) (m + 1) u' ∧ H.1 1 (1205 + c) = 1 ∧ ∀ i, i ≠ 1 → i ≠ 1205 + c → i ≠ 1265 + c → i ≠ 1325 + c → H.1 1 i = h.1 1 i := by
  have hk := hT.1
  obtain ⟨⟨r, G⟩, a1, p, hp, a2, a3, a4, a5, a6, a7, a8, a9, a10, a11⟩ := c_sappend (t := 0) hT.am (hT.2.2.1.2.2.1.trans hk.1.2.2.1) hm a b
  simp only at a4 a5 a6 a7 a8 a9 a10 a11
  subst a4
  have z1 : h.1 1 (1 : Int32).toNatClampNeg = nI c := by rw [ak1]; exact hk.1.2.2.1
  have f1 : ∀ i, i ≠ 1 → i ≠ 1205 + c → i ≠ 1265 + c → i ≠ 1325 + c → (g_w (g_w (g_w (g_w h 1 1 (nI (c + 1))) 1 (1205 + c) 1) 1 (1265 + c) a) 1 (1325 + c) b).1 1 i = h.1 1 i := fun i h1 h2 h3 h4 => by rw [gw_at, if_neg h4, gw_at, if_neg h3, gw_at, if_neg h2, gw_at, if_neg h1]
  have f2 : (g_w (g_w (g_w (g_w h 1 1 (nI (c + 1))) 1 (1205 + c) 1) 1 (1265 + c) a) 1 (1325 + c) b).1 1 1 = nI (c + 1) := by rw [gw_at, if_neg (by omega), gw_at, if_neg (by omega), gw_at, if_neg (by omega), gw_at, if_pos rfl]
  have f3 : (g_w (g_w (g_w (g_w h 1 1 (nI (c + 1))) 1 (1205 + c) 1) 1 (1265 + c) a) 1 (1325 + c) b).1 1 (1205 + c) = 1 := by rw [gw_at, if_neg (by omega), gw_at, if_neg (by omega), gw_at, if_pos rfl]
  have f4 : (g_w (g_w (g_w (g_w h 1 1 (nI (c + 1))) 1 (1205 + c) 1) 1 (1265 + c) a) 1 (1325 + c) b).1 1 (1265 + c) = a := by rw [gw_at, if_neg (by omega), gw_at, if_pos rfl]
  have f5 : (g_w (g_w (g_w (g_w h 1 1 (nI (c + 1))) 1 (1205 + c) 1) 1 (1265 + c) a) 1 (1325 + c) b).1 1 (1325 + c) = b := by rw [gw_at, if_pos rfl]
  have f6 : ∀ k, k ≠ 1 → (g_w (g_w (g_w (g_w h 1 1 (nI (c + 1))) 1 (1205 + c) 1) 1 (1265 + c) a) 1 (1325 + c) b).1 k = h.1 k := fun k hk => by rw [gw_ne hk, gw_ne hk, gw_ne hk, gw_ne hk]
  have f7 : m_X7_cutSlice h a b = some (nI c, g_w (g_w (g_w (g_w h 1 1 (nI (c + 1))) 1 (1205 + c) 1) 1 (1265 + c) a) 1 (1325 + c) b) := by
    unfold m_X7_cutSlice
    rw [if_pos vk1, if_pos vk1, if_pos vk1, z1, if_pos (v1205 hc), if_pos (v1265 hc), if_pos (v1325 hc), ak1, a1205 hc, a1265 hc, a1325 hc, nI_1]
  generalize g_w (g_w (g_w (g_w h 1 1 (nI (c + 1))) 1 (1205 + c) 1) 1 (1265 + c) a) 1 (1325 + c) b = H at f1 f2 f3 f4 f5 f6 f7
  refine ⟨G, H, fun j => if j < p then u j else if j = p then c else u (j - 1), a1, f7, a5, fun k hk => a6 k (by omega) (by omega) (by omega) (by omega), f6, ?_, f3, f1⟩
  have hu : ∀ j, j < m → u j < c := fun j hj => (hT.2.1.2.1 j hj).1
  have hub : ∀ j, j < m → 0 ≤ (h.1 1 (1265 + u j)).toInt ∧ (h.1 1 (1265 + u j)).toInt < (h.1 1 (1325 + u j)).toInt ∧ (h.1 1 (1325 + u j)).toInt ≤ 1000 := fun j hj => u_b hk hT.2.1 hj
  have hnu : ∀ j, j < m → b.toInt ≤ (h.1 1 (1265 + u j)).toInt ∨ (h.1 1 (1325 + u j)).toInt ≤ a.toInt := fun j hj => by
    rcases Int.lt_or_le (h.1 1 (1265 + u j)).toInt b.toInt with w | w
    · rcases Int.lt_or_le a.toInt (h.1 1 (1325 + u j)).toInt with w2 | w2
      · exact absurd ⟨u j, hu j hj, (hT.2.1.2.1 j hj).2, w, w2⟩ hno
      · exact Or.inr w2
    · exact Or.inl w
  have hen := hT.2.2.2.2
  have hso := hT.2.1.2.2.2
  -- before the new one
  have hlo : ∀ j, j < p → (h.1 1 (1325 + u j)).toInt ≤ a.toInt := fun j hj => by
    rcases a2 with a2 | a2
    · omega
    · have h2 : (h.1 1 (1265 + u (p - 1))).toInt ≤ a.toInt := by
        have := Int32.le_iff_toInt_le.mp a2
        rw [(hen (p - 1) (by omega)).2.1] at this
        exact this
      have h3 : (h.1 1 (1265 + u j)).toInt ≤ a.toInt := by
        rcases Nat.lt_or_ge j (p - 1) with w | w
        · have := hso j (p - 1) w (by omega)
          have := hub j (by omega)
          omega
        · rw [show j = p - 1 by omega]; exact h2
      rcases hnu j (by omega) with w | w
      · omega
      · exact w
  have hhi : ∀ j, p ≤ j → j < m → b.toInt ≤ (h.1 1 (1265 + u j)).toInt := fun j h1 h2 => by
    have h3 := a3 j h1 h2
    rw [(hen j h2).2.1] at h3
    have h3' := Int32.lt_iff_toInt_lt.mp (Int32.not_le.mp h3)
    have := hub j h2
    rcases hnu j h2 with w | w
    · exact w
    · omega
  have fo : ∀ q, q < c → H.1 1 (1205 + q) = h.1 1 (1205 + q) ∧ H.1 1 (1265 + q) = h.1 1 (1265 + q) ∧ H.1 1 (1325 + q) = h.1 1 (1325 + q) := fun q hq => ⟨f1 _ (by omega) (by omega) (by omega) (by omega), f1 _ (by omega) (by omega) (by omega) (by omega), f1 _ (by omega) (by omega) (by omega) (by omega)⟩
  refine sl_TB hT (fun i hi => f1 i (by omega) (by omega) (by omega) (by omega)) f2 (by omega) (by omega) (fun i hi q hq hq1 _ => by rw [(fo q hq).1]; exact hq1) (fun q hq => ?_) ⟨by omega, fun j hj => ?_, fun q hq hq1 => ?_, fun i j hij hj => ?_⟩ (fun k h1 h2 h3 => a6 k (by omega) (by omega) (by omega) (by omega)) ⟨a7, a8⟩ (fun j hj => ?_)
  · rcases (show q < c ∨ q = c by omega) with hq' | rfl
    · rw [(fo q hq').1, (fo q hq').2.1, (fo q hq').2.2]
      exact hk.2.2.2.1 q hq'
    · rw [f3, f4, f5]
      exact ⟨Or.inr rfl, fun _ => hab⟩
  · show (if j < p then u j else if j = p then c else u (j - 1)) < c + 1 ∧ H.1 1 (1205 + if j < p then u j else if j = p then c else u (j - 1)) = 1
    by_cases e1 : j < p
    · rw [if_pos e1, (fo _ (hu j (by omega))).1]
      have := hT.2.1.2.1 j (by omega)
      exact ⟨by omega, this.2⟩
    · rw [if_neg e1]
      by_cases e2 : j = p
      · rw [if_pos e2]
        exact ⟨by omega, f3⟩
      · rw [if_neg e2, (fo _ (hu (j - 1) (by omega))).1]
        have := hT.2.1.2.1 (j - 1) (by omega)
        exact ⟨by omega, this.2⟩
  · rcases (show q < c ∨ q = c by omega) with hq' | rfl
    · rw [(fo q hq').1] at hq1
      obtain ⟨j, hj, rfl⟩ := hT.2.1.2.2.1 q hq' hq1
      by_cases e1 : j < p
      · exact ⟨j, by omega, by simp only [if_pos e1]⟩
      · exact ⟨j + 1, by omega, by simp only [if_neg (show ¬ j + 1 < p by omega), if_neg (show ¬ j + 1 = p by omega), Nat.add_sub_cancel]⟩
    · exact ⟨p, by omega, by simp only [if_neg (Nat.lt_irrefl p), if_true]⟩
  · show (H.1 1 (1325 + if i < p then u i else if i = p then c else u (i - 1))).toInt ≤ (H.1 1 (1265 + if j < p then u j else if j = p then c else u (j - 1))).toInt
    by_cases e1 : j < p
    · rw [if_pos (show i < p by omega), if_pos e1, (fo _ (hu i (by omega))).2.2, (fo _ (hu j (by omega))).2.1]
      exact hso i j hij (by omega)
    · rw [if_neg e1]
      by_cases e2 : j = p
      · rw [if_pos e2, if_pos (show i < p by omega), f4, (fo _ (hu i (by omega))).2.2]
        exact hlo i (by omega)
      · rw [if_neg e2, (fo _ (hu (j - 1) (by omega))).2.1]
        by_cases e3 : i < p
        · rw [if_pos e3, (fo _ (hu i (by omega))).2.2]
          exact hso i (j - 1) (by omega) (by omega)
        · rw [if_neg e3]
          by_cases e4 : i = p
          · rw [if_pos e4, f5]
            exact hhi (j - 1) (by omega) (by omega)
          · rw [if_neg e4, (fo _ (hu (i - 1) (by omega))).2.2]
            exact hso (i - 1) (j - 1) (by omega) (by omega)
  · show G.1 30 j = nI (if j < p then u j else if j = p then c else u (j - 1)) ∧ G.1 32 j = H.1 1 (1265 + if j < p then u j else if j = p then c else u (j - 1)) ∧ G.1 34 j = H.1 1 (1325 + if j < p then u j else if j = p then c else u (j - 1))
    by_cases e1 : j < p
    · have w := hen j (by omega)
      have w2 := a9 j e1
      rw [if_pos e1, (fo _ (hu j (by omega))).2.1, (fo _ (hu j (by omega))).2.2]
      exact ⟨w2.1.trans w.1, w2.2.1.trans w.2.1, w2.2.2.trans w.2.2⟩
    · rw [if_neg e1]
      by_cases e2 : j = p
      · subst e2
        rw [if_pos rfl, f4, f5]
        exact a10
      · have w := hen (j - 1) (by omega)
        have w2 := a11 (j - 1) (by omega) (by omega)
        rw [show j - 1 + 1 = j by omega] at w2
        rw [if_neg e2, (fo _ (hu (j - 1) (by omega))).2.1, (fo _ (hu (j - 1) (by omega))).2.2]
        exact ⟨w2.1.trans w.1, w2.2.1.trans w.2.1, w2.2.2.trans w.2.2⟩
end
