/-! acts on rows and settings -/
theorem c_isValue {g : MG} (x : Int32) : m_X6_isValue g x = some (if -999 ≤ x.toInt ∧ x.toInt ≤ 999 then 1 else 0) := by
  unfold m_X6_isValue
  by_cases h1 : x < (-999 : Int32)
  · rw [if_pos h1, if_neg]
    have : x.toInt < -999 := Int32.lt_iff_toInt_lt.mp h1
    omega
  · have h1' : -999 ≤ x.toInt := Int32.le_iff_toInt_le.mp (Int32.not_lt.mp h1)
    rw [if_neg h1]
    by_cases h2 : (999 : Int32) < x
    · rw [if_pos h2, if_neg]
      have : 999 < x.toInt := Int32.lt_iff_toInt_lt.mp h2
      omega
    · rw [if_neg h2, if_pos]
      have : x.toInt ≤ 999 := Int32.le_iff_toInt_le.mp (Int32.not_lt.mp h2)
      omega
theorem hom_pl {N : Nat → Int32} {c : Nat} {k r : Int32} (h : HomR N c k r) (hr : ¬ r = -1005) : PlOk N c r := by
  rcases h with ⟨q, hq, rfl⟩ | ⟨-, ⟨-, rfl⟩ | ⟨-, rfl⟩⟩
  · exact Or.inr (Or.inr (Or.inr ⟨q, hq.1, rfl, hq.2.1⟩))
  · exact Or.inr (Or.inl rfl)
  · exact absurd rfl hr
section
variable {g h : MG} {n c m : Nat} {u : Nat → Nat} {N N' : Nat → Int32} {g' : MG}
theorem hom_61 (hk : OkN N n c) {k r : Int32} (h : HomR N c k r) : ¬ r = 61 := fun e => by
  have hc := hk.1.2.2.2
  rcases h with ⟨q, hq, rfl⟩ | ⟨-, ⟨-, rfl⟩ | ⟨-, rfl⟩⟩
  · have := hq.1
    have h1 := nI_toInt (n := q) (by omega)
    rw [e] at h1
    have : ((61 : Int32)).toInt = 61 := by decide
    omega
  · exact absurd e (by decide)
  · exact absurd e (by decide)
/-- the head of a table changes -/
theorem hd_TB (hT : TB g 0 N n c m u) (hg : ∀ k, 20 < k → k < 35 → g'.1 k = g.1 k) (hN : ∀ i, i < 2 ∨ 5 ≤ i → N' i = N i) (h2 : g'.1 20 2 = N' 2 ∧ g'.1 20 3 = N' 3 ∧ g'.1 20 4 = N' 4) (hh : (N' 2 = 0 ∨ N' 2 = 1) ∧ (0 ≤ (N' 3).toInt ∧ (N' 3).toInt ≤ 2) ∧ (N' 4 = 0 ∨ N' 4 = 1)) : TB g' 0 N' n c m u := by
  have hn := hT.n4
  obtain ⟨⟨⟨a1, a2, a3, a4⟩, -, d, e, f, s⟩, ⟨s1, s2, s3, s4⟩, h1, h2', h3⟩ := hT
  refine ⟨⟨⟨by rw [hN 0 (by omega)]; exact a1, a2, by rw [hN 1 (by omega)]; exact a3, a4⟩, hh, fun i hi => ?_, fun q hq => ?_, fun q r hq hr => ?_, ?_⟩, ⟨s1, fun j hj => ?_, fun q hq => ?_, fun i j hij hj => ?_⟩, ?_, fun i hi => ?_, fun j hj => ?_⟩
  · rw [hN (5 + i) (by omega), hN (405 + i) (by omega), hN (805 + i) (by omega)]
    obtain ⟨d1, d2, d3⟩ := d i hi
    refine ⟨d1, d2, ?_⟩
    rcases d3 with z | z | z | ⟨q, hq, z1, z2⟩
    · exact Or.inl z
    · exact Or.inr (Or.inl z)
    · exact Or.inr (Or.inr (Or.inl z))
    · exact Or.inr (Or.inr (Or.inr ⟨q, hq, z1, by rw [hN (1205 + q) (by omega)]; exact z2⟩))
  · rw [hN (1205 + q) (by omega), hN (1265 + q) (by omega), hN (1325 + q) (by omega)]; exact e q hq
  · rw [hN (1205 + q) (by omega), hN (1265 + q) (by omega), hN (1325 + q) (by omega), hN (1205 + r) (by omega), hN (1265 + r) (by omega), hN (1325 + r) (by omega)]; exact f q r hq hr
  · rw [st_rp] at s ⊢
    rw [cn_congr (q := RP N 61) (fun i hi => by simp only [RP, hN (805 + i) (by omega)])]
    exact s
  · rw [hN (1205 + u j) (by omega)]; exact s2 j hj
  · rw [hN (1205 + q) (by omega)]; exact s3 q hq
  · rw [hN (1325 + u i) (by omega), hN (1265 + u j) (by omega)]; exact s4 i j hij hj
  · rw [hg (21 + 15 * 0) (by omega) (by omega), hg (22 + 15 * 0) (by omega) (by omega), hN 0 (by omega), hN 1 (by omega)]
    exact ⟨h1.1, h1.2.1, h1.2.2.1, h2.1, h2.2.1, h2.2.2⟩
  · rw [hg (24 + 15 * 0) (by omega) (by omega), hg (26 + 15 * 0) (by omega) (by omega), hg (28 + 15 * 0) (by omega) (by omega), hN (5 + i) (by omega), hN (405 + i) (by omega), hN (805 + i) (by omega)]
    exact h2' i hi
  · rw [hg (30 + 15 * 0) (by omega) (by omega), hg (32 + 15 * 0) (by omega) (by omega), hg (34 + 15 * 0) (by omega) (by omega), hN (1265 + u j) (by omega), hN (1325 + u j) (by omega)]
    exact h3 j hj
theorem both_set (hT : TB g 0 (h.1 1) n c m u) {i : Nat} (hi : i < n) {q : Int32} (hq : PlOk (h.1 1) c q) (hst : q ≠ 61 ∨ h.1 1 (805 + i) = 61) : TB (g_w g 28 i q) 0 ((g_w h 1 (805 + i) q).1 1) n c m u := by
  have hn := hT.n4
  refine mv_TB hT (fun k _ _ h3 => gw_ne h3) (fun j hj => ?_) (fun j hj => ?_) (fun j hj => ?_) ?_
  · show (g_w g 28 i q).1 28 j = _
    rw [gw_at, gw_at]
    by_cases e : j = i
    · rw [if_pos e, if_pos (by omega)]
    · rw [if_neg e, if_neg (by omega)]
      exact (hT.2.2.2.1 j hj).2.2
  · rw [gw_at, if_neg (by omega)]
  · rw [gw_at]
    split
    · exact hq
    · exact hT.1.pl hj
  · refine Nat.le_trans (cn_mono (fun j hj hp => ?_)) hT.1.stage
    have h1 := rp_iff.mp hp
    rw [gw_at] at h1
    by_cases e : j = i
    · rw [if_pos (by omega)] at h1
      rcases hst with z | z
      · exact absurd h1 z
      · rw [e]; exact rp_iff.mpr z
    · rw [if_neg (by omega)] at h1
      exact rp_iff.mpr h1
theorem both_key (hT : TB g 0 (h.1 1) n c m u) {i : Nat} (hi : i < n) {x : Int32} (hx : 0 ≤ x.toInt ∧ x.toInt < 1000) : TB (g_w g 24 i x) 0 ((g_w h 1 (5 + i) x).1 1) n c m u := by
  have hn := hT.n4
  obtain ⟨⟨⟨a1, a2, a3, a4⟩, b, d, e, f, s⟩, ⟨s1, s2, s3, s4⟩, h1, h2', h3⟩ := hT
  have hN : ∀ j, j ≠ 5 + i → (g_w h 1 (5 + i) x).1 1 j = h.1 1 j := fun j hj => by rw [gw_at, if_neg hj]
  have hg : ∀ k, k ≠ 24 → (g_w g 24 i x).1 k = g.1 k := fun k hk => gw_ne hk
  refine ⟨⟨⟨by rw [hN 0 (by omega)]; exact a1, a2, by rw [hN 1 (by omega)]; exact a3, a4⟩, by rw [hN 2 (by omega), hN 3 (by omega), hN 4 (by omega)]; exact b, fun j hj => ?_, fun q hq => ?_, fun q r hq hr => ?_, ?_⟩, ⟨s1, fun j hj => ?_, fun q hq => ?_, fun i j hij hj => ?_⟩, ?_, fun j hj => ?_, fun j hj => ?_⟩
  · obtain ⟨d1, d2, d3⟩ := d j hj
    rw [hN (405 + j) (by omega), hN (805 + j) (by omega)]
    refine ⟨?_, d2, ?_⟩
    · rw [gw_at]
      split
      · exact hx
      · exact d1
    · rcases d3 with z | z | z | ⟨q, hq, z1, z2⟩
      · exact Or.inl z
      · exact Or.inr (Or.inl z)
      · exact Or.inr (Or.inr (Or.inl z))
      · exact Or.inr (Or.inr (Or.inr ⟨q, hq, z1, by rw [hN (1205 + q) (by omega)]; exact z2⟩))
  · rw [hN (1205 + q) (by omega), hN (1265 + q) (by omega), hN (1325 + q) (by omega)]; exact e q hq
  · rw [hN (1205 + q) (by omega), hN (1265 + q) (by omega), hN (1325 + q) (by omega), hN (1205 + r) (by omega), hN (1265 + r) (by omega), hN (1325 + r) (by omega)]; exact f q r hq hr
  · rw [st_rp] at s ⊢
    rw [cn_congr (q := RP (h.1 1) 61) (fun j hj => by simp only [RP, hN (805 + j) (by omega)])]
    exact s
  · rw [hN (1205 + u j) (by omega)]; exact s2 j hj
  · rw [hN (1205 + q) (by omega)]; exact s3 q hq
  · rw [hN (1325 + u _) (by omega), hN (1265 + u j) (by omega)]; exact s4 _ j hij hj
  · rw [hg (21 + 15 * 0) (by omega), hg (22 + 15 * 0) (by omega), hg (20 + 15 * 0) (by omega), hN 0 (by omega), hN 1 (by omega), hN 2 (by omega), hN 3 (by omega), hN 4 (by omega)]
    exact h1
  · rw [hg (26 + 15 * 0) (by omega), hg (28 + 15 * 0) (by omega), hN (405 + j) (by omega), hN (805 + j) (by omega)]
    refine ⟨?_, (h2' j hj).2.1, (h2' j hj).2.2⟩
    show (g_w g 24 i x).1 24 j = _
    rw [gw_at, gw_at]
    by_cases e : j = i
    · rw [if_pos e, if_pos (by omega)]
    · rw [if_neg e, if_neg (by omega)]
      exact (h2' j hj).1
  · rw [hg (30 + 15 * 0) (by omega), hg (32 + 15 * 0) (by omega), hg (34 + 15 * 0) (by omega), hN (1265 + u j) (by omega), hN (1325 + u j) (by omega)]
    exact h3 j hj
theorem both_append (hT : TB g 0 (h.1 1) n c m u) (hn4 : n < 400) {k v p : Int32} (hk : 0 ≤ k.toInt ∧ k.toInt < 1000) (hv : -999 ≤ v.toInt ∧ v.toInt ≤ 999) (hp : PlOk (h.1 1) c p) (hst : p ≠ 61 ∨ cn (RP (h.1 1) 61) n + 1 ≤ 20) : ∃ G H, m_X3_append g 0 k v p = some (nI n, G) ∧ m_X7_addRow h k v p = some (nI n, H) ∧ G.2 = g.2 ∧ (∀ x, x < 20 ∨ 35 ≤ x → G.1 x = g.1 x) ∧ (∀ x, x ≠ 1 → H.1 x = h.1 x) ∧ TB G 0 (H.1 1) (n + 1) c m u := by
  have hcm := hT.came
  have hc := hT.c6
  refine ⟨g_w (g_w (g_w (g_w g 24 n k) 26 n v) 28 n p) 21 3 (nI (n + 1)), g_w (g_w (g_w (g_w h 1 0 (nI (n + 1))) 1 (5 + n) k) 1 (405 + n) v) 1 (805 + n) p, ?_, ?_, rfl, fun x hx => by rw [gw_ne (by omega), gw_ne (by omega), gw_ne (by omega), gw_ne (by omega)], fun x hx => by rw [gw_ne hx, gw_ne hx, gw_ne hx, gw_ne hx], ?_⟩
  · unfold m_X3_append
    rw [hcm, bnd_e (e_wr hn4 (by omega)), bnd_e (e_wr hn4 (by omega)), bnd_e (e_wr hn4 (by omega)), gw_ne (by omega), gw_ne (by omega), gw_ne (by omega), hcm, nI_1]
  · unfold m_X7_addRow
    have z0 : h.1 1 (0 : Int32).toNatClampNeg = nI n := by rw [ak0]; exact hT.1.1.1
    rw [if_pos vk0, if_pos vk0, if_pos vk0, z0, if_pos (v5 hn4), if_pos (v405 hn4), if_pos (v805 hn4), ak0, a5 hn4, a405 hn4, a805 hn4, nI_1]
  · have e0 : ∀ j, j ≠ 0 → j ≠ 5 + n → j ≠ 405 + n → j ≠ 805 + n → (g_w (g_w (g_w (g_w h 1 0 (nI (n + 1))) 1 (5 + n) k) 1 (405 + n) v) 1 (805 + n) p).1 1 j = h.1 1 j := fun j h1 h2 h3 h4 => by rw [gw_at, if_neg h4, gw_at, if_neg h3, gw_at, if_neg h2, gw_at, if_neg h1]
    have e1 : (g_w (g_w (g_w (g_w h 1 0 (nI (n + 1))) 1 (5 + n) k) 1 (405 + n) v) 1 (805 + n) p).1 1 0 = nI (n + 1) := by rw [gw_at, if_neg (by omega), gw_at, if_neg (by omega), gw_at, if_neg (by omega), gw_at, if_pos rfl]
    have e2 : (g_w (g_w (g_w (g_w h 1 0 (nI (n + 1))) 1 (5 + n) k) 1 (405 + n) v) 1 (805 + n) p).1 1 (5 + n) = k := by rw [gw_at, if_neg (by omega), gw_at, if_neg (by omega), gw_at, if_pos rfl]
    have e3 : (g_w (g_w (g_w (g_w h 1 0 (nI (n + 1))) 1 (5 + n) k) 1 (405 + n) v) 1 (805 + n) p).1 1 (405 + n) = v := by rw [gw_at, if_neg (by omega), gw_at, if_pos rfl]
    have e4 : (g_w (g_w (g_w (g_w h 1 0 (nI (n + 1))) 1 (5 + n) k) 1 (405 + n) v) 1 (805 + n) p).1 1 (805 + n) = p := by rw [gw_at, if_pos rfl]
    generalize (g_w (g_w (g_w (g_w h 1 0 (nI (n + 1))) 1 (5 + n) k) 1 (405 + n) v) 1 (805 + n) p).1 1 = M at e0 e1 e2 e3 e4 ⊢
    obtain ⟨⟨⟨a1, a2, a3, a4⟩, b, d, e, f, s⟩, ⟨s1, s2, s3, s4⟩, h1, h2', h3⟩ := hT
    refine ⟨⟨⟨e1, by omega, by rw [e0 1 (by omega) (by omega) (by omega) (by omega)]; exact a3, a4⟩, by rw [e0 2 (by omega) (by omega) (by omega) (by omega), e0 3 (by omega) (by omega) (by omega) (by omega), e0 4 (by omega) (by omega) (by omega) (by omega)]; exact b, fun j hj => ?_, fun q hq => ?_, fun q r hq hr => ?_, ?_⟩, ⟨s1, fun j hj => ?_, fun q hq => ?_, fun i j hij hj => ?_⟩, ?_, fun j hj => ?_, fun j hj => ?_⟩
    · have hgen : ∀ z, PlOk (h.1 1) c z → z = -1 ∨ z = 60 ∨ z = 61 ∨ ∃ q, q < c ∧ z = nI q ∧ M (1205 + q) = 1 := by
        rintro z (z1 | z1 | z1 | ⟨q, hq, z1, z2⟩)
        · exact Or.inl z1
        · exact Or.inr (Or.inl z1)
        · exact Or.inr (Or.inr (Or.inl z1))
        · exact Or.inr (Or.inr (Or.inr ⟨q, hq, z1, by rw [e0 _ (by omega) (by omega) (by omega) (by omega)]; exact z2⟩))
      rcases (show j < n ∨ j = n by omega) with hj' | rfl
      · obtain ⟨d1, d2, d3⟩ := d j hj'
        rw [e0 (5 + j) (by omega) (by omega) (by omega) (by omega), e0 (405 + j) (by omega) (by omega) (by omega) (by omega), e0 (805 + j) (by omega) (by omega) (by omega) (by omega)]
        exact ⟨d1, d2, hgen _ d3⟩
      · rw [e2, e3, e4]
        exact ⟨hk, hv, hgen _ hp⟩
    · rw [e0 (1205 + q) (by omega) (by omega) (by omega) (by omega), e0 (1265 + q) (by omega) (by omega) (by omega) (by omega), e0 (1325 + q) (by omega) (by omega) (by omega) (by omega)]; exact e q hq
    · rw [e0 (1205 + q) (by omega) (by omega) (by omega) (by omega), e0 (1265 + q) (by omega) (by omega) (by omega) (by omega), e0 (1325 + q) (by omega) (by omega) (by omega) (by omega), e0 (1205 + r) (by omega) (by omega) (by omega) (by omega), e0 (1265 + r) (by omega) (by omega) (by omega) (by omega), e0 (1325 + r) (by omega) (by omega) (by omega) (by omega)]; exact f q r hq hr
    · rw [st_rp] at s ⊢
      have hcg : cn (RP M 61) n = cn (RP (h.1 1) 61) n := cn_congr (fun j hj => by simp only [RP, e0 (805 + j) (by omega) (by omega) (by omega) (by omega)])
      cases hb : RP M 61 n with
      | false => rw [cn_n hb, hcg]; exact s
      | true =>
        rw [cn_s hb, hcg]
        rcases hst with z | z
        · exact absurd (e4.symm.trans (rp_iff.mp hb)) z
        · exact z
    · have := (s2 j hj).1
      rw [e0 (1205 + u j) (by omega) (by omega) (by omega) (by omega)]; exact s2 j hj
    · rw [e0 (1205 + q) (by omega) (by omega) (by omega) (by omega)]; exact s3 q hq
    · rw [e0 (1325 + u i) (by omega) (by omega) (by omega) (by omega), e0 (1265 + u j) (by omega) (by omega) (by omega) (by omega)]; exact s4 i j hij hj
    · rw [e1, e0 1 (by omega) (by omega) (by omega) (by omega), e0 2 (by omega) (by omega) (by omega) (by omega), e0 3 (by omega) (by omega) (by omega) (by omega), e0 4 (by omega) (by omega) (by omega) (by omega), gw_ne (k' := 22 + 15 * 0) (by omega), gw_ne (k' := 22 + 15 * 0) (by omega), gw_ne (k' := 22 + 15 * 0) (by omega), gw_ne (k' := 22 + 15 * 0) (by omega), gw_ne (k' := 20 + 15 * 0) (by omega), gw_ne (k' := 20 + 15 * 0) (by omega), gw_ne (k' := 20 + 15 * 0) (by omega), gw_ne (k' := 20 + 15 * 0) (by omega)]
      exact ⟨by show (g_w _ 21 3 _).1 21 3 = _; rw [gw_at, if_pos rfl], h1.2⟩
    · have q1 : (g_w (g_w (g_w (g_w g 24 n k) 26 n v) 28 n p) 21 3 (nI (n + 1))).1 (24 + 15 * 0) j = if j = n then k else g.1 24 j := by
        show (g_w (g_w (g_w (g_w g 24 n k) 26 n v) 28 n p) 21 3 (nI (n + 1))).1 24 j = _
        rw [gw_ne (by omega), gw_ne (by omega), gw_ne (by omega), gw_at]
      have q2 : (g_w (g_w (g_w (g_w g 24 n k) 26 n v) 28 n p) 21 3 (nI (n + 1))).1 (26 + 15 * 0) j = if j = n then v else g.1 26 j := by
        show (g_w (g_w (g_w (g_w g 24 n k) 26 n v) 28 n p) 21 3 (nI (n + 1))).1 26 j = _
        rw [gw_ne (by omega), gw_ne (by omega), gw_at, gw_ne (by omega)]
      have q3 : (g_w (g_w (g_w (g_w g 24 n k) 26 n v) 28 n p) 21 3 (nI (n + 1))).1 (28 + 15 * 0) j = if j = n then p else g.1 28 j := by
        show (g_w (g_w (g_w (g_w g 24 n k) 26 n v) 28 n p) 21 3 (nI (n + 1))).1 28 j = _
        rw [gw_ne (by omega), gw_at, gw_ne (by omega), gw_ne (by omega)]
      rw [q1, q2, q3]
      rcases (show j < n ∨ j = n by omega) with hj' | rfl
      · rw [if_neg (by omega), if_neg (by omega), if_neg (by omega), e0 (5 + j) (by omega) (by omega) (by omega) (by omega), e0 (405 + j) (by omega) (by omega) (by omega) (by omega), e0 (805 + j) (by omega) (by omega) (by omega) (by omega)]
        exact h2' j hj'
      · rw [if_pos rfl, if_pos rfl, if_pos rfl, e2, e3, e4]
        exact ⟨rfl, rfl, rfl⟩
    · have := (s2 j hj).1
      rw [gw_ne (k' := 30 + 15 * 0) (by omega), gw_ne (k' := 30 + 15 * 0) (by omega), gw_ne (k' := 30 + 15 * 0) (by omega), gw_ne (k' := 30 + 15 * 0) (by omega), gw_ne (k' := 32 + 15 * 0) (by omega), gw_ne (k' := 32 + 15 * 0) (by omega), gw_ne (k' := 32 + 15 * 0) (by omega), gw_ne (k' := 32 + 15 * 0) (by omega), gw_ne (k' := 34 + 15 * 0) (by omega), gw_ne (k' := 34 + 15 * 0) (by omega), gw_ne (k' := 34 + 15 * 0) (by omega), gw_ne (k' := 34 + 15 * 0) (by omega), e0 (1265 + u j) (by omega) (by omega) (by omega) (by omega), e0 (1325 + u j) (by omega) (by omega) (by omega) (by omega)]
      exact h3 j hj
end
