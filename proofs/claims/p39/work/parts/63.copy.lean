/-! tables are copied -/
section
variable {g g' : MG} {t : Nat} {N N' : Nat → Int32} {n c m : Nat} {u : Nat → Nat}
theorem TB.cong (hT : TB g t N n c m u) (h : ∀ k, 20 + 15 * t ≤ k → k < 35 + 15 * t → g'.1 k = g.1 k) : TB g' t N n c m u := by
  obtain ⟨hk, hs, h1, h2, h3⟩ := hT
  refine ⟨hk, hs, ?_, ?_, ?_⟩
  · rw [h (21 + 15 * t) (by omega) (by omega), h (22 + 15 * t) (by omega) (by omega), h (20 + 15 * t) (by omega) (by omega)]
    exact h1
  · rw [h (24 + 15 * t) (by omega) (by omega), h (26 + 15 * t) (by omega) (by omega), h (28 + 15 * t) (by omega) (by omega)]
    exact h2
  · rw [h (30 + 15 * t) (by omega) (by omega), h (32 + 15 * t) (by omega) (by omega), h (34 + 15 * t) (by omega) (by omega)]
    exact h3
/-- only the first 1385 places of N count -/
theorem OkN.congN (hk : OkN N n c) (h : ∀ i, i < 1385 → N' i = N i) : OkN N' n c := by
  obtain ⟨⟨a1, a2, a3, a4⟩, b, d, e, f, s⟩ := hk
  refine ⟨⟨by rw [h 0 (by omega)]; exact a1, a2, by rw [h 1 (by omega)]; exact a3, a4⟩, ?_, ?_, ?_, ?_, ?_⟩
  · rw [h 2 (by omega), h 3 (by omega), h 4 (by omega)]; exact b
  · intro i hi
    rw [h (5 + i) (by omega), h (405 + i) (by omega), h (805 + i) (by omega)]
    obtain ⟨d1, d2, d3⟩ := d i hi
    refine ⟨d1, d2, ?_⟩
    rcases d3 with z | z | z | ⟨q, hq, z1, z2⟩
    · exact Or.inl z
    · exact Or.inr (Or.inl z)
    · exact Or.inr (Or.inr (Or.inl z))
    · exact Or.inr (Or.inr (Or.inr ⟨q, hq, z1, by rw [h (1205 + q) (by omega)]; exact z2⟩))
  · intro q hq
    rw [h (1205 + q) (by omega), h (1265 + q) (by omega), h (1325 + q) (by omega)]
    exact e q hq
  · intro q r hq hr
    rw [h (1205 + q) (by omega), h (1265 + q) (by omega), h (1325 + q) (by omega), h (1205 + r) (by omega), h (1265 + r) (by omega), h (1325 + r) (by omega)]
    exact f q r hq hr
  · rw [cn_congr (q := fun i => N (805 + i) == 61) (fun i hi => by
      show (N' (805 + i) == 61) = (N (805 + i) == 61)
      rw [h (805 + i) (by omega)])]
    exact s
theorem TB.congN (hT : TB g t N n c m u) (h : ∀ i, i < 1385 → N' i = N i) : TB g t N' n c m u := by
  have hn := hT.n4
  have hc := hT.c6
  obtain ⟨hk, ⟨s1, s2, s3, s4⟩, h1, h2, h3⟩ := hT
  have hu : ∀ j, j < m → u j < c := fun j hj => (s2 j hj).1
  refine ⟨hk.congN h, ⟨s1, fun j hj => ?_, fun q hq => ?_, fun i j hij hj => ?_⟩, ?_, fun i hi => ?_, fun j hj => ?_⟩
  · have := hu j hj
    rw [h (1205 + u j) (by omega)]; exact s2 j hj
  · rw [h (1205 + q) (by omega)]; exact s3 q hq
  · have := hu j hj
    have := hu i (by omega)
    rw [h (1325 + u i) (by omega), h (1265 + u j) (by omega)]
    exact s4 i j hij hj
  · rw [h 0 (by omega), h 1 (by omega), h 2 (by omega), h 3 (by omega), h 4 (by omega)]; exact h1
  · rw [h (5 + i) (by omega), h (405 + i) (by omega), h (805 + i) (by omega)]; exact h2 i hi
  · have := hu j hj
    rw [h (1265 + u j) (by omega), h (1325 + u j) (by omega)]; exact h3 j hj
theorem cpy_lo {f f' : Nat → Int32} {n i : Nat} (hi : i < n) : va_cpy f f' 0 0 n i = f i := sb_cpy0 hi
theorem c_copyR {t2 : Nat} (hne : t ≠ t2) : ∃ G, m_X3_copyFrom g t t2 = some G ∧ G.2 = g.2 ∧ (∀ k, k ≠ 21 + 15 * t → k ≠ 24 + 15 * t → k ≠ 26 + 15 * t → k ≠ 28 + 15 * t → G.1 k = g.1 k) ∧ G.1 (21 + 15 * t) 3 = g.1 (21 + 15 * t2) 3 ∧ ∀ i, i < 400 → G.1 (24 + 15 * t) i = g.1 (24 + 15 * t2) i ∧ G.1 (26 + 15 * t) i = g.1 (26 + 15 * t2) i ∧ G.1 (28 + 15 * t) i = g.1 (28 + 15 * t2) i := by
  unfold m_X3_copyFrom
  rw [bnd_e (e_cp (by omega)), bnd_e (e_cp (by omega)), bnd_e (e_cp (by omega))]
  refine ⟨_, rfl, rfl, fun k h1 h2 h3 h4 => ?_, ?_, fun i hi => ⟨?_, ?_, ?_⟩⟩
  · rw [gw_ne h1, gc_ne h4, gc_ne h3, gc_ne h2]
  · rw [gw_at, if_pos rfl, gc_ne (by omega), gc_ne (by omega), gc_ne (by omega)]
  · rw [gw_ne (by omega), gc_ne (by omega), gc_ne (by omega), gc_eq, cpy_lo hi]
  · rw [gw_ne (by omega), gc_ne (by omega), gc_eq, cpy_lo hi, gc_ne (by omega)]
  · rw [gw_ne (by omega), gc_eq, cpy_lo hi, gc_ne (by omega), gc_ne (by omega)]
theorem c_copyS {t2 : Nat} (hne : t ≠ t2) : ∃ G, m_X4_copyFrom g t t2 = some G ∧ G.2 = g.2 ∧ (∀ k, k ≠ 22 + 15 * t → k ≠ 30 + 15 * t → k ≠ 32 + 15 * t → k ≠ 34 + 15 * t → G.1 k = g.1 k) ∧ G.1 (22 + 15 * t) 3 = g.1 (22 + 15 * t2) 3 ∧ G.1 (22 + 15 * t) 4 = g.1 (22 + 15 * t2) 4 ∧ ∀ i, i < 12 → G.1 (30 + 15 * t) i = g.1 (30 + 15 * t2) i ∧ G.1 (32 + 15 * t) i = g.1 (32 + 15 * t2) i ∧ G.1 (34 + 15 * t) i = g.1 (34 + 15 * t2) i := by
  unfold m_X4_copyFrom
  rw [bnd_e (e_cp (by omega)), bnd_e (e_cp (by omega)), bnd_e (e_cp (by omega))]
  refine ⟨_, rfl, rfl, fun k h1 h2 h3 h4 => ?_, ?_, ?_, fun i hi => ⟨?_, ?_, ?_⟩⟩
  · rw [gw_ne h1, gw_ne h1, gc_ne h4, gc_ne h3, gc_ne h2]
  · rw [gw_at, if_neg (by omega), gw_at, if_pos rfl, gc_ne (by omega), gc_ne (by omega), gc_ne (by omega)]
  · rw [gw_at, if_pos rfl, gw_ne (by omega), gc_ne (by omega), gc_ne (by omega), gc_ne (by omega)]
  · rw [gw_ne (by omega), gw_ne (by omega), gc_ne (by omega), gc_ne (by omega), gc_eq, cpy_lo hi]
  · rw [gw_ne (by omega), gw_ne (by omega), gc_ne (by omega), gc_eq, cpy_lo hi, gc_ne (by omega)]
  · rw [gw_ne (by omega), gw_ne (by omega), gc_eq, cpy_lo hi, gc_ne (by omega), gc_ne (by omega)]
theorem c_copy {t2 : Nat} (hne : t ≠ t2) (hT : TB g t2 N n c m u) : ∃ G, m_X5_copyFrom g t t2 = some G ∧ G.2 = g.2 ∧ (∀ k, ¬ (20 + 15 * t ≤ k ∧ k < 35 + 15 * t) → G.1 k = g.1 k) ∧ TB G t N n c m u := by
  have hn := hT.n4
  have hm := hT.m12
  obtain ⟨hk, hs, ⟨a1, a2, a3, a4, a5, a6⟩, h2, h3⟩ := hT
  obtain ⟨G1, e1, e2, e3, e4, e5⟩ := c_copyR (g := g) hne
  obtain ⟨G2, f1, f2, f3, f4, f5, f6⟩ := c_copyS (g := G1) hne
  have z : ∀ j, G2.1 (20 + 15 * t2) j = g.1 (20 + 15 * t2) j := fun j => by
    rw [f3 _ (by omega) (by omega) (by omega) (by omega), e3 _ (by omega) (by omega) (by omega) (by omega)]
  unfold m_X5_copyFrom
  rw [bnd_e e1, bnd_e f1, z 2, a4, if_pos (by
    simp only [bz, Bool.or_eq_true, beq_iff_eq]
    exact hk.2.1.1)]
  refine ⟨_, rfl, by rw [gw_2, gw_2, gw_2, f2, e2], fun k hkk => ?_, hk, hs, ⟨?_, ?_, ?_, ?_, ?_, ?_⟩, fun i hi => ?_, fun j hj => ?_⟩
  · rw [gw_ne (by omega), gw_ne (by omega), gw_ne (by omega), f3 _ (by omega) (by omega) (by omega) (by omega), e3 _ (by omega) (by omega) (by omega) (by omega)]
  · rw [gw_ne (by omega), gw_ne (by omega), gw_ne (by omega), f3 _ (by omega) (by omega) (by omega) (by omega), e4, a1]
  · rw [gw_ne (by omega), gw_ne (by omega), gw_ne (by omega), f4, e3 _ (by omega) (by omega) (by omega) (by omega), a2]
  · rw [gw_ne (by omega), gw_ne (by omega), gw_ne (by omega), f5, e3 _ (by omega) (by omega) (by omega) (by omega), a3]
  · rw [gw_at, if_neg (by omega), gw_at, if_neg (by omega), gw_at, if_pos rfl]
  · rw [gw_at, if_neg (by omega), gw_at, if_pos rfl, gw_ne (by omega), z 3, a5]
  · rw [gw_at, if_pos rfl, gw_ne (by omega), gw_ne (by omega), z 4, a6]
  · have q := e5 i (by omega)
    rw [gw_ne (by omega), gw_ne (by omega), gw_ne (by omega), gw_ne (by omega), gw_ne (by omega), gw_ne (by omega), gw_ne (by omega), gw_ne (by omega), gw_ne (by omega), f3 _ (by omega) (by omega) (by omega) (by omega), f3 _ (by omega) (by omega) (by omega) (by omega), f3 _ (by omega) (by omega) (by omega) (by omega), q.1, q.2.1, q.2.2]
    exact h2 i hi
  · have q := f6 j (by omega)
    rw [gw_ne (by omega), gw_ne (by omega), gw_ne (by omega), gw_ne (by omega), gw_ne (by omega), gw_ne (by omega), gw_ne (by omega), gw_ne (by omega), gw_ne (by omega), q.1, q.2.1, q.2.2, e3 _ (by omega) (by omega) (by omega) (by omega), e3 _ (by omega) (by omega) (by omega) (by omega), e3 _ (by omega) (by omega) (by omega) (by omega)]
    exact h3 j hj
end
