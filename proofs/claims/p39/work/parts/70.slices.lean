/-! slices come, change their bounds, go: the class's rows of slices, raw -/
section
variable {G g : MG} {t : Nat} {m : Nat}
theorem w_num {i : Nat} (hi : i < 12) : m_X4_numberAt G t (nI i) = some (G.1 (30 + 15 * t) i) := by
  unfold m_X4_numberAt
  rw [bnd_e (e_at hi (by omega))]
theorem w_low {i : Nat} (hi : i < 12) : m_X4_lowAt G t (nI i) = some (G.1 (32 + 15 * t) i) := by
  unfold m_X4_lowAt
  rw [bnd_e (e_at hi (by omega))]
theorem w_high {i : Nat} (hi : i < 12) : m_X4_highAt G t (nI i) = some (G.1 (34 + 15 * t) i) := by
  unfold m_X4_highAt
  rw [bnd_e (e_at hi (by omega))]
theorem w_bounds {i : Nat} (hi : i < 12) (a b : Int32) : m_X4_changeBounds G t (nI i) a b = some (g_w (g_w G (32 + 15 * t) i a) (34 + 15 * t) i b) := by
  unfold m_X4_changeBounds
  rw [bnd_e (e_wr hi (by omega)), bnd_e (e_wr hi (by omega))]
theorem w_copyEntry {i j : Nat} (hi : i < 12) (hj : j < 12) : ∃ G', m_X4_copyEntry G t (nI i) (nI j) = some G' ∧ G'.2 = G.2 ∧ (∀ k, k ≠ 30 + 15 * t → k ≠ 32 + 15 * t → k ≠ 34 + 15 * t → G'.1 k = G.1 k) ∧ (∀ x, G'.1 (30 + 15 * t) x = if x = j then G.1 (30 + 15 * t) i else G.1 (30 + 15 * t) x) ∧ (∀ x, G'.1 (32 + 15 * t) x = if x = j then G.1 (32 + 15 * t) i else G.1 (32 + 15 * t) x) ∧ ∀ x, G'.1 (34 + 15 * t) x = if x = j then G.1 (34 + 15 * t) i else G.1 (34 + 15 * t) x := by
  unfold m_X4_copyEntry
  rw [bnd_e (w_num hi), bnd_e (e_wr hj (by omega)), bnd_e (w_low hi), bnd_e (w_high hi), bnd_e (w_bounds hj _ _)]
  refine ⟨_, rfl, rfl, fun k h1 h2 h3 => by rw [gw_ne h3, gw_ne h2, gw_ne h1], fun x => ?_, fun x => ?_, fun x => ?_⟩
  · rw [gw_ne (by omega), gw_ne (by omega), gw_at]
  · rw [gw_ne (by omega), gw_at, gw_ne (by omega)]
  · rw [gw_at, gw_ne (by omega), gw_ne (by omega), gw_ne (by omega)]
/-- entries of two memories at places -/
def EnE (t : Nat) (G : MG) (i : Nat) (g : MG) (j : Nat) : Prop := G.1 (30 + 15 * t) i = g.1 (30 + 15 * t) j ∧ G.1 (32 + 15 * t) i = g.1 (32 + 15 * t) j ∧ G.1 (34 + 15 * t) i = g.1 (34 + 15 * t) j
theorem c_sappend {c : Nat} (hm : g.1 (22 + 15 * t) 3 = nI m) (hc : g.1 (22 + 15 * t) 4 = nI c) (hm12 : m < 12) (a b : Int32) : ∃ r, m_X4_append g t a b = some r ∧ ∃ p, p ≤ m ∧ (p = 0 ∨ g.1 (32 + 15 * t) (p - 1) ≤ a) ∧ (∀ j, p ≤ j → j < m → ¬ g.1 (32 + 15 * t) j ≤ a) ∧ r.1 = nI c ∧ r.2.2 = g.2 ∧ (∀ k, k ≠ 22 + 15 * t → k ≠ 30 + 15 * t → k ≠ 32 + 15 * t → k ≠ 34 + 15 * t → r.2.1 k = g.1 k) ∧ r.2.1 (22 + 15 * t) 3 = nI (m + 1) ∧ r.2.1 (22 + 15 * t) 4 = nI (c + 1) ∧ (∀ j, j < p → EnE t r.2 j g j) ∧ (r.2.1 (30 + 15 * t) p = nI c ∧ r.2.1 (32 + 15 * t) p = a ∧ r.2.1 (34 + 15 * t) p = b) ∧ ∀ j, p ≤ j → j < m → EnE t r.2 (j + 1) g j := by
  -- the end: the new one is written at p
  have fin : ∀ (G : MG) (p : Nat), p ≤ m → G.2 = g.2 → (∀ k, k ≠ 30 + 15 * t → k ≠ 32 + 15 * t → k ≠ 34 + 15 * t → G.1 k = g.1 k) → (∀ j, j < p → EnE t G j g j) → (∀ j, p ≤ j → j < m → EnE t G (j + 1) g j) → ∃ r, (bnd (m_X0_write G (30 + 15 * t) 12 (nI p) (G.1 (22 + 15 * t) 4)) fun (g43 : MG) => bnd (m_X4_changeBounds g43 t (nI p) a b) fun (g50 : MG) => some ((((g_w (g_w g50 (22 + 15 * t) 3 ((g50.1 (22 + 15 * t) 3) + (1 : Int32))) (22 + 15 * t) 4 (((g_w g50 (22 + 15 * t) 3 ((g50.1 (22 + 15 * t) 3) + (1 : Int32))).1 (22 + 15 * t) 4) + (1 : Int32))).1 (22 + 15 * t) 4) - (1 : Int32)), (g_w (g_w g50 (22 + 15 * t) 3 ((g50.1 (22 + 15 * t) 3) + (1 : Int32))) (22 + 15 * t) 4 (((g_w g50 (22 + 15 * t) 3 ((g50.1 (22 + 15 * t) 3) + (1 : Int32))).1 (22 + 15 * t) 4) + (1 : Int32))))) = some r ∧ r.1 = nI c ∧ r.2.2 = g.2 ∧ (∀ k, k ≠ 22 + 15 * t → k ≠ 30 + 15 * t → k ≠ 32 + 15 * t → k ≠ 34 + 15 * t → r.2.1 k = g.1 k) ∧ r.2.1 (22 + 15 * t) 3 = nI (m + 1) ∧ r.2.1 (22 + 15 * t) 4 = nI (c + 1) ∧ (∀ j, j < p → EnE t r.2 j g j) ∧ (r.2.1 (30 + 15 * t) p = nI c ∧ r.2.1 (32 + 15 * t) p = a ∧ r.2.1 (34 + 15 * t) p = b) ∧ ∀ j, p ≤ j → j < m → EnE t r.2 (j + 1) g j := by
    intro G p hp e2 ef e1 e3
    rw [bnd_e (e_wr (by omega) (by omega)), bnd_e (w_bounds (by omega) a b)]
    have hG4 : G.1 (22 + 15 * t) 4 = nI c := by rw [ef _ (by omega) (by omega) (by omega)]; exact hc
    have hG3 : G.1 (22 + 15 * t) 3 = nI m := by rw [ef _ (by omega) (by omega) (by omega)]; exact hm
    rw [hG4]
    have q3 : (g_w (g_w (g_w G (30 + 15 * t) p (nI c)) (32 + 15 * t) p a) (34 + 15 * t) p b).1 (22 + 15 * t) = G.1 (22 + 15 * t) := by rw [gw_ne (by omega), gw_ne (by omega), gw_ne (by omega)]
    have f30 : ∀ x, (g_w (g_w (g_w G (30 + 15 * t) p (nI c)) (32 + 15 * t) p a) (34 + 15 * t) p b).1 (30 + 15 * t) x = if x = p then nI c else G.1 (30 + 15 * t) x := fun x => by rw [gw_ne (by omega), gw_ne (by omega), gw_at]
    have f32 : ∀ x, (g_w (g_w (g_w G (30 + 15 * t) p (nI c)) (32 + 15 * t) p a) (34 + 15 * t) p b).1 (32 + 15 * t) x = if x = p then a else G.1 (32 + 15 * t) x := fun x => by rw [gw_ne (by omega), gw_at, gw_ne (by omega)]
    have f34 : ∀ x, (g_w (g_w (g_w G (30 + 15 * t) p (nI c)) (32 + 15 * t) p a) (34 + 15 * t) p b).1 (34 + 15 * t) x = if x = p then b else G.1 (34 + 15 * t) x := fun x => by rw [gw_at, gw_ne (by omega), gw_ne (by omega)]
    have fo : ∀ k, k ≠ 30 + 15 * t → k ≠ 32 + 15 * t → k ≠ 34 + 15 * t → (g_w (g_w (g_w G (30 + 15 * t) p (nI c)) (32 + 15 * t) p a) (34 + 15 * t) p b).1 k = G.1 k := fun k h1 h2 h3 => by rw [gw_ne h3, gw_ne h2, gw_ne h1]
    have fs : (g_w (g_w (g_w G (30 + 15 * t) p (nI c)) (32 + 15 * t) p a) (34 + 15 * t) p b).2 = G.2 := rfl
    generalize (g_w (g_w (g_w G (30 + 15 * t) p (nI c)) (32 + 15 * t) p a) (34 + 15 * t) p b) = M at q3 f30 f32 f34 fo fs ⊢
    have v4 : (g_w M (22 + 15 * t) 3 (M.1 (22 + 15 * t) 3 + (1 : Int32))).1 (22 + 15 * t) 4 = nI c := by rw [gw_at, if_neg (by omega), q3, hG4]
    rw [v4, q3, hG3, nI_1, nI_1]
    have w22 : ∀ x, (g_w (g_w M (22 + 15 * t) 3 (nI (m + 1))) (22 + 15 * t) 4 (nI (c + 1))).1 (22 + 15 * t) x = if x = 4 then nI (c + 1) else if x = 3 then nI (m + 1) else M.1 (22 + 15 * t) x := fun x => by rw [gw_at, gw_at]
    have wo : ∀ k, k ≠ 22 + 15 * t → (g_w (g_w M (22 + 15 * t) 3 (nI (m + 1))) (22 + 15 * t) 4 (nI (c + 1))).1 k = M.1 k := fun k hk => by rw [gw_ne hk, gw_ne hk]
    refine ⟨_, rfl, ?_, fs.trans e2, fun k h1 h2 h3 h4 => ?_, ?_, ?_, fun j hj => ⟨?_, ?_, ?_⟩, ⟨?_, ?_, ?_⟩, fun j h1 h2 => ⟨?_, ?_, ?_⟩⟩
    · show (g_w (g_w M (22 + 15 * t) 3 (nI (m + 1))) (22 + 15 * t) 4 (nI (c + 1))).1 (22 + 15 * t) 4 - 1 = nI c
      rw [w22, if_pos rfl]; exact nI_pred c
    · show (g_w (g_w M (22 + 15 * t) 3 (nI (m + 1))) (22 + 15 * t) 4 (nI (c + 1))).1 k = g.1 k
      rw [wo k h1, fo k h2 h3 h4, ef k h2 h3 h4]
    · exact (w22 3).trans (by rw [if_neg (by omega), if_pos rfl])
    · exact (w22 4).trans (if_pos rfl)
    · exact (congrFun (wo _ (by omega)) _).trans ((f30 j).trans ((if_neg (by omega)).trans (e1 j hj).1))
    · exact (congrFun (wo _ (by omega)) _).trans ((f32 j).trans ((if_neg (by omega)).trans (e1 j hj).2.1))
    · exact (congrFun (wo _ (by omega)) _).trans ((f34 j).trans ((if_neg (by omega)).trans (e1 j hj).2.2))
    · exact (congrFun (wo _ (by omega)) _).trans ((f30 p).trans (if_pos rfl))
    · exact (congrFun (wo _ (by omega)) _).trans ((f32 p).trans (if_pos rfl))
    · exact (congrFun (wo _ (by omega)) _).trans ((f34 p).trans (if_pos rfl))
    · exact (congrFun (wo _ (by omega)) _).trans ((f30 (j + 1)).trans ((if_neg (by omega)).trans (e3 j h1 h2).1))
    · exact (congrFun (wo _ (by omega)) _).trans ((f32 (j + 1)).trans ((if_neg (by omega)).trans (e3 j h1 h2).2.1))
    · exact (congrFun (wo _ (by omega)) _).trans ((f34 (j + 1)).trans ((if_neg (by omega)).trans (e3 j h1 h2).2.2))
  unfold m_X4_append
  rw [hm]
  refine lpo_P (fun i z => ∃ G : MG, z = (nI (m - i), G) ∧ G.2 = g.2 ∧ (∀ k, k ≠ 30 + 15 * t → k ≠ 32 + 15 * t → k ≠ 34 + 15 * t → G.1 k = g.1 k) ∧ (∀ j, j < m - i → EnE t G j g j) ∧ (∀ j, m - i ≤ j → j < m → EnE t G (j + 1) g j) ∧ ∀ j, m - i ≤ j → j < m → ¬ g.1 (32 + 15 * t) j ≤ a) m _ 0 (by omega) (by omega) ⟨g, rfl, rfl, fun k _ _ _ => rfl, fun j _ => ⟨rfl, rfl, rfl⟩, fun j h1 h2 => absurd h2 (by omega), fun j h1 h2 => absurd h2 (by omega)⟩ ?_ ?_
  · rintro i z hi ⟨G, rfl, e2, ef, e1, e3, e4⟩
    obtain ⟨v, hv⟩ : ∃ v, m - i = v + 1 := ⟨m - i - 1, by omega⟩
    rw [hv] at e1 e3 e4 ⊢
    have hlow : m_X4_lowAt G t (nI (v + 1) - (1 : Int32)) = some (g.1 (32 + 15 * t) v) := by
      rw [nI_pred, w_low (by omega), (e1 v (Nat.lt_succ_self v)).2.1]
    by_cases hc1 : g.1 (32 + 15 * t) v ≤ a
    · left
      intro kk
      obtain ⟨r, r1, r2⟩ := fin G (v + 1) (by omega) e2 ef e1 e3
      refine ⟨r, ?_, v + 1, by omega, Or.inr hc1, e4, r2⟩
      simp only [b_X4_append_L5, m_X4_append_L5]
      rw [if_neg (nI_nle (Nat.succ_pos v) (by omega)), bnd_e hlow, if_pos hc1]
      exact r1
    · right
      obtain ⟨G', a1, a2, a3, a4, a5, a6⟩ := w_copyEntry (G := G) (t := t) (i := v) (j := v + 1) (by omega) (by omega)
      have hmi : m - (i + 1) = v := by omega
      refine ⟨(nI v, G'), ⟨G', by rw [hmi], a2.trans e2, fun k h1 h2 h3 => (a3 k h1 h2 h3).trans (ef k h1 h2 h3), fun j hj => ?_, fun j h1 h2 => ?_, fun j h1 h2 => ?_⟩, fun kk => ?_⟩
      · rw [hmi] at hj
        have := e1 j (by omega)
        exact ⟨(a4 j).trans ((if_neg (by omega)).trans this.1), (a5 j).trans ((if_neg (by omega)).trans this.2.1), (a6 j).trans ((if_neg (by omega)).trans this.2.2)⟩
      · rw [hmi] at h1
        rcases (show j = v ∨ v + 1 ≤ j by omega) with rfl | h3
        · have := e1 j (Nat.lt_succ_self j)
          exact ⟨(a4 _).trans ((if_pos rfl).trans this.1), (a5 _).trans ((if_pos rfl).trans this.2.1), (a6 _).trans ((if_pos rfl).trans this.2.2)⟩
        · have := e3 j h3 h2
          exact ⟨(a4 _).trans ((if_neg (by omega)).trans this.1), (a5 _).trans ((if_neg (by omega)).trans this.2.1), (a6 _).trans ((if_neg (by omega)).trans this.2.2)⟩
      · rw [hmi] at h1
        rcases (show j = v ∨ v + 1 ≤ j by omega) with rfl | h3
        · exact hc1
        · exact e4 j h3 h2
      · simp only [b_X4_append_L5, m_X4_append_L5]
        rw [if_neg (nI_nle (Nat.succ_pos v) (by omega)), bnd_e hlow, if_neg hc1, nI_pred, bnd_e a1, pk_m1]
  · rintro z ⟨G, rfl, e2, ef, e1, e3, e4⟩ kk
    rw [Nat.sub_self] at e1 e3 e4 ⊢
    obtain ⟨r, r1, r2⟩ := fin G 0 (by omega) e2 ef e1 e3
    refine ⟨r, ?_, 0, by omega, Or.inl rfl, e4, r2⟩
    simp only [b_X4_append_L5, m_X4_append_L5]
    rw [if_pos (show nI 0 ≤ 0 by decide)]
    exact r1
theorem w_pos {u : Nat → Nat} (hm : G.1 (22 + 15 * t) 3 = nI m) (hm12 : m ≤ 12) (hu : ∀ j, j < m → G.1 (30 + 15 * t) j = nI (u j) ∧ u j < 60) (hi : ∀ i j, i < m → j < m → u i = u j → i = j) {p : Nat} (hp : p < m) : m_X4_positionOf G t (nI (u p)) = some (nI p) := by
  unfold m_X4_positionOf
  refine lpo_eq (fun i x => x = nI i ∧ i ≤ p) m (by omega) ⟨rfl, Nat.zero_le p⟩ ?_ ?_
  · rintro i x hi' ⟨rfl, hij⟩
    have hn : m_X4_numberAt G t (nI i) = some (nI (u i)) := by rw [w_num (by omega), (hu i hi').1]
    by_cases e : i = p
    · subst e
      left
      intro k
      simp only [b_X4_positionOf_L2, m_X4_positionOf_L2]
      rw [hm, if_neg (by rw [nI_leI (by omega) (by omega)]; omega), bnd_e hn, if_pos rfl]
    · right
      refine ⟨nI (i + 1), ⟨rfl, by omega⟩, fun k => ?_⟩
      have h1 := (hu i hi').2
      have h2 := (hu p hp).2
      simp only [b_X4_positionOf_L2, m_X4_positionOf_L2]
      rw [hm, if_neg (by rw [nI_leI (by omega) (by omega)]; omega), bnd_e hn, if_neg (fun w => e (hi i p hi' hp ((nI_eq (by omega) (by omega)).mp w))), nI_1]
  · rintro x ⟨rfl, hij⟩ k
    omega
theorem c_sremove {u : Nat → Nat} (hm : g.1 (22 + 15 * t) 3 = nI m) (hm12 : m ≤ 12) (hu : ∀ j, j < m → g.1 (30 + 15 * t) j = nI (u j) ∧ u j < 60) (hi : ∀ i j, i < m → j < m → u i = u j → i = j) {p : Nat} (hp : p < m) : ∃ G, m_X4_remove g t (nI (u p)) = some G ∧ G.2 = g.2 ∧ (∀ k, k ≠ 22 + 15 * t → k ≠ 30 + 15 * t → k ≠ 32 + 15 * t → k ≠ 34 + 15 * t → G.1 k = g.1 k) ∧ G.1 (22 + 15 * t) 3 = nI (m - 1) ∧ G.1 (22 + 15 * t) 4 = g.1 (22 + 15 * t) 4 ∧ ∀ j, j < m - 1 → EnE t G j g (if j < p then j else j + 1) := by
  have hpm : nI p + (1 : Int32) = nI (p + 1) := nI_1 p
  unfold m_X4_remove
  rw [bnd_e (w_pos hm hm12 hu hi hp), if_neg (nI_ne_m (by omega) (by decide)), hpm]
  refine lpo_P (fun i z => ∃ G : MG, z = (nI i, G) ∧ p + 1 ≤ i ∧ G.2 = g.2 ∧ (∀ k, k ≠ 30 + 15 * t → k ≠ 32 + 15 * t → k ≠ 34 + 15 * t → G.1 k = g.1 k) ∧ (∀ j, j + 1 < i → EnE t G j g (if j < p then j else j + 1)) ∧ ∀ j, i ≤ j → EnE t G j g j) m _ (p + 1) (by omega) (by omega) ⟨g, rfl, Nat.le_refl _, rfl, fun k _ _ _ => rfl, fun j hj => ?_, fun j hj => ⟨rfl, rfl, rfl⟩⟩ ?_ ?_
  · rw [if_pos (by omega)]
    exact ⟨rfl, rfl, rfl⟩
  · rintro i z hi' ⟨G, rfl, hpi, e2, ef, e1, e3⟩
    right
    obtain ⟨v, rfl⟩ : ∃ v, i = v + 1 := ⟨i - 1, by omega⟩
    obtain ⟨G', a1, a2, a3, a4, a5, a6⟩ := w_copyEntry (G := G) (t := t) (i := v + 1) (j := v) (by omega) (by omega)
    refine ⟨(nI (v + 1 + 1), G'), ⟨G', rfl, by omega, a2.trans e2, fun k h1 h2 h3 => (a3 k h1 h2 h3).trans (ef k h1 h2 h3), fun j hj => ?_, fun j hj => ?_⟩, fun kk => ?_⟩
    · rcases (show j = v ∨ j + 1 < v + 1 by omega) with rfl | h3
      · rw [if_neg (by omega)]
        have := e3 (j + 1) (Nat.le_refl _)
        exact ⟨(a4 _).trans ((if_pos rfl).trans this.1), (a5 _).trans ((if_pos rfl).trans this.2.1), (a6 _).trans ((if_pos rfl).trans this.2.2)⟩
      · have := e1 j h3
        exact ⟨(a4 _).trans ((if_neg (by omega)).trans this.1), (a5 _).trans ((if_neg (by omega)).trans this.2.1), (a6 _).trans ((if_neg (by omega)).trans this.2.2)⟩
    · have := e3 j (by omega)
      exact ⟨(a4 _).trans ((if_neg (by omega)).trans this.1), (a5 _).trans ((if_neg (by omega)).trans this.2.1), (a6 _).trans ((if_neg (by omega)).trans this.2.2)⟩
    · simp only [b_X4_remove_L18, m_X4_remove_L18]
      rw [ef _ (by omega) (by omega) (by omega), hm, if_neg (by rw [nI_leI (by omega) (by omega)]; omega), nI_pred, bnd_e a1, nI_1]
  · rintro z ⟨G, rfl, hpi, e2, ef, e1, e3⟩ kk
    have h3 : G.1 (22 + 15 * t) 3 = nI m := by rw [ef _ (by omega) (by omega) (by omega)]; exact hm
    obtain ⟨m', rfl⟩ : ∃ m', m = m' + 1 := ⟨m - 1, by omega⟩
    refine ⟨g_w G (22 + 15 * t) 3 (nI m'), ?_, e2, fun k h1 h2 h4 h5 => by rw [gw_ne h1, ef k h2 h4 h5], by rw [gw_at, if_pos rfl, Nat.add_sub_cancel], by rw [gw_at, if_neg (by omega), ef _ (by omega) (by omega) (by omega)], fun j hj => ?_⟩
    · simp only [b_X4_remove_L18, m_X4_remove_L18]
      rw [h3, if_pos (nI_le (Nat.le_refl _) (by omega)), nI_pred]
    · have := e1 j (by omega)
      exact ⟨(congrFun (gw_ne (by omega)) _).trans this.1, (congrFun (gw_ne (by omega)) _).trans this.2.1, (congrFun (gw_ne (by omega)) _).trans this.2.2⟩
end
