/-! undo, keep, restore -/
section
variable {QP : QT} {g h : MG}
theorem s_undo (hR : Rel QP g h) : ∃ r g' h', m_X6_undo g = some (r, g') ∧ m_X7_undo h = some (r, h') ∧ Rel QP g' h' := by
  obtain ⟨hT0, hH, hQ⟩ := id hR
  obtain ⟨k, a1, a2, a3, a4, a5, a6, a7⟩ := hH
  unfold m_X6_undo m_X7_undo
  rw [a2, a3]
  rcases Nat.eq_zero_or_pos k with rfl | hk
  · rw [if_pos (show nI 0 = 0 from rfl), if_pos (show nI 0 = 0 from rfl)]
    exact ⟨_, _, _, rfl, rfl, hR⟩
  · obtain ⟨k, rfl⟩ : ∃ k', k = k' + 1 := ⟨k - 1, by omega⟩
    have nz : ¬ nI (k + 1) = 0 := nI_ne0 (by omega) (by omega)
    have hp : nI (k + 1) - (1 : Int32) = nI k := nI_pred k
    rw [if_neg nz, if_neg nz]
    unfold m_X1_giveBack
    have hbk := a4 k (by omega)
    obtain ⟨n, c, m, u, hT⟩ := a6 k (by omega)
    obtain ⟨G, e1, e2, e3, e4⟩ := c_copy (t := 0) (t2 := g.2 k) (by omega) hT
    rw [a2, hp, bnd_e (c_stateAt (by omega) (by omega))]
    simp only [optc]
    rw [if_pos (by omega), bnd_e e1, e3 1 (by omega), a2, hp]
    have hloop : ∃ r, lpo b_X7_undo_L23 fuelN ((0 : Int32), g_w h 0 15 (nI k)) = some r ∧ r.1 = nI k ∧ (∀ x, x ≠ 0 → x ≠ 1 → r.2.1 x = h.1 x) ∧ (∀ j, j ≠ 15 → r.2.1 0 j = h.1 0 j) ∧ r.2.1 0 15 = nI k ∧ ∀ i, i < 1385 → r.2.1 1 i = h.1 3 (1385 * k + i) := by
      refine lpo_P (fun i z => ∃ H : MG, z = (nI i, H) ∧ (∀ x, x ≠ 0 → x ≠ 1 → H.1 x = h.1 x) ∧ (∀ j, j ≠ 15 → H.1 0 j = h.1 0 j) ∧ H.1 0 15 = nI k ∧ ∀ j, j < i → H.1 1 j = h.1 3 (1385 * k + j)) 1385 _ 0 (by omega) (by omega) ⟨_, rfl, fun x h1 h2 => gw_ne h1, fun j hj => by rw [gw_at, if_neg hj], by rw [gw_at, if_pos rfl], fun j hj => absurd hj (Nat.not_lt_zero j)⟩ ?_ ?_
      · rintro i z hi ⟨H, rfl, b1, b2, b3, b4⟩
        have hidx : (1385 : Int32) * H.1 0 15 + nI i = nI (1385 * k + i) := by
          rw [b3, show (1385 : Int32) = nI 1385 from rfl, pk_mul, nI_add]
        right
        refine ⟨(nI (i + 1), g_w H 1 i (H.1 3 (1385 * k + i))), ⟨_, rfl, fun x h1 h2 => by rw [gw_ne h2, b1 x h1 h2], fun j hj => by rw [gw_ne (by omega), b2 j hj], by rw [gw_ne (by omega), b3], lt_up (fun j hj => by rw [gw_at, if_neg (by omega), b4 j hj]) (by rw [gw_at, if_pos rfl, b1 3 (by omega) (by omega)])⟩, fun kk => ?_⟩
        simp only [b_X7_undo_L23, m_X7_undo_L23]
        rw [if_neg (by rw [show (1385 : Int32) = nI 1385 from rfl, nI_leI (by omega) (by omega)]; omega), hidx, if_pos (vin_nI (by omega) (by omega)), if_pos (vin_nI hi (by omega)), nI_clamp (by omega), nI_clamp (by omega), nI_1]
      · rintro z ⟨H, rfl, b1, b2, b3, b4⟩ kk
        refine ⟨(H.1 0 15, H), ?_, b3, b1, b2, b3, b4⟩
        simp only [b_X7_undo_L23, m_X7_undo_L23]
        rw [if_pos (show (1385 : Int32) ≤ nI 1385 by decide)]
    obtain ⟨⟨r, H⟩, c1, c2, c3, c4, c5, c6⟩ := hloop
    simp only at c2 c3 c4 c5 c6
    subst c2
    refine ⟨nI k, g_w G 1 3 (nI k), H, ?_, c1, ⟨n, c, m, u, (e4.cong (fun x h1 h2 => gw_ne (by omega))).congN c6⟩, ?_, ?_⟩
    · show some ((g_w G 1 3 (nI k)).1 1 3, g_w G 1 3 (nI k)) = _
      rw [gw_at, if_pos rfl]
    · refine ⟨k, by omega, by rw [gw_at, if_pos rfl], c5, by rw [gw_2, e2]; exact a4, by rw [gw_2, e2]; exact a5, fun j hj => ?_, ?_⟩
      · obtain ⟨n, c, m, u, hS⟩ := a6 j (by omega)
        have := a4 j (by omega)
        rw [gw_2, e2, c3 3 (by omega) (by omega)]
        exact ⟨n, c, m, u, hS.cong (fun x h1 h2 => by rw [gw_ne (by omega), e3 x (by omega)])⟩
      · rw [gw_at, if_neg (by omega), e3 1 (by omega), c4 17 (by omega), c3 2 (by omega) (by omega)]
        rcases a7 with z | ⟨z1, z2, n, c, m, u, hS⟩
        · exact Or.inl z
        · exact Or.inr ⟨z1, z2, n, c, m, u, hS.cong (fun x h1 h2 => by rw [gw_ne (by omega), e3 x (by omega)])⟩
    · rw [gw_ne (by omega), gw_ne (by omega), gw_ne (by omega), gw_ne (by omega), e3 3 (by omega), e3 9 (by omega), e3 11 (by omega), e3 13 (by omega), c3 4 (by omega) (by omega), c4 16 (by omega)]
      exact hQ
theorem s_keep (hR : Rel QP g h) : ∃ r g' h', m_X6_keep g = some (r, g') ∧ m_X7_keep h = some (r, h') ∧ Rel QP g' h' := by
  obtain ⟨⟨n, c, m, u, hT⟩, hH, hQ⟩ := id hR
  obtain ⟨k, a1, a2, a3, a4, a5, a6, a7⟩ := hH
  unfold m_X6_keep m_X7_keep m_X1_takeSnapshot
  obtain ⟨G, e1, e2, e3, e4⟩ := c_copy (t := 5) (t2 := 0) (by omega) hT
  rw [bnd_e e1, bnd_e (v := g_w G 1 2 (1 : Int32)) rfl]
  have hloop : ∃ r, lpo b_X7_keep_L2 fuelN ((0 : Int32), h) = some r ∧ r.1 = nI m ∧ (∀ x, x ≠ 0 → x ≠ 2 → r.2.1 x = h.1 x) ∧ (∀ j, j ≠ 17 → r.2.1 0 j = h.1 0 j) ∧ r.2.1 0 17 = 1 ∧ ∀ i, i < 1385 → r.2.1 2 i = h.1 1 i := by
    refine lpo_P (fun i z => ∃ H : MG, z = (nI i, H) ∧ (∀ x, x ≠ 2 → H.1 x = h.1 x) ∧ ∀ j, j < i → H.1 2 j = h.1 1 j) 1385 _ 0 (by omega) (by omega) ⟨_, rfl, fun x h1 => rfl, fun j hj => absurd hj (Nat.not_lt_zero j)⟩ ?_ ?_
    · rintro i z hi ⟨H, rfl, b1, b4⟩
      right
      refine ⟨(nI (i + 1), g_w H 2 i (H.1 1 i)), ⟨_, rfl, fun x h1 => by rw [gw_ne h1, b1 x h1], lt_up (fun j hj => by rw [gw_at, if_neg (by omega), b4 j hj]) (by rw [gw_at, if_pos rfl, b1 1 (by omega)])⟩, fun kk => ?_⟩
      simp only [b_X7_keep_L2, m_X7_keep_L2]
      rw [if_neg (by rw [show (1385 : Int32) = nI 1385 from rfl, nI_leI (by omega) (by omega)]; omega), if_pos (vin_nI hi (by omega)), if_pos (vin_nI hi (by omega)), nI_clamp (by omega), nI_1]
    · rintro z ⟨H, rfl, b1, b4⟩ kk
      have hk : OkN ((g_w H 0 17 (1 : Int32)).1 1) n c := hT.1.congN (fun i _ => by rw [gw_ne (by omega), b1 1 (by omega)])
      have hs : SO ((g_w H 0 17 (1 : Int32)).1 1) c m u := by rw [gw_ne (by omega), b1 1 (by omega)]; exact hT.2.1
      refine ⟨(nI m, g_w H 0 17 (1 : Int32)), ?_, rfl, fun x h1 h2 => by rw [gw_ne h1, b1 x h2], fun j hj => by rw [gw_at, if_neg hj, b1 0 (by omega)], by rw [gw_at, if_pos rfl], fun i hi => by rw [gw_ne (by omega), b4 i hi]⟩
      simp only [b_X7_keep_L2, m_X7_keep_L2]
      rw [if_pos (show (1385 : Int32) ≤ nI 1385 by decide), bnd_e (r_slices hk), (al_bij hk hs (fun _ => 0)).1]
  obtain ⟨⟨r, H⟩, c1, c2, c3, c4, c5, c6⟩ := hloop
  simp only at c2 c3 c4 c5 c6
  subst c2
  have hT' : TB (g_w G 1 2 (1 : Int32)) 0 (H.1 1) n c m u := by
    rw [c3 1 (by omega) (by omega)]
    exact hT.cong (fun x h1 h2 => by rw [gw_ne (by omega), e3 x (by omega)])
  refine ⟨nI m, g_w G 1 2 (1 : Int32), H, ?_, c1, ⟨n, c, m, u, hT'⟩, ?_, ?_⟩
  · rw [hT'.am]
  · refine ⟨k, a1, by rw [gw_at, if_neg (by omega), e3 1 (by omega), a2], by rw [c4 15 (by omega), a3], by rw [gw_2, e2]; exact a4, by rw [gw_2, e2]; exact a5, fun j hj => ?_, Or.inr ⟨by rw [gw_at, if_pos rfl], c5, n, c, m, u, (e4.cong (fun x h1 h2 => gw_ne (by omega))).congN c6⟩⟩
    obtain ⟨n, c, m, u, hS⟩ := a6 j (by omega)
    have := a4 j (by omega)
    rw [gw_2, e2, c3 3 (by omega) (by omega)]
    exact ⟨n, c, m, u, hS.cong (fun x h1 h2 => by rw [gw_ne (by omega), e3 x (by omega)])⟩
  · rw [gw_ne (by omega), gw_ne (by omega), gw_ne (by omega), gw_ne (by omega), e3 3 (by omega), e3 9 (by omega), e3 11 (by omega), e3 13 (by omega), c3 4 (by omega) (by omega), c4 16 (by omega)]
    exact hQ
theorem s_restore (hR : Rel QP g h) : ∃ r g' h', m_X6_restore g = some (r, g') ∧ m_X7_restore h = some (r, h') ∧ Rel QP g' h' := by
  obtain ⟨⟨n0, c0, m0, u0, hT0⟩, hH, hQ⟩ := id hR
  have a7 : (g.1 1 2 = 0 ∧ h.1 0 17 = 0) ∨ (g.1 1 2 = 1 ∧ h.1 0 17 = 1 ∧ ∃ n c m u, TB g 5 (h.1 2) n c m u) := by
    obtain ⟨k, a1, a2, a3, a4, a5, a6, a7⟩ := hH
    exact a7
  unfold m_X6_restore m_X7_restore
  rcases a7 with ⟨z1, z2⟩ | ⟨z1, z2, n, c, m, u, hS⟩
  · rw [if_pos z1, if_pos z2]
    exact ⟨_, _, _, rfl, rfl, hR⟩
  · rw [if_neg (by rw [z1]; decide), if_neg (by rw [z2]; decide)]
    obtain ⟨g1, h1, r1, r2, hT1, hf, hf2, hH1, hend⟩ := act_rel hT0 hR
    rw [bnd_e r1, bnd_e r2]
    -- what of the snapshot after the record
    have hS1 : ∃ n c m u, TB g1 5 (h1.1 2) n c m u := by
      obtain ⟨g2, h2, q1, q2, q3, -, q5, -⟩ := rec_both hT0 hH
      obtain rfl : g1 = g2 := Option.some.inj (r1.symm.trans q1)
      obtain ⟨k, a1, a2, a3, a4, a5, a6, a7⟩ := hH1
      rcases a7 with ⟨y1, y2⟩ | ⟨-, -, w⟩
      · exfalso
        obtain ⟨g2, T, b1, b2, b3, b4, b5, b6, b7⟩ := c_record hT0 (k := (id hH).choose) (id hH).choose_spec.1 (id hH).choose_spec.2.1 (id hH).choose_spec.2.2.2.1
        obtain rfl : g1 = g2 := Option.some.inj (r1.symm.trans b1)
        rw [b6 2 (by omega), z1] at y1
        exact absurd y1 (by decide)
      · exact w
    obtain ⟨n, c, m, u, hS1⟩ := hS1
    obtain ⟨G, e1, e2, e3, e4⟩ := c_copy (t := 0) (t2 := 5) (by omega) hS1
    rw [bnd_e e1, e4.am]
    have hloop : ∃ r, lpo b_X7_restore_L17 fuelN ((0 : Int32), h1) = some r ∧ r.1 = nI m ∧ (∀ x, x ≠ 1 → r.2.1 x = h1.1 x) ∧ ∀ i, i < 1385 → r.2.1 1 i = h1.1 2 i := by
      refine lpo_P (fun i z => ∃ H : MG, z = (nI i, H) ∧ (∀ x, x ≠ 1 → H.1 x = h1.1 x) ∧ ∀ j, j < i → H.1 1 j = h1.1 2 j) 1385 _ 0 (by omega) (by omega) ⟨_, rfl, fun x h1 => rfl, fun j hj => absurd hj (Nat.not_lt_zero j)⟩ ?_ ?_
      · rintro i z hi ⟨H, rfl, b1, b4⟩
        right
        refine ⟨(nI (i + 1), g_w H 1 i (H.1 2 i)), ⟨_, rfl, fun x h1 => by rw [gw_ne h1, b1 x h1], lt_up (fun j hj => by rw [gw_at, if_neg (by omega), b4 j hj]) (by rw [gw_at, if_pos rfl, b1 2 (by omega)])⟩, fun kk => ?_⟩
        simp only [b_X7_restore_L17, m_X7_restore_L17]
        rw [if_neg (by rw [show (1385 : Int32) = nI 1385 from rfl, nI_leI (by omega) (by omega)]; omega), if_pos (vin_nI hi (by omega)), if_pos (vin_nI hi (by omega)), nI_clamp (by omega), nI_1]
      · rintro z ⟨H, rfl, b1, b4⟩ kk
        have hTH : TB G 0 (H.1 1) n c m u := e4.congN b4
        refine ⟨(nI m, H), ?_, rfl, b1, b4⟩
        simp only [b_X7_restore_L17, m_X7_restore_L17]
        rw [if_pos (show (1385 : Int32) ≤ nI 1385 by decide), bnd_e (r_slices hTH.1), (al_bij hTH.1 hTH.2.1 (fun _ => 0)).1]
    obtain ⟨⟨r, H⟩, c1, c2, c3, c6⟩ := hloop
    simp only at c2 c3 c6
    subst c2
    exact ⟨nI m, G, H, rfl, c1, hend G H e2 (fun x hx => e3 x (by omega)) c3 ⟨n, c, m, u, e4.congN c6⟩⟩
end
