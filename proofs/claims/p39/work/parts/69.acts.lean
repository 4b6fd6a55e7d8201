/-! put, stage, take, rekey, set, useDefault -/
section
variable {QP : QT} {g h : MG}
theorem s_put (hR : Rel QP g h) (x y : Int32) : ∃ r g' h', m_X6_put g x y = some (r, g') ∧ m_X7_put h x y = some (r, h') ∧ Rel QP g' h' := by
  obtain ⟨⟨n, c, m, u, hT⟩, hH, hQ⟩ := id hR
  have hn := hT.n4
  have ne : ¬ (1 : Int32) = 0 := by decide
  unfold m_X6_put m_X7_put
  rw [bnd_e (c_isKey x), bnd_e (c_isValue y)]
  by_cases e1 : 0 ≤ x.toInt ∧ x.toInt < 1000
  · rw [if_pos e1, if_neg ne, bnd_e (r_in1 (by show (0 : Int) ≤ x.toInt ∧ x.toInt ≤ (999 : Int); omega)), if_neg ne]
    by_cases e2 : -999 ≤ y.toInt ∧ y.toInt ≤ 999
    · rw [if_pos e2, if_neg ne, bnd_e (r_in1 (by show (-999 : Int) ≤ y.toInt ∧ y.toInt ≤ (999 : Int); exact e2)), if_neg ne]
      obtain ⟨r, a1, a2⟩ := c_home hT x
      obtain ⟨r', b1, b2⟩ := r_home hT.1 x
      obtain rfl := homR_u hT.1 a2 b2
      rw [bnd_e a1, bnd_e b1]
      by_cases e3 : r = -1005
      · rw [if_pos e3, if_pos e3]
        exact ⟨_, _, _, rfl, rfl, hR⟩
      · have z0 : h.1 1 (0 : Int32).toNatClampNeg = nI n := by rw [ak0]; exact hT.1.1.1
        rw [if_neg e3, if_neg e3, bnd_e (c_amount hT r), hT.came, if_pos vk0, z0, bnd_e (r_rowsIn hT.1 r)]
        have hcn := cn_le (RP (h.1 1) r) n
        rw [show (30 : Int32) = nI 30 from rfl, show (400 : Int32) = nI 400 from rfl]
        by_cases e4 : n = 400
        · rw [if_pos (show nI n = nI 400 by rw [e4])]
          by_cases e5 : nI 30 ≤ nI (cn (RP (h.1 1) r) n)
          · rw [if_pos e5]
            exact ⟨_, _, _, rfl, rfl, hR⟩
          · rw [if_neg e5, if_neg (by rw [nI_ltI (by omega) (by omega)]; omega)]
            exact ⟨_, _, _, rfl, rfl, hR⟩
        · rw [if_neg (show ¬ nI n = nI 400 by rw [nI_eq (by omega) (by omega)]; exact e4)]
          by_cases e5 : 30 ≤ cn (RP (h.1 1) r) n
          · rw [if_pos (by rw [nI_leI (by omega) (by omega)]; exact e5), if_neg (by rw [nI_ltI (by omega) (by omega)]; omega)]
            exact ⟨_, _, _, rfl, rfl, hR⟩
          · rw [if_neg (by rw [nI_leI (by omega) (by omega)]; exact e5), if_pos (by rw [nI_ltI (by omega) (by omega)]; omega), if_pos (by rw [nI_ltI (by omega) (by omega)]; omega)]
            obtain ⟨g1, h1, r1, r2, hT1, hf, hf2, hH1, hend⟩ := act_rel hT hR
            obtain ⟨G, H, d1, d2, d3, d4, d5, d6⟩ := both_append hT1 (by omega) e1 e2 (p := r) (by rw [hf2]; exact hom_pl a2 e3) (Or.inl (hom_61 hT.1 a2))
            rw [bnd_e r1, bnd_e r2, bnd2_e d1, bnd2_e d2]
            exact ⟨_, _, _, rfl, rfl, hend G H d3 d4 d5 ⟨_, _, _, _, d6⟩⟩
    · rw [if_neg e2, if_pos rfl, bnd_e (r_in0 (by show ¬ ((-999 : Int) ≤ y.toInt ∧ y.toInt ≤ (999 : Int)); exact e2)), if_pos rfl]
      exact ⟨_, _, _, rfl, rfl, hR⟩
  · rw [if_neg e1, if_pos rfl, bnd_e (r_in0 (by show ¬ ((0 : Int) ≤ x.toInt ∧ x.toInt ≤ (999 : Int)); omega)), if_pos rfl]
    exact ⟨_, _, _, rfl, rfl, hR⟩
theorem s_stage (hR : Rel QP g h) (x y : Int32) : ∃ r g' h', m_X6_stage g x y = some (r, g') ∧ m_X7_stage h x y = some (r, h') ∧ Rel QP g' h' := by
  obtain ⟨⟨n, c, m, u, hT⟩, hH, hQ⟩ := id hR
  have hn := hT.n4
  have ne : ¬ (1 : Int32) = 0 := by decide
  unfold m_X6_stage m_X7_stage
  rw [bnd_e (c_isKey x), bnd_e (c_isValue y)]
  by_cases e1 : 0 ≤ x.toInt ∧ x.toInt < 1000
  · rw [if_pos e1, if_neg ne, bnd_e (r_in1 (by show (0 : Int) ≤ x.toInt ∧ x.toInt ≤ (999 : Int); omega)), if_neg ne]
    by_cases e2 : -999 ≤ y.toInt ∧ y.toInt ≤ 999
    · rw [if_pos e2, if_neg ne, bnd_e (r_in1 (by show (-999 : Int) ≤ y.toInt ∧ y.toInt ≤ (999 : Int); exact e2)), if_neg ne]
      have z0 : h.1 1 (0 : Int32).toNatClampNeg = nI n := by rw [ak0]; exact hT.1.1.1
      rw [bnd_e (c_amount hT 61), hT.came, if_pos vk0, z0, bnd_e (r_rowsIn hT.1 61)]
      have hcn := cn_le (RP (h.1 1) 61) n
      have hst := hT.1.stage
      rw [show (20 : Int32) = nI 20 from rfl, show (400 : Int32) = nI 400 from rfl]
      by_cases e4 : n = 400
      · rw [if_pos (show nI n = nI 400 by rw [e4])]
        by_cases e5 : nI 20 ≤ nI (cn (RP (h.1 1) 61) n)
        · rw [if_pos e5]
          exact ⟨_, _, _, rfl, rfl, hR⟩
        · rw [if_neg e5, if_neg (by rw [nI_ltI (by omega) (by omega)]; omega)]
          exact ⟨_, _, _, rfl, rfl, hR⟩
      · rw [if_neg (show ¬ nI n = nI 400 by rw [nI_eq (by omega) (by omega)]; exact e4)]
        by_cases e5 : cn (RP (h.1 1) 61) n = 20
        · rw [if_pos (by rw [nI_leI (by omega) (by omega)]; omega), if_pos (by rw [e5])]
          exact ⟨_, _, _, rfl, rfl, hR⟩
        · rw [if_neg (by rw [nI_leI (by omega) (by omega)]; omega), if_pos (by rw [nI_ltI (by omega) (by omega)]; omega), if_neg (by rw [nI_eq (by omega) (by omega)]; omega)]
          obtain ⟨g1, h1, r1, r2, hT1, hf, hf2, hH1, hend⟩ := act_rel hT hR
          obtain ⟨G, H, d1, d2, d3, d4, d5, d6⟩ := both_append hT1 (by omega) e1 e2 (p := 61) (Or.inr (Or.inr (Or.inl rfl))) (Or.inr (by rw [hf2]; omega))
          rw [bnd_e r1, bnd_e r2, bnd2_e d1, bnd2_e d2]
          exact ⟨_, _, _, rfl, rfl, hend G H d3 d4 d5 ⟨_, _, _, _, d6⟩⟩
    · rw [if_neg e2, if_pos rfl, bnd_e (r_in0 (by show ¬ ((-999 : Int) ≤ y.toInt ∧ y.toInt ≤ (999 : Int)); exact e2)), if_pos rfl]
      exact ⟨_, _, _, rfl, rfl, hR⟩
  · rw [if_neg e1, if_pos rfl, bnd_e (r_in0 (by show ¬ ((0 : Int) ≤ x.toInt ∧ x.toInt ≤ (999 : Int)); omega)), if_pos rfl]
    exact ⟨_, _, _, rfl, rfl, hR⟩
theorem s_take (hR : Rel QP g h) (x : Int32) : ∃ r g' h', m_X6_take g x = some (r, g') ∧ m_X7_take h x = some (r, h') ∧ Rel QP g' h' := by
  obtain ⟨⟨n, c, m, u, hT⟩, hH, hQ⟩ := id hR
  have hn := hT.n4
  have ne : ¬ (1 : Int32) = 0 := by decide
  unfold m_X6_take m_X7_take
  rcases row_or n (by omega) x with ⟨i, hi, rfl⟩ | ho
  · have hi4 : i < 400 := by omega
    rw [bnd_e (c_has hT hi), bnd_e (r_isRow hT.1 hi)]
    by_cases h1 : h.1 1 (805 + i) = -1
    · rw [if_pos h1, if_pos rfl, if_pos rfl]
      exact ⟨_, _, _, rfl, rfl, hR⟩
    · rw [if_neg h1, if_neg ne, if_neg ne]
      obtain ⟨g1, h1, r1, r2, hT1, hf, hf2, hH1, hend⟩ := act_rel hT hR
      have hT2 := both_set hT1 hi (q := -1) (Or.inl rfl) (Or.inl (by decide))
      rw [bnd_e r1, bnd_e r2, bnd_e (w_move (t := 0) hi4 (-1)), bnd_e (c_key hT2 hi), if_pos (v805 hi4), if_pos (v5 hi4), a805 hi4, a5 hi4]
      exact ⟨_, _, _, rfl, rfl, hend _ _ rfl (fun k hk => gw_ne (by omega)) (fun k hk => gw_ne hk) ⟨_, _, _, _, hT2⟩⟩
  · rw [bnd_e (c_has_out hT ho), bnd_e (r_isRow_out hT.1 ho), if_pos rfl, if_pos rfl]
    exact ⟨_, _, _, rfl, rfl, hR⟩
theorem s_rekey (hR : Rel QP g h) (x y : Int32) : ∃ r g' h', m_X6_rekey g x y = some (r, g') ∧ m_X7_rekey h x y = some (r, h') ∧ Rel QP g' h' := by
  obtain ⟨⟨n, c, m, u, hT⟩, hH, hQ⟩ := id hR
  have hn := hT.n4
  have ne : ¬ (1 : Int32) = 0 := by decide
  unfold m_X6_rekey m_X7_rekey
  rcases row_or n (by omega) x with ⟨i, hi, rfl⟩ | ho
  · have hi4 : i < 400 := by omega
    rw [bnd_e (c_has hT hi), bnd_e (r_isRow hT.1 hi)]
    by_cases h1 : h.1 1 (805 + i) = -1
    · rw [if_pos h1, if_pos rfl, if_pos rfl]
      exact ⟨_, _, _, rfl, rfl, hR⟩
    · rw [if_neg h1, if_neg ne, if_neg ne, bnd_e (c_isKey y)]
      by_cases e1 : 0 ≤ y.toInt ∧ y.toInt < 1000
      · rw [if_pos e1, if_neg ne, bnd_e (r_in1 (by show (0 : Int) ≤ y.toInt ∧ y.toInt ≤ (999 : Int); omega)), if_neg ne, bnd_e (c_key hT hi), if_pos (v5 hi4)]
        have ea : ((805 : Int32) + nI i).toNatClampNeg = 805 + i := a805 hi4
        have eb : ((5 : Int32) + nI i).toNatClampNeg = 5 + i := a5 hi4
        by_cases e2 : h.1 1 (5 + i) = y
        · rw [if_pos e2, if_pos (show h.1 1 ((5 : Int32) + nI i).toNatClampNeg = y by rw [eb]; exact e2)]
          exact ⟨_, _, _, rfl, rfl, hR⟩
        · rw [if_neg e2, if_neg (show ¬ h.1 1 ((5 : Int32) + nI i).toNatClampNeg = y by rw [eb]; exact e2), bnd_e (c_place hT hi), if_pos (v805 hi4)]
          -- the tail: a state is recorded, the key and the place are written
          have tail : ∀ q : Int32, PlOk (h.1 1) c q → (q ≠ 61 ∨ h.1 1 (805 + i) = 61) → ∃ r g' h', (bnd (m_X1_record g 0) fun (g133 : MG) => bnd (m_X3_changeKey g133 0 (nI i) y) fun (g145 : MG) => bnd (m_X3_move g145 0 (nI i) q) fun (g158 : MG) => some (h.1 1 (5 + i), g158)) = some (r, g') ∧ (bnd (m_X7_record h) fun (g111 : MG) => if vin ((5 : Int32) + nI i) 1385 then if vin ((805 : Int32) + nI i) 1385 then some (h.1 1 ((5 : Int32) + nI i).toNatClampNeg, g_w (g_w g111 1 ((5 : Int32) + nI i).toNatClampNeg y) 1 ((805 : Int32) + nI i).toNatClampNeg q) else none else none) = some (r, h') ∧ Rel QP g' h' := fun q hq hs => by
            obtain ⟨g1, h1, r1, r2, hT1, hf, hf2, hH1, hend⟩ := act_rel hT hR
            have hT2 := both_key hT1 hi e1
            have hcg : ∀ j, j ≠ 5 + i → (g_w h1 1 (5 + i) y).1 1 j = h.1 1 j := fun j hj => by rw [gw_at, if_neg hj, hf2]
            have hc6 := hT.c6
            have hT3 := both_set hT2 hi (q := q) (by
              rcases hq with z | z | z | ⟨q', hq', z1, z2⟩
              · exact Or.inl z
              · exact Or.inr (Or.inl z)
              · exact Or.inr (Or.inr (Or.inl z))
              · exact Or.inr (Or.inr (Or.inr ⟨q', hq', z1, by rw [hcg _ (by omega)]; exact z2⟩))) (by rw [hcg _ (by omega)]; exact hs)
            have hck : m_X3_changeKey g1 0 (nI i) y = some (g_w g1 24 i y) := by
              unfold m_X3_changeKey
              rw [bnd_e (e_wr hi4 (by omega))]
            rw [bnd_e r1, bnd_e r2, bnd_e hck, bnd_e (w_move (t := 0) hi4 q), if_pos (v5 hi4), if_pos (v805 hi4), ea, eb]
            exact ⟨_, _, _, rfl, rfl, hend _ _ rfl (fun k hk => by rw [gw_ne (by omega), gw_ne (by omega)]) (fun k hk => by rw [gw_ne hk, gw_ne hk]) ⟨_, _, _, _, hT3⟩⟩
          by_cases e3 : h.1 1 (805 + i) = 61
          · rw [if_pos e3, if_pos (show h.1 1 ((805 : Int32) + nI i).toNatClampNeg = 61 by rw [ea]; exact e3), if_neg (show ¬ (61 : Int32) = -1005 by decide), if_neg (show ¬ (61 : Int32) = -1005 by decide), if_pos e3.symm, if_pos (show (61 : Int32) = h.1 1 ((805 : Int32) + nI i).toNatClampNeg by rw [ea]; exact e3.symm)]
            exact tail 61 (Or.inr (Or.inr (Or.inl rfl))) (Or.inr e3)
          · rw [if_neg e3, if_neg (show ¬ h.1 1 ((805 : Int32) + nI i).toNatClampNeg = 61 by rw [ea]; exact e3)]
            obtain ⟨r, a1, a2⟩ := c_home hT y
            obtain ⟨r', b1, b2⟩ := r_home hT.1 y
            obtain rfl := homR_u hT.1 a2 b2
            rw [bnd_e a1, bnd_e b1]
            by_cases e4 : r = -1005
            · rw [if_pos e4, if_pos e4]
              exact ⟨_, _, _, rfl, rfl, hR⟩
            · rw [if_neg e4, if_neg e4]
              by_cases e5 : r = h.1 1 (805 + i)
              · rw [if_pos e5, if_pos (show r = h.1 1 ((805 : Int32) + nI i).toNatClampNeg by rw [ea]; exact e5)]
                exact tail r (hom_pl a2 e4) (Or.inl (hom_61 hT.1 a2))
              · rw [if_neg e5, if_neg (show ¬ r = h.1 1 ((805 : Int32) + nI i).toNatClampNeg by rw [ea]; exact e5), bnd_e (c_amount hT r), bnd_e (r_rowsIn hT.1 r)]
                by_cases e6 : nI (cn (RP (h.1 1) r) n) < (30 : Int32)
                · rw [if_pos e6, if_pos e6]
                  exact tail r (hom_pl a2 e4) (Or.inl (hom_61 hT.1 a2))
                · rw [if_neg e6, if_neg e6]
                  exact ⟨_, _, _, rfl, rfl, hR⟩
      · rw [if_neg e1, if_pos rfl, bnd_e (r_in0 (by show ¬ ((0 : Int) ≤ y.toInt ∧ y.toInt ≤ (999 : Int)); omega)), if_pos rfl]
        exact ⟨_, _, _, rfl, rfl, hR⟩
  · rw [bnd_e (c_has_out hT ho), bnd_e (r_isRow_out hT.1 ho), if_pos rfl, if_pos rfl]
    exact ⟨_, _, _, rfl, rfl, hR⟩
theorem s_set (hR : Rel QP g h) (x y : Int32) : ∃ r g' h', m_X6_set g x y = some (r, g') ∧ m_X7_set h x y = some (r, h') ∧ Rel QP g' h' := by
  obtain ⟨⟨n, c, m, u, hT⟩, hH, hQ⟩ := id hR
  have hn := hT.n4
  have ne : ¬ (1 : Int32) = 0 := by decide
  have hct := hT.2.2.1
  have hhd := hT.1.2.1
  have c3 : g.1 (20 + 15 * 0) 3 = h.1 1 3 := hct.2.2.2.2.1
  have c4 : g.1 (20 + 15 * 0) 4 = h.1 1 4 := hct.2.2.2.2.2
  unfold m_X6_set m_X7_set
  by_cases e1 : 0 ≤ x.toInt ∧ x.toInt ≤ 1
  · rw [if_neg (show ¬ x < 0 from Int32.not_lt.mpr (Int32.le_iff_toInt_le.mpr e1.1)), if_neg (show ¬ (1 : Int32) < x from Int32.not_lt.mpr (Int32.le_iff_toInt_le.mpr e1.2)), bnd_e (r_in1 (by show (0 : Int) ≤ x.toInt ∧ x.toInt ≤ (1 : Int); exact e1)), if_neg ne]
    have hx : x = 0 ∨ x = 1 := by
      rcases (show x.toInt = 0 ∨ x.toInt = 1 by omega) with e | e
      · exact Or.inl (Int32.toInt_inj.mp e)
      · exact Or.inr (Int32.toInt_inj.mp e)
    rcases hx with rfl | rfl
    · rw [if_pos (show (0 : Int32) = 0 from rfl), if_pos (show (0 : Int32) = 0 from rfl), show (2 : Int32) - 0 = 2 from rfl, show (3 : Int32) + 0 = 3 from rfl]
      by_cases e2 : 0 ≤ y.toInt ∧ y.toInt ≤ 2
      · rw [if_neg (show ¬ y < 0 from Int32.not_lt.mpr (Int32.le_iff_toInt_le.mpr e2.1)), if_pos (show y ≤ (2 : Int32) from Int32.le_iff_toInt_le.mpr e2.2), bnd_e (r_in1 (by show (0 : Int) ≤ y.toInt ∧ y.toInt ≤ (2 : Int); exact e2)), if_neg ne, if_pos vk3]
        by_cases e3 : h.1 1 3 = y
        · rw [if_pos (show g.1 (20 + 15 * 0) 3 = y by rw [c3]; exact e3), if_pos (show h.1 1 (3 : Int32).toNatClampNeg = y by rw [ak3]; exact e3)]
          exact ⟨_, _, _, rfl, rfl, hR⟩
        · rw [if_neg (show ¬ g.1 (20 + 15 * 0) 3 = y by rw [c3]; exact e3), if_neg (show ¬ h.1 1 (3 : Int32).toNatClampNeg = y by rw [ak3]; exact e3)]
          obtain ⟨g1, h1, r1, r2, hT1, hf, hf2, hH1, hend⟩ := act_rel hT hR
          rw [bnd_e r1, bnd_e r2, if_pos (show (0 : Int32) = 0 from rfl), if_pos vk3, ak3, c3]
          have hT2 : TB (g_w g1 (20 + 15 * 0) 3 y) 0 ((g_w h1 1 3 y).1 1) n c m u := hd_TB hT1 (fun k h1 h2 => gw_ne (by omega)) (fun i hi => by rw [gw_at, if_neg (by omega)]) (by
            have hct1 := hT1.2.2.1
            have L : ∀ j, (g_w g1 (20 + 15 * 0) 3 y).1 20 j = if j = 3 then y else g1.1 20 j := fun j => gw_at
            have R : ∀ j, (g_w h1 1 3 y).1 1 j = if j = 3 then y else h1.1 1 j := fun j => gw_at
            exact ⟨by rw [L, R, if_neg (by omega), if_neg (by omega)]; exact hct1.2.2.2.1, by rw [L, R, if_pos rfl, if_pos rfl], by rw [L, R, if_neg (by omega), if_neg (by omega)]; exact hct1.2.2.2.2.2⟩) (by
            rw [gw_at, if_neg (by omega), gw_at, if_pos rfl, gw_at, if_neg (by omega), hf2]
            exact ⟨hhd.1, e2, hhd.2.2⟩)
          exact ⟨_, _, _, rfl, rfl, hend _ _ rfl (fun k hk => gw_ne (by omega)) (fun k hk => gw_ne hk) ⟨_, _, _, _, hT2⟩⟩
      · rw [bnd_e (r_in0 (by show ¬ ((0 : Int) ≤ y.toInt ∧ y.toInt ≤ (2 : Int)); exact e2)), if_pos rfl]
        by_cases e3 : y < 0
        · rw [if_pos e3]
          exact ⟨_, _, _, rfl, rfl, hR⟩
        · have e3' : 0 ≤ y.toInt := Int32.le_iff_toInt_le.mp (Int32.not_lt.mp e3)
          rw [if_neg e3, if_neg (show ¬ y ≤ (2 : Int32) from fun w => e2 ⟨e3', Int32.le_iff_toInt_le.mp w⟩)]
          exact ⟨_, _, _, rfl, rfl, hR⟩
    · have n10 : ¬ (1 : Int32) = 0 := by decide
      rw [if_neg n10, if_neg n10, show (2 : Int32) - 1 = 1 from rfl, show (3 : Int32) + 1 = 4 from rfl]
      by_cases e2 : 0 ≤ y.toInt ∧ y.toInt ≤ 1
      · rw [if_neg (show ¬ y < 0 from Int32.not_lt.mpr (Int32.le_iff_toInt_le.mpr e2.1)), if_pos (show y ≤ (1 : Int32) from Int32.le_iff_toInt_le.mpr e2.2), bnd_e (r_in1 (by show (0 : Int) ≤ y.toInt ∧ y.toInt ≤ (1 : Int); exact e2)), if_neg ne, if_pos vk4]
        by_cases e3 : h.1 1 4 = y
        · rw [if_pos (show g.1 (20 + 15 * 0) 4 = y by rw [c4]; exact e3), if_pos (show h.1 1 (4 : Int32).toNatClampNeg = y by rw [ak4]; exact e3)]
          exact ⟨_, _, _, rfl, rfl, hR⟩
        · rw [if_neg (show ¬ g.1 (20 + 15 * 0) 4 = y by rw [c4]; exact e3), if_neg (show ¬ h.1 1 (4 : Int32).toNatClampNeg = y by rw [ak4]; exact e3)]
          obtain ⟨g1, h1, r1, r2, hT1, hf, hf2, hH1, hend⟩ := act_rel hT hR
          rw [bnd_e r1, bnd_e r2, if_neg n10, if_pos vk4, ak4, c4]
          have hT2 : TB (g_w g1 (20 + 15 * 0) 4 y) 0 ((g_w h1 1 4 y).1 1) n c m u := hd_TB hT1 (fun k h1 h2 => gw_ne (by omega)) (fun i hi => by rw [gw_at, if_neg (by omega)]) (by
            have hct1 := hT1.2.2.1
            have L : ∀ j, (g_w g1 (20 + 15 * 0) 4 y).1 20 j = if j = 4 then y else g1.1 20 j := fun j => gw_at
            have R : ∀ j, (g_w h1 1 4 y).1 1 j = if j = 4 then y else h1.1 1 j := fun j => gw_at
            exact ⟨by rw [L, R, if_neg (by omega), if_neg (by omega)]; exact hct1.2.2.2.1, by rw [L, R, if_neg (by omega), if_neg (by omega)]; exact hct1.2.2.2.2.1, by rw [L, R, if_pos rfl, if_pos rfl]⟩) (by
            rw [gw_at, if_neg (by omega), gw_at, if_neg (by omega), gw_at, if_pos rfl, hf2]
            refine ⟨hhd.1, hhd.2.1, ?_⟩
            rcases (show y.toInt = 0 ∨ y.toInt = 1 by omega) with e | e
            · exact Or.inl (Int32.toInt_inj.mp e)
            · exact Or.inr (Int32.toInt_inj.mp e))
          exact ⟨_, _, _, rfl, rfl, hend _ _ rfl (fun k hk => gw_ne (by omega)) (fun k hk => gw_ne hk) ⟨_, _, _, _, hT2⟩⟩
      · rw [bnd_e (r_in0 (by show ¬ ((0 : Int) ≤ y.toInt ∧ y.toInt ≤ (1 : Int)); exact e2)), if_pos rfl]
        by_cases e3 : y < 0
        · rw [if_pos e3]
          exact ⟨_, _, _, rfl, rfl, hR⟩
        · have e3' : 0 ≤ y.toInt := Int32.le_iff_toInt_le.mp (Int32.not_lt.mp e3)
          rw [if_neg e3, if_neg (show ¬ y ≤ (1 : Int32) from fun w => e2 ⟨e3', Int32.le_iff_toInt_le.mp w⟩)]
          exact ⟨_, _, _, rfl, rfl, hR⟩
  · rw [bnd_e (r_in0 (by show ¬ ((0 : Int) ≤ x.toInt ∧ x.toInt ≤ (1 : Int)); exact e1)), if_pos rfl]
    by_cases e3 : x < 0
    · rw [if_pos e3]
      exact ⟨_, _, _, rfl, rfl, hR⟩
    · have e3' : 0 ≤ x.toInt := Int32.le_iff_toInt_le.mp (Int32.not_lt.mp e3)
      rw [if_neg e3, if_pos (show (1 : Int32) < x from Int32.not_le.mp fun w => e1 ⟨e3', Int32.le_iff_toInt_le.mp w⟩)]
      exact ⟨_, _, _, rfl, rfl, hR⟩
end
