/-! addSlice, attach, dropSlice, detach, split, useDefault -/
section
variable {QP : QT} {g h : MG}
theorem nI_le0 {a : Nat} (ha : a < 2 ^ 31) : nI a ≤ 0 ↔ a = 0 := by
  rw [show (0 : Int32) = nI 0 from rfl, nI_leI ha (by omega)]
  omega
theorem full_b {m c : Nat} (hm : m ≤ 12) (hc : c ≤ 60) (h : ¬ (m = 12 ∨ c = 60)) : m < 12 ∧ c < 60 := by omega
/-- a slice is cut and rows go into it -/
theorem cut_act {n c m : Nat} {u : Nat → Nat} (hT : TB g 0 (h.1 1) n c m u) (hR : Rel QP g h) {a b : Int32} (hab : 0 ≤ a.toInt ∧ a.toInt < b.toInt ∧ b.toInt ≤ 1000) (hno : ¬ Tk (h.1 1) c a b) (p lo hi : Int32) (hlo : -2147483648 < hi.toInt) : ∃ r g' h', (bnd (m_X4_isFull g 0) fun (r75 : Int32) => if r75 = 0 then bnd (m_X1_record g 0) fun (g93 : MG) => bnd2 (m_X4_append g93 0 a b) fun (r105 : Int32) (g105 : MG) => bnd (m_X3_moveKeys g105 0 p r105 lo hi) fun (g123 : MG) => some (r105, g123) else some ((-1003 : Int32), g)) = some (r, g') ∧ (bnd (m_X7_isFullOfSlices h) fun (r47 : Int32) => if r47 = 0 then bnd (m_X7_record h) fun (g58 : MG) => bnd2 (m_X7_cutSlice g58 a b) fun (r64 : Int32) (g64 : MG) => bnd (m_X7_moveBetween g64 p r64 lo hi) fun (g74 : MG) => some (r64, g74) else some ((-1003 : Int32), h)) = some (r, h') ∧ Rel QP g' h' := by
  have ne : ¬ (1 : Int32) = 0 := by decide
  rw [bnd_e (c_isFull hT), bnd_e (r_isFull hT.1 hT.2.1)]
  by_cases hf : m = 12 ∨ c = 60
  · rw [if_pos hf, if_neg ne, if_neg ne]
    exact ⟨_, _, _, rfl, rfl, hR⟩
  · obtain ⟨hm, hc⟩ := full_b hT.m12 hT.c6 hf
    rw [if_neg hf, if_pos rfl, if_pos rfl]
    obtain ⟨g1, h1, r1, r2, hT1, hf1, hf2, hH1, hend⟩ := act_rel hT hR
    obtain ⟨G, H, u', a1, a2, a3, a4, a5, a6, a7, a8⟩ := both_cut hT1 hc hm hab (by rw [hf2]; exact hno)
    have hn61 : nI c ≠ 61 := fun e => by
      have := (nI_eq (a := c) (b := 61) (by omega) (by omega)).mp e
      omega
    obtain ⟨G2, H2, b1, b2, b3, b4, b5, b6, -, -⟩ := mv_both a6 p (nI c) lo hi hlo (Or.inr (Or.inr (Or.inr ⟨c, by omega, rfl, a7⟩))) (Or.inl hn61)
    rw [bnd_e r1, bnd_e r2, bnd2_e a1, bnd2_e a2, bnd_e b1, bnd_e b2]
    exact ⟨_, _, _, rfl, rfl, hend G2 H2 (b3.trans a3) (fun k hk => (b4 k (by omega)).trans (a4 k hk)) (fun k hk => (b5 k hk).trans (a5 k hk)) ⟨_, _, _, _, b6⟩⟩
theorem s_addSlice (hR : Rel QP g h) (x y : Int32) : ∃ r g' h', m_X6_addSlice g x y = some (r, g') ∧ m_X7_addSlice h x y = some (r, h') ∧ Rel QP g' h' := by
  obtain ⟨⟨n, c, m, u, hT⟩, hH, hQ⟩ := id hR
  have hn := hT.n4
  have ne : ¬ (1 : Int32) = 0 := by decide
  unfold m_X6_addSlice m_X7_addSlice
  obtain ⟨r, a1, a2, a3⟩ := p_areBounds (g := g) (h := h) x y
  rw [bnd_e a1, bnd_e a2]
  rcases a3 with ⟨rfl, hab⟩ | rfl
  · rw [if_neg ne, if_neg ne, bnd_e (c_amountK hT 60 x y)]
    obtain ⟨r, b1, b2, b3⟩ := p_taken hT x y
    have c4 : g.1 (20 + 15 * 0) 4 = h.1 1 4 := hT.2.2.1.2.2.2.2.2
    have hrb := r_rowsBetween hT.1 60 x y (by omega)
    have hcn := cn_le (RB (h.1 1) 60 x y) n
    rw [bnd_e b2]
    have z00 : (0 : Int32) = 0 := rfl
    by_cases e1 : nI (cn (RB (h.1 1) 60 x y) n) ≤ 0
    · rw [if_pos e1, bnd_e b1]
      rcases b3 with ⟨rfl, hk⟩ | ⟨rfl, hk⟩
      · rw [if_neg ne, if_neg ne]
        exact ⟨_, _, _, rfl, rfl, hR⟩
      · rw [if_pos z00, if_pos z00, if_pos z00, if_pos vk4]
        by_cases e2 : h.1 1 4 = 0
        · rw [if_pos (show h.1 1 (4 : Int32).toNatClampNeg = 0 by rw [ak4]; exact e2), bnd_e hrb, if_pos e1]
          exact cut_act hT hR hab hk 60 x y (by omega)
        · rw [if_neg (show ¬ h.1 1 (4 : Int32).toNatClampNeg = 0 by rw [ak4]; exact e2)]
          exact cut_act hT hR hab hk 60 x y (by omega)
    · rw [if_neg e1, bnd_e b1]
      rcases b3 with ⟨rfl, hk⟩ | ⟨rfl, hk⟩
      · rw [if_neg ne, if_neg ne]
        exact ⟨_, _, _, rfl, rfl, hR⟩
      · rw [if_pos z00, if_pos z00, if_neg ne, if_pos vk4]
        by_cases e2 : h.1 1 4 = 0
        · rw [if_pos (show g.1 (20 + 15 * 0) 4 = 0 by rw [c4]; exact e2), if_pos (show h.1 1 (4 : Int32).toNatClampNeg = 0 by rw [ak4]; exact e2), bnd_e hrb, if_neg e1]
          exact ⟨_, _, _, rfl, rfl, hR⟩
        · rw [if_neg (show ¬ g.1 (20 + 15 * 0) 4 = 0 by rw [c4]; exact e2), if_neg (show ¬ h.1 1 (4 : Int32).toNatClampNeg = 0 by rw [ak4]; exact e2)]
          exact cut_act hT hR hab hk 60 x y (by omega)
  · rw [if_pos rfl, if_pos rfl]
    exact ⟨_, _, _, rfl, rfl, hR⟩
theorem rb_rp {N : Nat → Int32} {p lo hi : Int32} {n : Nat} : cn (RB N p lo hi) n ≤ cn (RP N p) n := cn_mono (fun i _ h => rp_iff.mpr (rb_iff.mp h).1)
theorem s_attach (hR : Rel QP g h) (x y : Int32) : ∃ r g' h', m_X6_attach g x y = some (r, g') ∧ m_X7_attach h x y = some (r, h') ∧ Rel QP g' h' := by
  obtain ⟨⟨n, c, m, u, hT⟩, hH, hQ⟩ := id hR
  have hn := hT.n4
  have ne : ¬ (1 : Int32) = 0 := by decide
  unfold m_X6_attach m_X7_attach
  obtain ⟨r, a1, a2, a3⟩ := p_areBounds (g := g) (h := h) x y
  rw [bnd_e a1, bnd_e a2]
  rcases a3 with ⟨rfl, hab⟩ | rfl
  · rw [if_neg ne, if_neg ne]
    obtain ⟨r, b1, b2, b3⟩ := p_taken hT x y
    rw [bnd_e b1, bnd_e b2]
    rcases b3 with ⟨rfl, hk⟩ | ⟨rfl, hk⟩
    · rw [if_neg ne, if_neg ne]
      exact ⟨_, _, _, rfl, rfl, hR⟩
    · rw [if_pos (show (0 : Int32) = 0 from rfl), if_pos (show (0 : Int32) = 0 from rfl), bnd_e (c_unfitRows hT x y), bnd_e (r_rowsBetween hT.1 61 x y (by omega)), bnd_e (r_rowsIn hT.1 61)]
      have h1 := cn_le (RP (h.1 1) 61) n
      have h2 : cn (RB (h.1 1) 61 x y) n ≤ cn (RP (h.1 1) 61) n := rb_rp
      have hcn := cn_le (RB (h.1 1) 60 x y) n
      rw [pk_sub h2, show (0 : Int32) = nI 0 from rfl]
      by_cases e1 : cn (RB (h.1 1) 61 x y) n < cn (RP (h.1 1) 61) n
      · rw [if_pos (nI_lt (by omega) (by omega)), if_pos (nI_lt e1 (by omega))]
        exact ⟨_, _, _, rfl, rfl, hR⟩
      · rw [if_neg (nI_nlt (by omega) (by omega)), if_neg (nI_nlt (by omega) (by omega)), bnd_e (c_amountK hT 60 x y), bnd_e (r_rowsBetween hT.1 60 x y (by omega))]
        by_cases e2 : nI (cn (RB (h.1 1) 60 x y) n) ≤ nI 0
        · rw [if_pos e2, if_pos e2]
          have hmv : ∀ (G : MG) (p q : Int32), m_X3_moveAll G 0 p q = m_X3_moveKeys G 0 p q 0 1000 := fun G p q => by
            unfold m_X3_moveAll
            cases m_X3_moveKeys G 0 p q 0 1000 <;> rfl
          simp only [hmv]
          exact cut_act hT hR hab hk 61 0 1000 (by decide)
        · rw [if_neg e2, if_neg e2]
          exact ⟨_, _, _, rfl, rfl, hR⟩
  · rw [if_pos rfl, if_pos rfl]
    exact ⟨_, _, _, rfl, rfl, hR⟩
/-- all rows of a slice go to a place, then the slice goes -/
theorem drop_act {n c m : Nat} {u : Nat → Nat} (hT : TB g 0 (h.1 1) n c m u) (hR : Rel QP g h) {p : Nat} (hp : p < m) {q : Int32} (hq : q = -1 ∨ q = 61) (hst : q ≠ 61 ∨ cn (RP (h.1 1) 61) n + cn (RP (h.1 1) (nI (u p))) n ≤ 20) (r : Int32) : ∃ g' h', (bnd (m_X1_record g 0) fun (g38 : MG) => bnd (m_X3_moveAll g38 0 (nI (u p)) q) fun (g50 : MG) => bnd (m_X4_remove g50 0 (nI (u p))) fun (g61 : MG) => some (r, g61)) = some (r, g') ∧ (bnd (m_X7_record h) fun (g19 : MG) => bnd (m_X7_moveBetween g19 (nI (u p)) q (0 : Int32) (1000 : Int32)) fun (g29 : MG) => if vin ((1205 : Int32) + nI (u p)) 1385 then some (r, (g_w g29 1 ((1205 : Int32) + nI (u p)).toNatClampNeg (0 : Int32))) else none) = some (r, h') ∧ Rel QP g' h' := by
  have hc6 := hT.c6
  have hup := (hT.2.1.2.1 p hp).1
  obtain ⟨g1, h1, r1, r2, hT1, hf1, hf2, hH1, hend⟩ := act_rel hT hR
  obtain ⟨G2, H2, b1, b2, b3, b4, b5, b6, b7, b8⟩ := mv_both hT1 (nI (u p)) q 0 1000 (by decide) (by
    rcases hq with w | w
    · exact Or.inl w
    · exact Or.inr (Or.inr (Or.inl w))) (by
    rw [rb_all hT1.1, hf2]
    exact hst)
  have hne : ¬ q = nI (u p) := fun e => by
    have := nI_toInt (n := u p) (by omega)
    rw [← e] at this
    rcases hq with rfl | rfl
    · have h1 : ((-1 : Int32)).toInt = -1 := by decide
      omega
    · have h1 : ((61 : Int32)).toInt = 61 := by decide
      omega
  obtain ⟨G3, d1, d2, d3, d4⟩ := both_remove b6 hp (no_rows hT1.1 hne b8)
  unfold m_X3_moveAll
  rw [bnd_e r1, bnd_e r2, bnd_e (bnd_e b1), bnd_e b2, bnd_e d1, if_pos (v1205 (by omega)), a1205 (by omega)]
  exact ⟨_, _, rfl, rfl, hend G3 _ (d2.trans b3) (fun k hk => (d3 k hk).trans (b4 k (by omega))) (fun k hk => (gw_ne hk).trans (b5 k hk)) ⟨_, _, _, _, d4⟩⟩
theorem s_dropSlice (hR : Rel QP g h) (x : Int32) : ∃ r g' h', m_X6_dropSlice g x = some (r, g') ∧ m_X7_dropSlice h x = some (r, h') ∧ Rel QP g' h' := by
  obtain ⟨⟨n, c, m, u, hT⟩, hH, hQ⟩ := id hR
  have ne : ¬ (1 : Int32) = 0 := by decide
  unfold m_X6_dropSlice m_X7_dropSlice
  rcases sl_or hT x with ⟨j, hj, rfl⟩ | ho
  · obtain ⟨h1, h2⟩ := hT.2.1.2.1 j hj
    rw [bnd_e (c_hasS hT hj), bnd_e (r_isSlice hT.1 h1), if_pos h2, if_neg ne, if_neg ne, bnd_e (c_amount hT _), bnd_e (r_rowsIn hT.1 _)]
    obtain ⟨g', h', q1, q2, q3⟩ := drop_act hT hR hj (q := -1) (Or.inl rfl) (Or.inl (by decide)) (nI (cn (RP (h.1 1) (nI (u j))) n))
    exact ⟨_, g', h', q1, q2, q3⟩
  · rw [bnd_e (c_hasS_no hT ho), bnd_e (r_isSlice_no hT.1 ho), if_pos rfl, if_pos rfl]
    exact ⟨_, _, _, rfl, rfl, hR⟩
theorem s_detach (hR : Rel QP g h) (x : Int32) : ∃ r g' h', m_X6_detach g x = some (r, g') ∧ m_X7_detach h x = some (r, h') ∧ Rel QP g' h' := by
  obtain ⟨⟨n, c, m, u, hT⟩, hH, hQ⟩ := id hR
  have hn := hT.n4
  have ne : ¬ (1 : Int32) = 0 := by decide
  unfold m_X6_detach m_X7_detach
  rcases sl_or hT x with ⟨j, hj, rfl⟩ | ho
  · obtain ⟨h1, h2⟩ := hT.2.1.2.1 j hj
    have hc1 := cn_le (RP (h.1 1) 61) n
    have hc2 := cn_le (RP (h.1 1) (nI (u j))) n
    rw [bnd_e (c_hasS hT hj), bnd_e (r_isSlice hT.1 h1), if_pos h2, if_neg ne, if_neg ne, bnd_e (c_amount hT _), bnd_e (r_rowsIn hT.1 _)]
    by_cases e1 : nI (cn (RP (h.1 1) 61) n) ≤ 0
    · rw [if_pos e1, if_pos e1, bnd_e (c_amount hT _), bnd_e (r_rowsIn hT.1 _), show (20 : Int32) = nI 20 from rfl]
      by_cases e2 : nI (cn (RP (h.1 1) (nI (u j))) n) ≤ nI 20
      · rw [if_pos e2, if_pos e2]
        have e1' := (nI_le0 (by omega)).mp e1
        have e2' := (nI_leI (by omega) (by omega)).mp e2
        obtain ⟨g', h', q1, q2, q3⟩ := drop_act hT hR hj (q := 61) (Or.inr rfl) (Or.inr (by omega)) (nI (cn (RP (h.1 1) (nI (u j))) n))
        exact ⟨_, g', h', q1, q2, q3⟩
      · rw [if_neg e2, if_neg e2]
        exact ⟨_, _, _, rfl, rfl, hR⟩
    · rw [if_neg e1, if_neg e1]
      exact ⟨_, _, _, rfl, rfl, hR⟩
  · rw [bnd_e (c_hasS_no hT ho), bnd_e (r_isSlice_no hT.1 ho), if_pos rfl, if_pos rfl]
    exact ⟨_, _, _, rfl, rfl, hR⟩
theorem s_split (hR : Rel QP g h) (x y : Int32) : ∃ r g' h', m_X6_split g x y = some (r, g') ∧ m_X7_split h x y = some (r, h') ∧ Rel QP g' h' := by
  obtain ⟨⟨n, c, m, u, hT⟩, hH, hQ⟩ := id hR
  have hc6 := hT.c6
  have hm12 := hT.m12
  have ne : ¬ (1 : Int32) = 0 := by decide
  unfold m_X6_split m_X7_split
  rcases sl_or hT x with ⟨j, hj, rfl⟩ | ho
  · obtain ⟨h1, h2⟩ := hT.2.1.2.1 j hj
    have hb := u_b hT.1 hT.2.1 hj
    have one : ((1 : Int32)).toInt = 1 := by decide
    have el : ((1265 : Int32) + nI (u j)).toNatClampNeg = 1265 + u j := a1265 (by omega)
    have eh : ((1325 : Int32) + nI (u j)).toNatClampNeg = 1325 + u j := a1325 (by omega)
    rw [bnd_e (c_pos hT hj), if_neg (nI_ne_m (by omega) (by decide)), bnd_e (c_low hT hj), bnd_e (c_high hT hj), bnd_e (r_isSlice hT.1 h1), if_pos h2, if_neg ne, if_pos (v1325 (by omega)), if_pos (v1265 (by omega))]
    have s1 : (h.1 1 (1265 + u j) + (1 : Int32)).toInt = (h.1 1 (1265 + u j)).toInt + 1 := by rw [i_add (by rw [one]; omega) (by rw [one]; omega), one]
    have s2 : (h.1 1 (1325 + u j) - (1 : Int32)).toInt = (h.1 1 (1325 + u j)).toInt - 1 := by rw [i_sub (by rw [one]; omega) (by rw [one]; omega), one]
    by_cases e1 : (h.1 1 (1265 + u j)).toInt < y.toInt ∧ y.toInt < (h.1 1 (1325 + u j)).toInt
    · rw [if_neg (show ¬ y ≤ h.1 1 (1265 + u j) from fun w => by have := Int32.le_iff_toInt_le.mp w; omega), if_pos (show y < h.1 1 (1325 + u j) from Int32.lt_iff_toInt_lt.mpr e1.2), bnd_e (r_in1 (by rw [el, eh, s1, s2]; omega)), if_neg ne, bnd_e (c_isFull hT), bnd_e (r_isFull hT.1 hT.2.1)]
      by_cases hf : m = 12 ∨ c = 60
      · rw [if_pos hf, if_neg ne, if_neg ne]
        exact ⟨_, _, _, rfl, rfl, hR⟩
      · obtain ⟨hm, hc⟩ := full_b hT.m12 hT.c6 hf
        rw [if_neg hf, if_pos rfl, if_pos rfl]
        obtain ⟨g1, h1', r1, r2, hT1, hf1, hf2, hH1, hend⟩ := act_rel hT hR
        have hinj := so_inj hT.1 hT.2.1
        have hso := hT.2.1.2.2.2
        -- the old slice becomes shorter
        have hT2 : TB (g_w (g_w g1 (32 + 15 * 0) j (h.1 1 (1265 + u j))) (34 + 15 * 0) j y) 0 ((g_w h1' 1 (1325 + u j) y).1 1) n c m u := both_bounds hT1 hj (lo := h.1 1 (1265 + u j)) (hi := y) ⟨hb.1, e1.1, by omega⟩ (fun i hi => by rw [hf2]; exact hso i j hi hj) (fun i hi hi2 => by
          rw [hf2]
          have := hso j i hi hi2
          omega) (fun i hi1 hi2 => by rw [gw_at, if_neg hi2]) (by rw [gw_at, if_neg (by omega), hf2]) (by rw [gw_at, if_pos rfl])
        have hnoT : ¬ Tk ((g_w h1' 1 (1325 + u j) y).1 1) c y (h.1 1 (1325 + u j)) := by
          rintro ⟨q, hq, hq1, hq2, hq3⟩
          rw [gw_at, if_neg (by omega), hf2] at hq1 hq2
          rw [gw_at] at hq3
          obtain ⟨i, hi, rfl⟩ := hT.2.1.2.2.1 q hq hq1
          by_cases e : i = j
          · subst e
            rw [if_pos rfl] at hq3
            omega
          · rw [if_neg (fun w => e (hinj i j hi hj (by omega))), hf2] at hq3
            rcases Nat.lt_or_ge i j with w | w
            · have := hso i j w hj
              omega
            · have := hso j i (by omega) hi
              omega
        obtain ⟨G, H, u', a1, a2, a3, a4, a5, a6, a7, a8⟩ := both_cut (g := g_w (g_w g1 (32 + 15 * 0) j (h.1 1 (1265 + u j))) (34 + 15 * 0) j y) (h := g_w h1' 1 (1325 + u j) y) hT2 hc hm (a := y) (b := h.1 1 (1325 + u j)) ⟨by omega, e1.2, hb.2.2⟩ hnoT
        have hn61 : nI c ≠ 61 := fun e => by
          have := (nI_eq (a := c) (b := 61) (by omega) (by omega)).mp e
          omega
        obtain ⟨G2, H2, b1, b2, b3, b4, b5, b6, -, -⟩ := mv_both a6 (nI (u j)) (nI c) y (h.1 1 (1325 + u j)) (by omega) (Or.inr (Or.inr (Or.inr ⟨c, by omega, rfl, a7⟩))) (Or.inl hn61)
        rw [bnd_e r1, bnd_e r2, bnd_e (w_bounds (t := 0) (by omega) _ _), bnd2_e a1, if_pos (v1325 (by omega)), eh, bnd2_e a2, bnd_e b1, bnd_e b2]
        exact ⟨_, _, _, rfl, rfl, hend G2 H2 (b3.trans a3) (fun k hk => (b4 k (by omega)).trans ((a4 k hk).trans (by rw [gw_ne (by omega), gw_ne (by omega)]))) (fun k hk => (b5 k hk).trans ((a5 k hk).trans (gw_ne hk))) ⟨_, _, _, _, b6⟩⟩
    · rw [bnd_e (r_in0 (by rw [el, eh, s1, s2]; omega)), if_pos rfl]
      by_cases e2 : y ≤ h.1 1 (1265 + u j)
      · rw [if_pos e2]
        exact ⟨_, _, _, rfl, rfl, hR⟩
      · have e2' := Int32.lt_iff_toInt_lt.mp (Int32.not_le.mp e2)
        rw [if_neg e2, if_neg (show ¬ y < h.1 1 (1325 + u j) from fun w => e1 ⟨e2', Int32.lt_iff_toInt_lt.mp w⟩)]
        exact ⟨_, _, _, rfl, rfl, hR⟩
  · rw [bnd_e (c_pos_no hT ho), if_pos rfl, bnd_e (r_isSlice_no hT.1 ho), if_pos rfl]
    exact ⟨_, _, _, rfl, rfl, hR⟩
theorem s_useDefault (hR : Rel QP g h) (x : Int32) (hx : x = 0 ∨ x = 1) : ∃ r g' h', m_X6_useDefault g x = some (r, g') ∧ m_X7_useDefault h x = some (r, h') ∧ Rel QP g' h' := by
  obtain ⟨⟨n, c, m, u, hT⟩, hH, hQ⟩ := id hR
  have ne : ¬ (1 : Int32) = 0 := by decide
  have ne' : ¬ (0 : Int32) = 1 := by decide
  have c2 : g.1 (20 + 15 * 0) 2 = h.1 1 2 := hT.2.2.1.2.2.2.1
  have hhd := hT.1.2.1
  -- the tail
  have tail : ∀ y : Int32, y = 0 ∨ y = 1 → ∃ r g' h', (bnd (m_X1_record g 0) fun (g46 : MG) => if bz y = true then bnd (m_X4_freeKeys (g_w g46 (20 + 15 * 0) 2 y) 0) fun (r64 : Int32) => some (r64, (g_w g46 (20 + 15 * 0) 2 y)) else none) = some (r, g') ∧ (bnd (m_X7_record h) fun (g41 : MG) => if vin (2 : Int32) 1385 then bnd (m_X7_freeKeys (g_w g41 1 (2 : Int32).toNatClampNeg y)) fun (r60 : Int32) => some (r60, (g_w g41 1 (2 : Int32).toNatClampNeg y)) else none) = some (r, h') ∧ Rel QP g' h' := fun y hy => by
    obtain ⟨g1, h1, r1, r2, hT1, hf, hf2, hH1, hend⟩ := act_rel hT hR
    have hT2 : TB (g_w g1 (20 + 15 * 0) 2 y) 0 ((g_w h1 1 2 y).1 1) n c m u := hd_TB hT1 (fun k h1 h2 => gw_ne (by omega)) (fun i hi => by rw [gw_at, if_neg (by omega)]) (by
      have hct1 := hT1.2.2.1
      have L : ∀ j, (g_w g1 (20 + 15 * 0) 2 y).1 20 j = if j = 2 then y else g1.1 20 j := fun j => gw_at
      have R : ∀ j, (g_w h1 1 2 y).1 1 j = if j = 2 then y else h1.1 1 j := fun j => gw_at
      exact ⟨by rw [L, R, if_pos rfl, if_pos rfl], by rw [L, R, if_neg (by omega), if_neg (by omega)]; exact hct1.2.2.2.2.1, by rw [L, R, if_neg (by omega), if_neg (by omega)]; exact hct1.2.2.2.2.2⟩) (by
      rw [gw_at, if_pos rfl, gw_at, if_neg (by omega), gw_at, if_neg (by omega), hf2]
      exact ⟨hy, hhd.2⟩)
    have hbz : bz y = true := by
      simp only [bz, Bool.or_eq_true, beq_iff_eq]
      exact hy
    rw [bnd_e r1, bnd_e r2, if_pos hbz, if_pos vk2, ak2, bnd_e (c_freeKeys hT2), bnd_e (r_freeKeys (h := g_w h1 1 2 y) hT2.1 hT2.2.1)]
    exact ⟨_, _, _, rfl, rfl, hend _ _ rfl (fun k hk => gw_ne (by omega)) (fun k hk => gw_ne hk) ⟨_, _, _, _, hT2⟩⟩
  unfold m_X6_useDefault m_X7_useDefault
  rw [if_pos vk2]
  rcases hhd.1 with e | e
  · rw [if_neg (show ¬ h.1 1 (2 : Int32).toNatClampNeg = 1 by rw [ak2, e]; decide)]
    rcases hx with rfl | rfl
    · rw [if_pos (show g.1 (20 + 15 * 0) 2 = 0 by rw [c2]; exact e), if_pos rfl]
      exact ⟨_, _, _, rfl, rfl, hR⟩
    · rw [if_neg (show ¬ g.1 (20 + 15 * 0) 2 = 1 by rw [c2, e]; decide), if_neg ne', if_neg ne, if_neg ne]
      have := tail 1 (Or.inr rfl)
      simp only [if_neg ne]
      exact this
  · rw [if_pos (show h.1 1 (2 : Int32).toNatClampNeg = 1 by rw [ak2]; exact e)]
    rcases hx with rfl | rfl
    · rw [if_neg (show ¬ g.1 (20 + 15 * 0) 2 = 0 by rw [c2, e]; decide), if_neg ne, if_pos (show (0 : Int32) = 0 from rfl), if_pos (show (0 : Int32) = 0 from rfl), bnd_e (c_amount hT 60), bnd_e (r_rowsIn hT.1 60)]
      by_cases e1 : nI (cn (RP (h.1 1) 60) n) ≤ 0
      · rw [if_pos e1, if_pos e1]
        have := tail 0 (Or.inl rfl)
        simp only [if_pos]
        exact this
      · rw [if_neg e1, if_neg e1]
        exact ⟨_, _, _, rfl, rfl, hR⟩
    · rw [if_pos (show g.1 (20 + 15 * 0) 2 = 1 by rw [c2]; exact e), if_pos rfl]
      exact ⟨_, _, _, rfl, rfl, hR⟩
end
