/-! put, stage, take, rekey, set, useDefault -/
theorem c30 {k : Nat} (hk : k < 2 ^ 31) : (30 : Int32) ≤ nI k ↔ 30 ≤ k := nI_leI (a := 30) (by omega) hk
theorem c20 {k : Nat} (hk : k < 2 ^ 31) : (20 : Int32) ≤ nI k ↔ 20 ≤ k := nI_leI (a := 20) (by omega) hk
theorem l20 {k : Nat} (hk : k < 2 ^ 31) : nI k ≤ (20 : Int32) ↔ k ≤ 20 := nI_leI (b := 20) hk (by omega)
theorem l30 {k : Nat} (hk : k < 2 ^ 31) : nI k ≤ (30 : Int32) ↔ k ≤ 30 := nI_leI (b := 30) hk (by omega)
theorem t30 {k : Nat} (hk : k < 2 ^ 31) : nI k < (30 : Int32) ↔ k < 30 := nI_ltI (b := 30) hk (by omega)
theorem t400 {k : Nat} (hk : k < 2 ^ 31) : nI k < (400 : Int32) ↔ k < 400 := nI_ltI (b := 400) hk (by omega)
theorem key_nn {x : Int32} (h : 0 ≤ x.toInt) : ¬ x < 0 := fun w => by
  have h1 := Int32.lt_iff_toInt_lt.mp w
  have h0 : ((0 : Int32)).toInt = 0 := by decide
  omega
theorem cn_one (i : Nat) : ∀ n, cn (fun j => decide (j = i)) n ≤ 1
  | 0 => Nat.zero_le 1
  | n + 1 => by
    by_cases e : n = i
    · have h0 : cn (fun j => decide (j = i)) n = 0 := cn_0 (fun j hj => decide_eq_false (by omega))
      rw [cn_s (p := fun j => decide (j = i)) (decide_eq_true e), h0]
      exact Nat.le_refl 1
    · rw [cn_n (p := fun j => decide (j = i)) (decide_eq_false e)]
      exact cn_one i n
section
variable {g g' G : MG} {N N' : Nat → Int32} {n c m n' c' m' : Nat} {u u' : Nat → Nat}
theorem dfo_rows {n' : Nat} (hD : DfO N n c) (hc : c ≤ 60) (hg : ∀ i, i = 2 ∨ 1205 ≤ i → N' i = N i) (h : ∀ i, i < n' → N' (805 + i) = 60 → (i < n ∧ N (805 + i) = 60 ∧ N' (5 + i) = N (5 + i)) ∨ HomR N c (N' (5 + i)) 60) : DfO N' n' c := by
  refine dfo_cg hD hc hc (hg 2 (Or.inl rfl)) (fun i hi hp => ?_)
  rcases h i hi hp with ⟨a, b, d⟩ | h
  · exact Or.inl ⟨a, b, d, fun q hq => ⟨q, own_cg (Nat.le_refl c) hq (hg _ (by omega)) (hg _ (by omega)) (hg _ (by omega))⟩⟩
  · exact Or.inr ((hom_cong hc (hg 2 (Or.inl rfl)) (fun i hi => hg i (Or.inr hi))).mpr h)
theorem dfo_apd (hk : OkN N n c) (hD : DfO N n c) (hn : n < 400) {k v p : Int32} (hp : p = 60 → HomR N c k 60) : DfO (apd N n k v p) (n + 1) c := by
  refine dfo_rows hD hk.1.2.2.2 (fun i hi => apd_o (by omega) (by omega) (by omega) (by omega)) (fun i hi hp' => ?_)
  rcases (show i < n ∨ i = n by omega) with a | rfl
  · rw [apd_o (by omega) (by omega) (by omega) (by omega)] at hp'
    exact Or.inl ⟨a, hp', apd_o (by omega) (by omega) (by omega) (by omega)⟩
  · rw [apd_p] at hp'
    rw [apd_k hn]
    exact Or.inr (hp hp')
theorem p30_apd (h : P30 N n) (hn : n < 400) {k v p : Int32} (hp : cn (RP N p) n + 1 ≤ 30) : P30 (apd N n k v p) (n + 1) := fun q hq => by
  have hcg : cn (RP (apd N n k v p) (nI q)) n = cn (RP N (nI q)) n := cn_congr (fun i hi => by unfold RP; rw [apd_o (by omega) (by omega) (by omega) (by omega)])
  cases hb : RP (apd N n k v p) (nI q) n with
  | false => rw [cn_n hb, hcg]; exact h q hq
  | true =>
    have e := rp_iff.mp hb
    rw [apd_p] at e
    rw [cn_s hb, hcg, ← e]
    exact hp
/-- one row is laid elsewhere -/
theorem p30_w1 (h : P30 N n) {i : Nat} {t : Int32} (ht : t = -1 ∨ t = N (805 + i) ∨ cn (RP N t) n + 1 ≤ 30) : P30 (w1 N (805 + i) t) n := fun q hq => by
  have hle : ∀ j, j < n → RP (w1 N (805 + i) t) (nI q) j = true → RP N (nI q) j = true ∨ (j = i ∧ t = nI q) := fun j hj hp => by
    have e := rp_iff.mp hp
    by_cases e2 : j = i
    · rw [e2, w1_eq] at e
      exact Or.inr ⟨e2, e⟩
    · rw [w1_ne (by omega)] at e
      exact Or.inl (rp_iff.mpr e)
  by_cases et : t = nI q
  · rcases ht with e | e | e
    · exact absurd (et.symm.trans e) (nI_ne_m (by omega) (by decide))
    · refine Nat.le_trans (cn_mono (fun j hj hp => ?_)) (h q hq)
      rcases hle j hj hp with w | ⟨rfl, w⟩
      · exact w
      · exact rp_iff.mpr (e.symm.trans w)
    · rw [et] at e
      refine Nat.le_trans (cn_split (a := RP N (nI q)) (b := fun j => decide (j = i)) (fun j hj hp => ?_)) (Nat.le_trans (Nat.add_le_add_left (cn_one i n) _) e)
      rcases hle j hj hp with w | ⟨rfl, w⟩
      · exact Or.inl w
      · exact Or.inr (decide_eq_true rfl)
  · refine Nat.le_trans (cn_mono (fun j hj hp => ?_)) (h q hq)
    rcases hle j hj hp with w | ⟨-, w⟩
    · exact w
    · exact absurd w et
theorem e_put (hk : OkN N n c) (hG : Gd N n c) (x y : Int32) : ActX (fun g => m_X6_put g x y) N n c := by
  obtain ⟨hD, hP30⟩ := hG
  have ne : ¬ (1 : Int32) = 0 := by decide
  have hn := hk.1.2.1
  by_cases e1 : 0 ≤ x.toInt ∧ x.toInt < 1000
  · by_cases e2 : -999 ≤ y.toInt ∧ y.toInt ≤ 999
    · obtain ⟨r, hr⟩ := hom_ex N c hk.2.1.1 x
      have hcn := cn_le (RP N r) n
      by_cases e3 : r = -1005
      · refine ActX.no (-1004) (by decide) (fun g m u hT => ?_)
        unfold m_X6_put
        rw [bnd_e (c_isKey x), if_pos e1, if_neg ne, bnd_e (c_isValue y), if_pos e2, if_neg ne, bnd_e (home_e hT hr), if_pos e3]
      · by_cases e4 : 30 ≤ cn (RP N r) n
        · refine ActX.no (-1003) (by decide) (fun g m u hT => ?_)
          unfold m_X6_put
          rw [bnd_e (c_isKey x), if_pos e1, if_neg ne, bnd_e (c_isValue y), if_pos e2, if_neg ne, bnd_e (home_e hT hr), if_neg e3, bnd_e (c_amount hT r), if_pos ((c30 (by omega)).mpr e4)]
        · by_cases e5 : n < 400
          · refine ActX.yes (nI n) (apd N n x y r) (n + 1) c (nI_pos (by omega)) ⟨dfo_apd hk hD e5 (fun e => e ▸ hr), p30_apd hP30 e5 (by omega)⟩ (fun g m u g1 hT h1 hT1 => ?_)
            obtain ⟨G, a1, a2, a3, a4⟩ := tb_append hT1 e5 e1 e2 (hom_pl hr e3) (Or.inl (hom_61 hk hr))
            refine ⟨G, m, u, ?_, a2, a3, a4⟩
            unfold m_X6_put
            rw [bnd_e (c_isKey x), if_pos e1, if_neg ne, bnd_e (c_isValue y), if_pos e2, if_neg ne, bnd_e (home_e hT hr), if_neg e3, bnd_e (c_amount hT r), if_neg (fun w => e4 ((c30 (by omega)).mp w)), hT.came, if_pos ((t400 (by omega)).mpr e5), bnd_e h1, bnd2_e a1]
          · refine ActX.no (-1003) (by decide) (fun g m u hT => ?_)
            unfold m_X6_put
            rw [bnd_e (c_isKey x), if_pos e1, if_neg ne, bnd_e (c_isValue y), if_pos e2, if_neg ne, bnd_e (home_e hT hr), if_neg e3, bnd_e (c_amount hT r), if_neg (fun w => e4 ((c30 (by omega)).mp w)), hT.came, if_neg (fun w => e5 ((t400 (by omega)).mp w))]
    · refine ActX.no (-1002) (by decide) (fun g m u hT => ?_)
      unfold m_X6_put
      rw [bnd_e (c_isKey x), if_pos e1, if_neg ne, bnd_e (c_isValue y), if_neg e2, if_pos rfl]
  · refine ActX.no (-1002) (by decide) (fun g m u hT => ?_)
    unfold m_X6_put
    rw [bnd_e (c_isKey x), if_neg e1, if_pos rfl]
theorem e_stage (hk : OkN N n c) (hG : Gd N n c) (x y : Int32) : ActX (fun g => m_X6_stage g x y) N n c := by
  obtain ⟨hD, hP30⟩ := hG
  have ne : ¬ (1 : Int32) = 0 := by decide
  have hn := hk.1.2.1
  have hcn := cn_le (RP N 61) n
  by_cases e1 : 0 ≤ x.toInt ∧ x.toInt < 1000
  · by_cases e2 : -999 ≤ y.toInt ∧ y.toInt ≤ 999
    · by_cases e4 : 20 ≤ cn (RP N 61) n
      · refine ActX.no (-1003) (by decide) (fun g m u hT => ?_)
        unfold m_X6_stage
        rw [bnd_e (c_isKey x), if_pos e1, if_neg ne, bnd_e (c_isValue y), if_pos e2, if_neg ne, bnd_e (c_amount hT 61), if_pos ((c20 (by omega)).mpr e4)]
      · by_cases e5 : n < 400
        · refine ActX.yes (nI n) (apd N n x y 61) (n + 1) c (nI_pos (by omega)) ⟨dfo_apd hk hD e5 (fun e => absurd e (by decide)), p30_apd hP30 e5 (by omega)⟩ (fun g m u g1 hT h1 hT1 => ?_)
          obtain ⟨G, a1, a2, a3, a4⟩ := tb_append hT1 e5 e1 e2 (p := 61) (Or.inr (Or.inr (Or.inl rfl))) (Or.inr (by omega))
          refine ⟨G, m, u, ?_, a2, a3, a4⟩
          unfold m_X6_stage
          rw [bnd_e (c_isKey x), if_pos e1, if_neg ne, bnd_e (c_isValue y), if_pos e2, if_neg ne, bnd_e (c_amount hT 61), if_neg (fun w => e4 ((c20 (by omega)).mp w)), hT.came, if_pos ((t400 (by omega)).mpr e5), bnd_e h1, bnd2_e a1]
        · refine ActX.no (-1003) (by decide) (fun g m u hT => ?_)
          unfold m_X6_stage
          rw [bnd_e (c_isKey x), if_pos e1, if_neg ne, bnd_e (c_isValue y), if_pos e2, if_neg ne, bnd_e (c_amount hT 61), if_neg (fun w => e4 ((c20 (by omega)).mp w)), hT.came, if_neg (fun w => e5 ((t400 (by omega)).mp w))]
    · refine ActX.no (-1002) (by decide) (fun g m u hT => ?_)
      unfold m_X6_stage
      rw [bnd_e (c_isKey x), if_pos e1, if_neg ne, bnd_e (c_isValue y), if_neg e2, if_pos rfl]
  · refine ActX.no (-1002) (by decide) (fun g m u hT => ?_)
    unfold m_X6_stage
    rw [bnd_e (c_isKey x), if_neg e1, if_pos rfl]
theorem e_take (hk : OkN N n c) (hG : Gd N n c) (x : Int32) : ActX (fun g => m_X6_take g x) N n c := by
  obtain ⟨hD, hP30⟩ := hG
  have ne : ¬ (1 : Int32) = 0 := by decide
  have hn := hk.1.2.1
  have hc := hk.1.2.2.2
  rcases row_or n (by omega) x with ⟨i, hi, rfl⟩ | ho
  · by_cases e1 : N (805 + i) = -1
    · refine ActX.no (-1001) (by decide) (fun g m u hT => ?_)
      unfold m_X6_take
      rw [bnd_e (c_has hT hi), if_pos e1, if_pos rfl]
    · have hkey := (hk.2.2.1 i hi).1
      refine ActX.yes (N (5 + i)) (w1 N (805 + i) (-1)) n c (key_nn hkey.1) ⟨dfo_rows hD hc (fun j hj => w1_ne (by omega)) (fun j hj hp => ?_), p30_w1 hP30 (Or.inl (by decide))⟩ (fun g m u g1 hT h1 hT1 => ?_)
      · by_cases e : j = i
        · subst e
          rw [w1_eq] at hp
          exact absurd hp (by decide)
        · rw [w1_ne (by omega)] at hp
          exact Or.inl ⟨hj, hp, w1_ne (by omega)⟩
      · have hT2 := tb_set hT1 hi (q := -1) (Or.inl rfl) (Or.inl (by decide))
        refine ⟨g_w g1 28 i (-1), m, u, ?_, rfl, fun z hz => gw_ne (by omega), hT2⟩
        have hkq := c_key hT2 hi
        rw [w1_ne (by omega)] at hkq
        unfold m_X6_take
        rw [bnd_e (c_has hT hi), if_neg e1, if_neg ne, bnd_e h1, bnd_e (w_move (t := 0) (by omega) (-1)), bnd_e hkq]
  · refine ActX.no (-1001) (by decide) (fun g m u hT => ?_)
    unfold m_X6_take
    rw [bnd_e (c_has_out hT ho), if_pos rfl]
theorem e_rekey (hk : OkN N n c) (hG : Gd N n c) (x y : Int32) : ActX (fun g => m_X6_rekey g x y) N n c := by
  obtain ⟨hD, hP30⟩ := hG
  have ne : ¬ (1 : Int32) = 0 := by decide
  have hn := hk.1.2.1
  have hc := hk.1.2.2.2
  rcases row_or n (by omega) x with ⟨i, hi, rfl⟩ | ho
  · by_cases e1 : N (805 + i) = -1
    · refine ActX.no (-1001) (by decide) (fun g m u hT => ?_)
      unfold m_X6_rekey
      rw [bnd_e (c_has hT hi), if_pos e1, if_pos rfl]
    · have hkey := (hk.2.2.1 i hi).1
      by_cases e2 : 0 ≤ y.toInt ∧ y.toInt < 1000
      · by_cases e3 : N (5 + i) = y
        · refine ActX.no (-1005) (by decide) (fun g m u hT => ?_)
          unfold m_X6_rekey
          rw [bnd_e (c_has hT hi), if_neg e1, if_neg ne, bnd_e (c_isKey y), if_pos e2, if_neg ne, bnd_e (c_key hT hi), if_pos e3]
        · -- the tail
          have tail : ∀ q : Int32, PlOk N c q → (q ≠ 61 ∨ N (805 + i) = 61) → (q = 60 → HomR N c y 60) → (q = N (805 + i) ∨ cn (RP N q) n + 1 ≤ 30) → ∀ P : MG → Option (Int32 × MG), (∀ g m u, TB g 0 N n c m u → P g = bnd (m_X1_record g 0) fun (g133 : MG) => bnd (m_X3_changeKey g133 0 (nI i) y) fun (g145 : MG) => bnd (m_X3_move g145 0 (nI i) q) fun (g158 : MG) => some (N (5 + i), g158)) → ActX P N n c := by
            intro q hq hs h60 h30 P hP
            have hcgr : ∀ z, cn (RP (w1 N (5 + i) y) z) n = cn (RP N z) n := fun z => cn_congr (fun j hj => by unfold RP; rw [w1_ne (by omega)])
            refine ActX.yes (N (5 + i)) (w1 (w1 N (5 + i) y) (805 + i) q) n c (key_nn hkey.1) ⟨dfo_rows hD hc (fun j hj => by rw [w1_ne (by omega), w1_ne (by omega)]) (fun j hj hp => ?_), p30_w1 (p30_same hP30 (fun j hj => w1_ne (by omega))) (Or.inr (by rw [w1_ne (by omega), hcgr]; exact h30))⟩ (fun g m u g1 hT h1 hT1 => ?_)
            · by_cases e : j = i
              · subst e
                rw [w1_eq] at hp
                rw [w1_ne (by omega), w1_eq]
                exact Or.inr (h60 hp)
              · rw [w1_ne (by omega), w1_ne (by omega)] at hp
                exact Or.inl ⟨hj, hp, by rw [w1_ne (by omega), w1_ne (by omega)]⟩
            · have hT2 := tb_key hT1 hi e2
              have hT3 := tb_set hT2 hi (q := q) (by
                rcases hq with z | z | z | ⟨q', hq', z1, z2⟩
                · exact Or.inl z
                · exact Or.inr (Or.inl z)
                · exact Or.inr (Or.inr (Or.inl z))
                · exact Or.inr (Or.inr (Or.inr ⟨q', hq', z1, by rw [w1_ne (by omega)]; exact z2⟩))) (by rw [w1_ne (by omega)]; exact hs)
              have hck : m_X3_changeKey g1 0 (nI i) y = some (g_w g1 24 i y) := by
                unfold m_X3_changeKey
                rw [bnd_e (e_wr (by omega) (by omega))]
              refine ⟨g_w (g_w g1 24 i y) 28 i q, m, u, ?_, rfl, fun z hz => by rw [gw_ne (by omega), gw_ne (by omega)], hT3⟩
              rw [hP g m u hT, bnd_e h1, bnd_e hck, bnd_e (w_move (t := 0) (by omega) q)]
          by_cases e4 : N (805 + i) = 61
          · refine tail 61 (Or.inr (Or.inr (Or.inl rfl))) (Or.inr e4) (fun e => absurd e (by decide)) (Or.inl e4.symm) _ (fun g m u hT => ?_)
            show m_X6_rekey g (nI i) y = _
            unfold m_X6_rekey
            rw [bnd_e (c_has hT hi), if_neg e1, if_neg ne, bnd_e (c_isKey y), if_pos e2, if_neg ne, bnd_e (c_key hT hi), if_neg e3, bnd_e (c_place hT hi), if_pos e4, if_neg (show ¬ (61 : Int32) = -1005 by decide), if_pos e4.symm]
          · obtain ⟨r, hr⟩ := hom_ex N c hk.2.1.1 y
            have hcn := cn_le (RP N r) n
            by_cases e5 : r = -1005
            · refine ActX.no (-1004) (by decide) (fun g m u hT => ?_)
              unfold m_X6_rekey
              rw [bnd_e (c_has hT hi), if_neg e1, if_neg ne, bnd_e (c_isKey y), if_pos e2, if_neg ne, bnd_e (c_key hT hi), if_neg e3, bnd_e (c_place hT hi), if_neg e4, bnd_e (home_e hT hr), if_pos e5]
            · by_cases e6 : r = N (805 + i)
              · refine tail r (hom_pl hr e5) (Or.inl (hom_61 hk hr)) (fun e => e ▸ hr) (Or.inl e6) _ (fun g m u hT => ?_)
                show m_X6_rekey g (nI i) y = _
                unfold m_X6_rekey
                rw [bnd_e (c_has hT hi), if_neg e1, if_neg ne, bnd_e (c_isKey y), if_pos e2, if_neg ne, bnd_e (c_key hT hi), if_neg e3, bnd_e (c_place hT hi), if_neg e4, bnd_e (home_e hT hr), if_neg e5, if_pos e6]
              · by_cases e7 : nI (cn (RP N r) n) < (30 : Int32)
                · refine tail r (hom_pl hr e5) (Or.inl (hom_61 hk hr)) (fun e => e ▸ hr) (Or.inr (by have := (t30 (by omega)).mp e7; omega)) _ (fun g m u hT => ?_)
                  show m_X6_rekey g (nI i) y = _
                  unfold m_X6_rekey
                  rw [bnd_e (c_has hT hi), if_neg e1, if_neg ne, bnd_e (c_isKey y), if_pos e2, if_neg ne, bnd_e (c_key hT hi), if_neg e3, bnd_e (c_place hT hi), if_neg e4, bnd_e (home_e hT hr), if_neg e5, if_neg e6, bnd_e (c_amount hT r), if_pos e7]
                · refine ActX.no (-1003) (by decide) (fun g m u hT => ?_)
                  unfold m_X6_rekey
                  rw [bnd_e (c_has hT hi), if_neg e1, if_neg ne, bnd_e (c_isKey y), if_pos e2, if_neg ne, bnd_e (c_key hT hi), if_neg e3, bnd_e (c_place hT hi), if_neg e4, bnd_e (home_e hT hr), if_neg e5, if_neg e6, bnd_e (c_amount hT r), if_neg e7]
      · refine ActX.no (-1002) (by decide) (fun g m u hT => ?_)
        unfold m_X6_rekey
        rw [bnd_e (c_has hT hi), if_neg e1, if_neg ne, bnd_e (c_isKey y), if_neg e2, if_pos rfl]
  · refine ActX.no (-1001) (by decide) (fun g m u hT => ?_)
    unfold m_X6_rekey
    rw [bnd_e (c_has_out hT ho), if_pos rfl]
/-- a setting -/
theorem hd_act (hk : OkN N n c) {k : Nat} (hk2 : k = 2 ∨ k = 3 ∨ k = 4) {y : Int32} (hy : (k = 2 → y = 0 ∨ y = 1) ∧ (k = 3 → 0 ≤ y.toInt ∧ y.toInt ≤ 2) ∧ (k = 4 → y = 0 ∨ y = 1)) {g1 : MG} (hT1 : TB g1 0 N n c m u) : TB (g_w g1 (20 + 15 * 0) k y) 0 (w1 N k y) n c m u := by
  have hct := hT1.2.2.1
  have hhd := hk.2.1
  have L : ∀ j, (g_w g1 (20 + 15 * 0) k y).1 20 j = if j = k then y else g1.1 20 j := fun j => gw_at
  refine hd_TB hT1 (fun z h1 h2 => gw_ne (by omega)) (fun i hi => w1_ne (by omega)) ⟨?_, ?_, ?_⟩ ⟨?_, ?_, ?_⟩
  · rw [L]; unfold w1
    by_cases e : 2 = k
    · rw [if_pos e, if_pos e]
    · rw [if_neg e, if_neg e]; exact hct.2.2.2.1
  · rw [L]; unfold w1
    by_cases e : 3 = k
    · rw [if_pos e, if_pos e]
    · rw [if_neg e, if_neg e]; exact hct.2.2.2.2.1
  · rw [L]; unfold w1
    by_cases e : 4 = k
    · rw [if_pos e, if_pos e]
    · rw [if_neg e, if_neg e]; exact hct.2.2.2.2.2
  · unfold w1
    by_cases e : 2 = k
    · rw [if_pos e]; exact hy.1 e.symm
    · rw [if_neg e]; exact hhd.1
  · unfold w1
    by_cases e : 3 = k
    · rw [if_pos e]; exact hy.2.1 e.symm
    · rw [if_neg e]; exact hhd.2.1
  · unfold w1
    by_cases e : 4 = k
    · rw [if_pos e]; exact hy.2.2 e.symm
    · rw [if_neg e]; exact hhd.2.2
theorem e_set (hk : OkN N n c) (hG : Gd N n c) {x y : Int32} (hx : x = 0 ∨ x = 1) (hy : y = 0 ∨ y = 1) : ActX (fun g => m_X6_set g x y) N n c := by
  obtain ⟨hD, hP30⟩ := hG
  have n10 : ¬ (1 : Int32) = 0 := by decide
  have hc := hk.1.2.2.2
  have hy0 : ¬ y < 0 ∧ y ≤ 2 ∧ y ≤ 1 ∧ 0 ≤ y.toInt ∧ y.toInt ≤ 2 := by rcases hy with rfl | rfl <;> decide
  have hd3 : ∀ k, k = 3 ∨ k = 4 → DfO (w1 N k y) n c := fun k hkk => dfo_rows hD hc (fun j hj => w1_ne (by omega)) (fun j hj hp => by
    rw [w1_ne (by omega)] at hp
    exact Or.inl ⟨hj, hp, w1_ne (by omega)⟩)
  rcases hx with rfl | rfl
  · by_cases e : N 3 = y
    · refine ActX.no (-1005) (by decide) (fun g m u hT => ?_)
      have c3 : g.1 (20 + 15 * 0) 3 = N 3 := hT.2.2.1.2.2.2.2.1
      unfold m_X6_set
      rw [if_neg (by decide), if_neg (by decide), if_neg hy0.1, if_pos rfl, if_pos hy0.2.1, if_pos rfl, if_pos (c3.trans e)]
    · refine ActX.yes (N 3) (w1 N 3 y) n c (key_nn hk.2.1.2.1.1) ⟨hd3 3 (Or.inl rfl), p30_same hP30 (fun j hj => w1_ne (by omega))⟩ (fun g m u g1 hT h1 hT1 => ?_)
      have c3 : g.1 (20 + 15 * 0) 3 = N 3 := hT.2.2.1.2.2.2.2.1
      refine ⟨g_w g1 (20 + 15 * 0) 3 y, m, u, ?_, rfl, fun z hz => gw_ne (by omega), hd_act hk (k := 3) (y := y) (Or.inr (Or.inl rfl)) ⟨fun e => absurd e (by decide), fun _ => hy0.2.2.2, fun e => absurd e (by decide)⟩ hT1⟩
      unfold m_X6_set
      rw [if_neg (by decide), if_neg (by decide), if_neg hy0.1, if_pos rfl, if_pos hy0.2.1, if_pos rfl, if_neg (fun w => e (c3.symm.trans w)), bnd_e h1, if_pos rfl, c3]
  · by_cases e : N 4 = y
    · refine ActX.no (-1005) (by decide) (fun g m u hT => ?_)
      have c4 : g.1 (20 + 15 * 0) 4 = N 4 := hT.2.2.1.2.2.2.2.2
      unfold m_X6_set
      rw [if_neg (by decide), if_neg (by decide), if_neg hy0.1, if_neg n10, if_pos hy0.2.2.1, if_neg n10, if_pos (c4.trans e)]
    · refine ActX.yes (N 4) (w1 N 4 y) n c (by rcases hk.2.1.2.2 with w | w <;> rw [w] <;> decide) ⟨hd3 4 (Or.inr rfl), p30_same hP30 (fun j hj => w1_ne (by omega))⟩ (fun g m u g1 hT h1 hT1 => ?_)
      have c4 : g.1 (20 + 15 * 0) 4 = N 4 := hT.2.2.1.2.2.2.2.2
      refine ⟨g_w g1 (20 + 15 * 0) 4 y, m, u, ?_, rfl, fun z hz => gw_ne (by omega), hd_act hk (k := 4) (y := y) (Or.inr (Or.inr rfl)) ⟨fun e => absurd e (by decide), fun e => absurd e (by decide), fun _ => hy⟩ hT1⟩
      unfold m_X6_set
      rw [if_neg (by decide), if_neg (by decide), if_neg hy0.1, if_neg n10, if_pos hy0.2.2.1, if_neg n10, if_neg (fun w => e (c4.symm.trans w)), bnd_e h1, if_neg n10, c4]
/-- how many keys are free -/
theorem free_b (hk : OkN N n c) (hs : SO N c m u) : ∀ j, j ≤ m → 0 ≤ (smU (fun q => N (1325 + q) - N (1265 + q)) u j).toInt ∧ (smU (fun q => N (1325 + q) - N (1265 + q)) u j).toInt ≤ (gLo N u j).toInt
  | 0, _ => ⟨(by decide : (0 : Int) ≤ ((0 : Int32)).toInt), (by decide : ((0 : Int32)).toInt ≤ ((0 : Int32)).toInt)⟩
  | j + 1, hj => by
    obtain ⟨h1, h2⟩ := free_b hk hs j (by omega)
    have hb := u_b hk hs (j := j) (by omega)
    have hg := gl_gh hk hs (a := j) (by omega)
    have hgb := gl_b hk hs (a := j) (by omega)
    rw [gHi_u (by omega)] at hg
    have e1 : (N (1325 + u j) - N (1265 + u j)).toInt = (N (1325 + u j)).toInt - (N (1265 + u j)).toInt := i_sub (by omega) (by omega)
    rw [gLo_s]
    show 0 ≤ (smU _ u j + (N (1325 + u j) - N (1265 + u j))).toInt ∧ (smU _ u j + (N (1325 + u j) - N (1265 + u j))).toInt ≤ _
    rw [i_add (by rw [e1]; omega) (by rw [e1]; omega), e1]
    omega
theorem free_nn (hk : OkN N n c) (hs : SO N c m u) : ¬ (1000 : Int32) - smU (fun q => N (1325 + q) - N (1265 + q)) u m < 0 := by
  obtain ⟨h1, h2⟩ := free_b hk hs m (Nat.le_refl m)
  have hgb := gl_b hk hs (a := m) (Nat.le_refl m)
  have e : ((1000 : Int32)).toInt = 1000 := by decide
  refine key_nn ?_
  rw [i_sub (by rw [e]; omega) (by rw [e]; omega), e]
  omega
theorem so_sum (hk : OkN N n c) (hs : SO N c m u) (f : Nat → Int32) : smU f u m = smI (alB N) f c := (al_bij hk hs f).2.symm
theorem e_useDefault (hk : OkN N n c) (hs : SO N c m u) (hG : Gd N n c) {x : Int32} (hx : x = 0 ∨ x = 1) : ActX (fun g => m_X6_useDefault g x) N n c := by
  obtain ⟨hD, hP30⟩ := hG
  have ne : ¬ (1 : Int32) = 0 := by decide
  have hc := hk.1.2.2.2
  have hbz : bz x = true := by
    simp only [bz, Bool.or_eq_true, beq_iff_eq]
    exact hx
  have hcn := cn_le (RP N 60) n
  have hn := hk.1.2.1
  have tail : (∀ i, i < n → ¬ N (805 + i) = 60) → ∀ P : MG → Option (Int32 × MG), (∀ g m u, TB g 0 N n c m u → P g = bnd (m_X1_record g 0) fun (g46 : MG) => if bz x = true then bnd (m_X4_freeKeys (g_w g46 (20 + 15 * 0) 2 x) 0) fun (r64 : Int32) => some (r64, (g_w g46 (20 + 15 * 0) 2 x)) else none) → ActX P N n c := by
    intro hno P hP
    refine ActX.yes ((1000 : Int32) - smU (fun q => N (1325 + q) - N (1265 + q)) u m) (w1 N 2 x) n c (free_nn hk hs) ⟨fun i hi hp => absurd (by rw [w1_ne (by omega)] at hp; exact hp) (hno i hi), p30_same hP30 (fun j hj => w1_ne (by omega))⟩ (fun g m' u' g1 hT h1 hT1 => ?_)
    have hT2 := hd_act hk (k := 2) (y := x) (Or.inl rfl) ⟨fun _ => hx, fun e => absurd e (by decide), fun e => absurd e (by decide)⟩ hT1
    refine ⟨g_w g1 (20 + 15 * 0) 2 x, m', u', ?_, rfl, fun z hz => gw_ne (by omega), hT2⟩
    have hcg : ∀ q, (w1 N 2 x) (1325 + q) - (w1 N 2 x) (1265 + q) = N (1325 + q) - N (1265 + q) := fun q => by rw [w1_ne (by omega), w1_ne (by omega)]
    rw [hP g m' u' hT, bnd_e h1, if_pos hbz, bnd_e (c_freeKeys hT2)]
    simp only [hcg]
    rw [so_sum hk hs, so_sum hT.1 hT.2.1]
  by_cases e : N 2 = x
  · refine ActX.no (-1005) (by decide) (fun g m u hT => ?_)
    have c2 : g.1 (20 + 15 * 0) 2 = N 2 := hT.2.2.1.2.2.2.1
    unfold m_X6_useDefault
    rw [if_pos (c2.trans e)]
  · rcases hx with rfl | rfl
    · by_cases e2 : cn (RP N 60) n = 0
      · refine tail (fun i hi hp => ?_) _ (fun g m u hT => ?_)
        · have := cn_pos hi (rp_iff.mpr hp)
          omega
        · have c2 : g.1 (20 + 15 * 0) 2 = N 2 := hT.2.2.1.2.2.2.1
          show m_X6_useDefault g 0 = _
          unfold m_X6_useDefault
          rw [if_neg (fun w => e (c2.symm.trans w)), if_pos rfl, bnd_e (c_amount hT 60), if_pos ((nI_le0 (by omega)).mpr e2)]
      · refine ActX.no (-1004) (by decide) (fun g m u hT => ?_)
        have c2 : g.1 (20 + 15 * 0) 2 = N 2 := hT.2.2.1.2.2.2.1
        unfold m_X6_useDefault
        rw [if_neg (fun w => e (c2.symm.trans w)), if_pos rfl, bnd_e (c_amount hT 60), if_neg (fun w => e2 ((nI_le0 (by omega)).mp w))]
    · refine tail (fun i hi hp => ?_) _ (fun g m u hT => ?_)
      · exact e ((hom60 hc).mp (hD i hi hp)).2
      · have c2 : g.1 (20 + 15 * 0) 2 = N 2 := hT.2.2.1.2.2.2.1
        show m_X6_useDefault g 1 = _
        unfold m_X6_useDefault
        rw [if_neg (fun w => e (c2.symm.trans w)), if_neg ne]
end
