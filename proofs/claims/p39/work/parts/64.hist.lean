/-! the history: a state is recorded -/
def rot (f : Nat → Nat) (i : Nat) : Nat → Nat := fun j => if j < i then f (j + 1) else if j = i then f 0 else f j
theorem rot_0 (f : Nat → Nat) : rot f 0 = f := by
  funext j
  unfold rot
  rw [if_neg (Nat.not_lt_zero j)]
  split
  · rename_i h; rw [h]
  · rfl
theorem rot_s (f : Nat → Nat) (i : Nat) : va_up (va_up (rot f i) i (rot f i (i + 1))) (i + 1) (rot f i i) = rot f (i + 1) := by
  funext j
  unfold va_up rot
  by_cases h1 : j = i + 1
  · rw [if_pos h1, if_neg (by omega), if_pos rfl, if_neg (by omega), if_pos h1]
  · rw [if_neg h1]
    by_cases h2 : j = i
    · rw [if_pos h2, if_neg (by omega), if_neg (by omega), if_pos (by omega), h2]
    · rw [if_neg h2]
      by_cases h3 : j < i
      · rw [if_pos h3, if_pos (by omega)]
      · rw [if_neg h3, if_neg h2, if_neg (by omega), if_neg h1]
section
variable {g : MG} {N : Nat → Int32} {n c m : Nat} {u : Nat → Nat}
theorem c_rotate (hb : ∀ j, j < 4 → 1 ≤ g.2 j ∧ g.2 j ≤ 4) : m_X1_putOldestLast g = some (g.1, rot g.2 3) := by
  have hrb : ∀ i j, i ≤ 3 → j < 4 → rot g.2 i j < 6 := fun i j hi hj => by
    unfold rot
    split
    · have := hb (j + 1) (by omega); omega
    · split
      · have := hb 0 (by omega); omega
      · have := hb j hj; omega
  unfold m_X1_putOldestLast
  refine lpo_eq (fun i z => z = (nI (1 + i), (g.1, rot g.2 i))) 3 (by omega) (by rw [rot_0]; rfl) ?_ ?_
  · rintro i z hi rfl
    have hp : nI (1 + i) - (1 : Int32) = nI i := by rw [Nat.add_comm]; exact nI_pred i
    right
    refine ⟨_, rfl, fun k => ?_⟩
    simp only [b_X1_putOldestLast_L2, m_X1_putOldestLast_L2]
    rw [if_neg (by rw [nI_leI (by omega) (by omega)]; omega), hp, if_pos ⟨vin_nI (by omega) (by omega), by rw [nI_clamp (by omega)]; exact hrb i i (by omega) (by omega)⟩, if_pos ⟨vin_nI (by omega) (by omega), by rw [nI_clamp (by omega)]; exact hrb i (1 + i) (by omega) (by omega)⟩, if_pos (vin_nI (by omega) (by omega)), if_pos (vin_nI (by omega) (by omega)), nI_1, nI_clamp (by omega), nI_clamp (by omega)]
    simp only [g_p]
    rw [Nat.add_comm 1 i, rot_s, show i + 1 + 1 = 1 + (i + 1) by omega]
  · rintro z rfl k
    simp only [b_X1_putOldestLast_L2, m_X1_putOldestLast_L2]
    rw [if_pos (nI_le (by omega) (by omega))]
theorem c_stateAt {j : Nat} (hj : j < 4) (hb : g.2 j < 6) : m_X1_stateAt g (nI j) = some (some (g.2 j)) := by
  unfold m_X1_stateAt
  rw [if_neg (nI_pos (by omega)), if_neg (by rw [nI_leI (by omega) (by omega)]; omega), if_pos ⟨vin_nI hj (by omega), by rw [nI_clamp (by omega)]; exact hb⟩, nI_clamp (by omega)]
theorem c_record (hT : TB g 0 N n c m u) {k : Nat} (hk4 : k ≤ 4) (hkk : g.1 1 3 = nI k) (hb : ∀ j, j < 4 → 1 ≤ g.2 j ∧ g.2 j ≤ 4) : ∃ g' T, m_X1_record g 0 = some g' ∧ 1 ≤ T ∧ T ≤ 4 ∧ TB g' T N n c m u ∧ (∀ x, ¬ (20 + 15 * T ≤ x ∧ x < 35 + 15 * T) → x ≠ 1 → g'.1 x = g.1 x) ∧ (∀ j, j ≠ 3 → g'.1 1 j = g.1 1 j) ∧ ((k < 4 ∧ g'.2 = g.2 ∧ T = g.2 k ∧ g'.1 1 3 = nI (k + 1)) ∨ (k = 4 ∧ g'.2 = rot g.2 3 ∧ T = g.2 0 ∧ g'.1 1 3 = nI 4)) := by
  unfold m_X1_record
  rcases Nat.lt_or_ge k 4 with h4 | h4
  · have hbk := hb k h4
    obtain ⟨G, e1, e2, e3, e4⟩ := c_copy (t := g.2 k) (t2 := 0) (by omega) hT
    rw [if_pos (by rw [hkk]; exact nI_lt h4 (by omega)), hkk, bnd_e (c_stateAt h4 (by omega))]
    simp only [optc]
    rw [if_pos (by omega), bnd_e e1]
    refine ⟨_, g.2 k, rfl, hbk.1, hbk.2, e4.cong (fun x h1 h2 => gw_ne (by omega)), fun x h1 h2 => by rw [gw_ne h2, e3 x h1], fun j hj => by rw [gw_at, if_neg hj, e3 1 (by omega)], Or.inl ⟨h4, by rw [gw_2, e2], rfl, by rw [gw_at, if_pos rfl, e3 1 (by omega), hkk, nI_1]⟩⟩
  · have hk : k = 4 := by omega
    subst hk
    have hb0 := hb 0 (by omega)
    have e34 : nI 4 - (1 : Int32) = nI 3 := nI_pred 3
    have hT1 : TB (g_w (g.1, rot g.2 3) 1 3 (nI 4 - (1 : Int32))) 0 N n c m u := hT.cong (fun x h1 h2 => by rw [gw_ne (by omega)])
    have hr3 : rot g.2 3 3 = g.2 0 := by unfold rot; rw [if_neg (by omega), if_pos rfl]
    obtain ⟨G, e1, e2, e3, e4⟩ := c_copy (t := g.2 0) (t2 := 0) (by omega) hT1
    have hidx : (g_w (g.1, rot g.2 3) 1 3 (nI 4 - (1 : Int32))).1 1 3 = nI 3 := by rw [gw_at, if_pos rfl, e34]
    have hst : m_X1_stateAt (g_w (g.1, rot g.2 3) 1 3 (nI 4 - (1 : Int32))) (nI 3) = some (some (g.2 0)) := by
      have h6 : (g_w (g.1, rot g.2 3) 1 3 (nI 4 - (1 : Int32))).2 3 < 6 := by
        show rot g.2 3 3 < 6
        rw [hr3]; omega
      rw [c_stateAt (by omega) h6]
      show some (some (rot g.2 3 3)) = _
      rw [hr3]
    rw [if_neg (by rw [hkk]; exact nI_nlt (by omega) (by omega)), bnd_e (c_rotate hb), hidx, bnd_e hst]
    simp only [optc]
    rw [if_pos (by omega), bnd_e e1]
    refine ⟨_, g.2 0, rfl, hb0.1, hb0.2, e4.cong (fun x h1 h2 => gw_ne (by omega)), fun x h1 h2 => by rw [gw_ne h2, e3 x h1, gw_ne h2], fun j hj => by rw [gw_at, if_neg hj, e3 1 (by omega), gw_at, if_neg hj], Or.inr ⟨by trivial, by rw [gw_2, e2, gw_2], rfl, by rw [gw_at, if_pos rfl, e3 1 (by omega), hidx, nI_1]⟩⟩
end
section
variable {h : MG}
theorem rec_same : b_X7_record_L51_1 = b_X7_record_L51 := rfl
theorem r_copyIn {k : Nat} (hk : k ≤ 3) (hkk : h.1 0 15 = nI k) : ∃ h', lpo b_X7_record_L51 fuelN ((0 : Int32), h) = some h' ∧ (∀ x, x ≠ 0 → x ≠ 3 → h'.1 x = h.1 x) ∧ (∀ j, j ≠ 15 → h'.1 0 j = h.1 0 j) ∧ h'.1 0 15 = nI (k + 1) ∧ (∀ i, i < 1385 * k → h'.1 3 i = h.1 3 i) ∧ ∀ i, i < 1385 → h'.1 3 (1385 * k + i) = h.1 1 i := by
  refine lpo_P (fun i z => ∃ G : MG, z = (nI i, G) ∧ (∀ x, x ≠ 3 → G.1 x = h.1 x) ∧ (∀ j, j < 1385 * k → G.1 3 j = h.1 3 j) ∧ ∀ j, j < i → G.1 3 (1385 * k + j) = h.1 1 j) 1385 _ 0 (by omega) (by omega) ⟨h, rfl, fun _ _ => rfl, fun _ _ => rfl, fun j hj => absurd hj (Nat.not_lt_zero j)⟩ ?_ ?_
  · rintro i z hi ⟨G, rfl, a1, a2, a3⟩
    have hidx : (1385 : Int32) * G.1 0 15 + nI i = nI (1385 * k + i) := by
      rw [a1 0 (by omega), hkk, show (1385 : Int32) = nI 1385 from rfl, pk_mul, nI_add]
    right
    refine ⟨(nI (i + 1), g_w G 3 (1385 * k + i) (G.1 1 i)), ⟨_, rfl, fun x hx => by rw [gw_ne hx, a1 x hx], fun j hj => by rw [gw_at, if_neg (by omega), a2 j hj], lt_up (fun j hj => by rw [gw_at, if_neg (by omega), a3 j hj]) (by rw [gw_at, if_pos rfl, a1 1 (by omega)])⟩, fun kk => ?_⟩
    simp only [b_X7_record_L51, m_X7_record_L51]
    rw [if_neg (by rw [show (1385 : Int32) = nI 1385 from rfl, nI_leI (by omega) (by omega)]; omega), if_pos (vin_nI hi (by omega)), hidx, if_pos (vin_nI (by omega) (by omega)), nI_clamp (by omega), nI_clamp (by omega), nI_1]
  · rintro z ⟨G, rfl, a1, a2, a3⟩ kk
    refine ⟨g_w G 0 15 (G.1 0 15 + (1 : Int32)), ?_, fun x h0 h3 => by rw [gw_ne h0, a1 x h3], fun j hj => by rw [gw_at, if_neg hj, a1 0 (by omega)], by rw [gw_at, if_pos rfl, a1 0 (by omega), hkk, nI_1], fun i hi => by rw [gw_ne (by omega), a2 i hi], fun i hi => by rw [gw_ne (by omega), a3 i hi]⟩
    simp only [b_X7_record_L51, m_X7_record_L51]
    rw [if_pos (show (1385 : Int32) ≤ nI 1385 by decide)]
theorem r_record {k : Nat} (hk4 : k ≤ 4) (hkk : h.1 0 15 = nI k) : ∃ h', m_X7_record h = some h' ∧ (∀ x, x ≠ 0 → x ≠ 3 → h'.1 x = h.1 x) ∧ (∀ j, j ≠ 15 → h'.1 0 j = h.1 0 j) ∧ ((k < 4 ∧ h'.1 0 15 = nI (k + 1) ∧ (∀ i, i < 1385 * k → h'.1 3 i = h.1 3 i) ∧ ∀ i, i < 1385 → h'.1 3 (1385 * k + i) = h.1 1 i) ∨ (k = 4 ∧ h'.1 0 15 = nI 4 ∧ (∀ i, i < 4155 → h'.1 3 i = h.1 3 (i + 1385)) ∧ ∀ i, i < 1385 → h'.1 3 (4155 + i) = h.1 1 i)) := by
  unfold m_X7_record
  rcases Nat.lt_or_ge k 4 with h4 | h4
  · obtain ⟨h', e1, e2, e3, e4, e5, e6⟩ := r_copyIn (by omega) hkk
    rw [if_neg (by rw [hkk, show (4 : Int32) = nI 4 from rfl, nI_eq (by omega) (by omega)]; omega)]
    exact ⟨h', e1, e2, e3, Or.inl ⟨h4, e4, e5, e6⟩⟩
  · have hk : k = 4 := by omega
    subst hk
    rw [if_pos (show h.1 0 15 = (4 : Int32) from hkk)]
    refine lpo_P (fun i z => ∃ G : MG, z = (nI i, G) ∧ (∀ x, x ≠ 3 → G.1 x = h.1 x) ∧ (∀ j, j < i → G.1 3 j = h.1 3 (j + 1385)) ∧ ∀ j, i ≤ j → G.1 3 j = h.1 3 j) 4155 _ 0 (by omega) (by omega) ⟨h, rfl, fun _ _ => rfl, fun j hj => absurd hj (Nat.not_lt_zero j), fun _ _ => rfl⟩ ?_ ?_
    · rintro i z hi ⟨G, rfl, a1, a2, a3⟩
      have hidx : nI i + (1385 : Int32) = nI (i + 1385) := nI_add i 1385
      right
      refine ⟨(nI (i + 1), g_w G 3 i (G.1 3 (i + 1385))), ⟨_, rfl, fun x hx => by rw [gw_ne hx, a1 x hx], lt_up (fun j hj => by rw [gw_at, if_neg (by omega), a2 j hj]) (by rw [gw_at, if_pos rfl, a3 _ (by omega)]), fun j hj => by rw [gw_at, if_neg (by omega), a3 j (by omega)]⟩, fun kk => ?_⟩
      simp only [b_X7_record_L10, m_X7_record_L10]
      rw [if_neg (by rw [show (4155 : Int32) = nI 4155 from rfl, nI_leI (by omega) (by omega)]; omega), hidx, if_pos (vin_nI (by omega) (by omega)), if_pos (vin_nI (by omega) (by omega)), nI_clamp (by omega), nI_clamp (by omega), nI_1]
    · rintro z ⟨G, rfl, a1, a2, a3⟩ kk
      have hk3 : (g_w G 0 15 (G.1 0 15 - (1 : Int32))).1 0 15 = nI 3 := by rw [gw_at, if_pos rfl, a1 0 (by omega), hkk]; exact nI_pred 3
      obtain ⟨h', e1, e2, e3, e4, e5, e6⟩ := r_copyIn (h := g_w G 0 15 (G.1 0 15 - (1 : Int32))) (k := 3) (by omega) hk3
      refine ⟨h', ?_, fun x h0 h3 => by rw [e2 x h0 h3, gw_ne h0, a1 x h3], fun j hj => by rw [e3 j hj, gw_at, if_neg hj, a1 0 (by omega)], Or.inr ⟨by trivial, e4, fun i hi => by rw [e5 i (by omega), gw_ne (by omega), a2 i hi], fun i hi => by
        have := e6 i hi
        rw [gw_ne (by omega), a1 1 (by omega)] at this
        exact this⟩⟩
      simp only [b_X7_record_L10, m_X7_record_L10]
      rw [if_pos (show (4155 : Int32) ≤ nI 4155 by decide), rec_same]
      exact e1
end
