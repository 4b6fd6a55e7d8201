/-! the law's loop -/
theorem so_ne {N : Nat → Int32} {n c m : Nat} {u : Nat → Nat} (hk : OkN N n c) (hs : SO N c m u) {i j : Nat} (hij : i < j) (hj : j < m) : u i ≠ u j := fun e => by
  have h1 := hs.2.2.2 i j hij hj
  obtain ⟨a, b⟩ := hs.2.1 j hj
  have h2 := (hk.2.2.2.1 (u j) a).2 b
  rw [e] at h1
  omega
theorem so_u {N : Nat → Int32} {n c m m' : Nat} {u u' : Nat → Nat} (hk : OkN N n c) (hs : SO N c m u) (hs' : SO N c m' u') : ∀ j, j < m → j < m' → u' j = u j := by
  intro j
  induction j using Nat.strongRecOn with
  | ind j ih =>
    intro hj hj'
    obtain ⟨a1, a2⟩ := hs.2.1 j hj
    obtain ⟨b1, b2⟩ := hs'.2.1 j hj'
    obtain ⟨k, k1, k2⟩ := hs'.2.2.1 (u j) a1 a2
    obtain ⟨r, r1, r2⟩ := hs.2.2.1 (u' j) b1 b2
    have la := (hk.2.2.2.1 (u j) a1).2 a2
    have lb := (hk.2.2.2.1 (u' j) b1).2 b2
    rcases Nat.lt_trichotomy k j with z | z | z
    · exfalso
      have := ih k z (by omega) (by omega)
      exact so_ne hk hs z hj (this.symm.trans k2)
    · rw [← k2, z]
    · rcases Nat.lt_trichotomy r j with y | y | y
      · exfalso
        have := ih r y (by omega) (by omega)
        exact so_ne hk hs' y hj' (this.trans r2)
      · rw [← r2, y]
      · exfalso
        have h1 := hs'.2.2.2 j k z k1
        have h2 := hs.2.2.2 j r y r1
        rw [k2] at h1
        rw [r2] at h2
        omega
theorem so_m {N : Nat → Int32} {n c m m' : Nat} {u u' : Nat → Nat} (hk : OkN N n c) (hs : SO N c m u) (hs' : SO N c m' u') : m' ≤ m := by
  rcases Nat.lt_or_ge m m' with z | z
  · exfalso
    obtain ⟨b1, b2⟩ := hs'.2.1 m z
    obtain ⟨r, r1, r2⟩ := hs.2.2.1 (u' m) b1 b2
    have := so_u hk hs hs' r r1 (by omega)
    exact so_ne hk hs' r1 z (this.trans r2)
  · exact z
section
variable {g g' : MG} {N : Nat → Int32} {n c m m' : Nat} {u u' : Nat → Nat}
theorem tb_u (hT : TB g 0 N n c m u) (hT' : TB g' 0 N n c m' u') : TB g' 0 N n c m u := by
  have e1 := so_m hT.1 hT.2.1 hT'.2.1
  have e2 := so_m hT.1 hT'.2.1 hT.2.1
  have e : m' = m := by omega
  subst e
  have hu := so_u hT.1 hT.2.1 hT'.2.1
  obtain ⟨h1, h2, h3, h4, h5⟩ := hT'
  refine ⟨h1, hT.2.1, h3, h4, fun j hj => ?_⟩
  rw [← hu j hj hj]
  exact h5 j hj
def Iv (g : MG) : Prop := ∃ N n c m u, TB g 0 N n c m u ∧ HO g ∧ Gd N n c
theorem l_194 (hT : TB g 0 N n c m u) (hH : HO g) (hG : Gd N n c) (L : Nat) (xs : Nat → Int32) (e : Nat) (v3 v4 : Int32) : ∃ g', Iv g' ∧ ∀ k, m_L_law_J194 k L xs (nI e) v3 v4 g = k (nI (e + 1), g') := by
  obtain ⟨g1, a1, ⟨m1, u1, a2⟩, a3, -⟩ := z_back hT hH hG (v3 >>> ((5 : Int32) &&& 31)) v4
  obtain ⟨g2, b1, b2⟩ := z_turned a2 hG.1 (v4 >>> ((1 : Int32) &&& 31))
  have h10 : ¬ (1 : Int32) = 0 := by decide
  by_cases h : (nI e - nI e / (3 : Int32) * (3 : Int32)) = (2 : Int32)
  · refine ⟨g2, ⟨N, n, c, m1, u1, b2.T a2, b2.H a3, hG⟩, fun k => ?_⟩
    unfold m_L_law_J194
    rw [bnd_e (z_sums hT hG.1), if_neg h10, if_pos (show ¬ (3 : Int32) = 0 by decide), if_pos h, bnd2_e a1, if_neg h10, bnd2_e b1, if_neg h10, nI_1]
  · refine ⟨g, ⟨N, n, c, m, u, hT, hH, hG⟩, fun k => ?_⟩
    unfold m_L_law_J194
    rw [bnd_e (z_sums hT hG.1), if_neg h10, if_pos (show ¬ (3 : Int32) = 0 by decide), if_neg h, nI_1]
theorem l_166 (hT : TB g 0 N n c m u) (hH : HO g) (hG : Gd N n c) (L : Nat) (xs : Nat → Int32) (e : Nat) (v3 v4 v7 : Int32) (hZ : lw (v3 >>> ((3 : Int32) &&& 31)) 16 = 13 → v7 < 0 ∨ cn (stB N c) n = 0) : ∃ g', Iv g' ∧ ∀ k, m_L_law_J166 k L xs (nI e) v3 v4 v7 g = k (nI (e + 1), g') := by
  obtain ⟨g', a1, a2⟩ := l_194 hT hH hG L xs e v3 v4
  have hlt := lww_lt (x := v3 >>> ((3 : Int32) &&& 31)) (d := 16) (by decide)
  refine ⟨g', a1, fun k => ?_⟩
  unfold m_L_law_J166
  rw [bnd_e (low_l (16 : Int32) (k := 16) rfl (by decide) (by decide)), a2]
  by_cases h : nI (lw (v3 >>> ((3 : Int32) &&& 31)) 16) = (13 : Int32)
  · rw [if_pos h]
    by_cases h7 : v7 < 0
    · rw [if_pos h7]
    · have h13 : lw (v3 >>> ((3 : Int32) &&& 31)) 16 = 13 := (nI_eq (b := 13) (by omega) (by omega)).mp h
      have hz : cn (stB N c) n = 0 := (hZ h13).resolve_left h7
      rw [if_neg h7, bnd_e (z_c5 hT), hz, if_pos (show nI 0 = (0 : Int32) from rfl)]
  · rw [if_neg h]
theorem cell_e {L : Nat} (xs : Nat → Int32) (hL : L ≤ 260) (k : Nat) (hk : k < 1000) : ∃ r, m_L_cell L xs (nI k) = some r := by
  unfold m_L_cell
  by_cases h : nI L ≤ nI k
  · rw [if_pos h]
    exact ⟨_, rfl⟩
  · rw [nI_leI (by omega) (by omega)] at h
    rw [if_neg (fun w => h ((nI_leI (by omega) (by omega)).mp w)), if_pos (vin_nI (by omega) (by omega))]
    exact ⟨_, rfl⟩
theorem l_10 (h : Iv g) {L : Nat} (xs : Nat → Int32) (hL : L ≤ 260) {e : Nat} (he : e < 28) : ∃ g', Iv g' ∧ ∀ k, m_L_law_L10 k L xs (nI e) g = k (nI (e + 1), g') := by
  obtain ⟨N, n, c, m, u, hT, hH, hG⟩ := h
  have e2 : (2 : Int32) * nI e = nI (2 * e) := by
    rw [show (2 : Int32) = nI 2 from rfl, pk_mul]
  obtain ⟨x1, hx1⟩ := cell_e xs hL (2 * e) (by omega)
  obtain ⟨x2, hx2⟩ := cell_e xs hL (2 * e + 1) (by omega)
  have h28 : ¬ (28 : Int32) ≤ nI e := fun w => by
    have := (nI_leI (a := 28) (by omega) (by omega)).mp w
    omega
  have h10 : ¬ (1 : Int32) = 0 := by decide
  rcases e_act hT hG x1 x2 with ⟨r, h1, h2⟩ | ⟨r, N', n', c', h1, h2, h3, h4⟩
  · obtain ⟨g1, a1, a2⟩ := h2 g m u hT hH
    have hT1 := a2.T hT
    obtain ⟨g', b1, b2⟩ := l_166 hT1 (a2.H hH) hG L xs e x1 x2 r (fun _ => Or.inl h1)
    refine ⟨g', b1, fun k => ?_⟩
    have a1 : m_L_act g x1 x2 = some (r, g1) := a1
    have hr : ¬ 0 ≤ r := Int32.not_le.mpr h1
    unfold m_L_law_L10
    rw [if_neg h28, e2, bnd_e hx1, nI_1, bnd_e hx2, bnd_e (z_tell hT), bnd_e z_c11, bnd2_e a1, bnd_e (z_tell hT1), if_neg hr, bnd_e (z_same (tell_cg hT hT1)), if_neg h10, bnd_e z_c11, if_pos (show g1.1 1 3 = g.1 1 3 by rw [a2.2 1 (by omega)]), if_pos h1, b2]
  · obtain ⟨g1, a1, d1⟩ := h4 g m u hT hH
    have a1 : m_L_act g x1 x2 = some (r, g1) := a1
    obtain ⟨⟨m1, u1, hT1⟩, hH1, hp, -, -, kk, k1, k2, k3⟩ := d1
    have hr : 0 ≤ r := Int32.not_lt.mp h1
    by_cases hl : nI (lw x1 4) = 0
    · obtain ⟨g2, k', f1, f2, f3, ⟨m2, u2, f4⟩, f5, -⟩ := undo_u hH1 hp
      have hkk : k' = kk := by
        have := f2.symm.trans k2
        rw [nI_eq (by omega) (by omega)] at this
        omega
      subst hkk
      have hT2 := tb_u hT f4
      obtain ⟨g3, i1, i2⟩ := h4 g2 m u hT2 f5
      have i1 : m_L_act g2 x1 x2 = some (r, g3) := i1
      obtain ⟨⟨m3, u3, i3⟩, hH3, -⟩ := i2
      have hT3 := tb_u hT1 i3
      obtain ⟨g', b1, b2⟩ := l_166 hT3 hH3 h2 L xs e x1 x2 r (fun z => Or.inr (h3 z))
      refine ⟨g', b1, fun k => ?_⟩
      unfold m_L_law_L10
      rw [if_neg h28, e2, bnd_e hx1, nI_1, bnd_e hx2, bnd_e (z_tell hT), bnd_e z_c11, bnd2_e a1, bnd_e (z_tell hT1), if_pos hr, if_neg h1, bnd_e (low_l (4 : Int32) (k := 4) rfl (by decide) (by decide)), if_pos hl, bnd2_e f3, bnd_e (z_tell hT2), bnd_e (z_same (tell_cg hT2 hT)), if_neg h10]
      rcases k3 with w | ⟨w, w'⟩
      · have h4' : ¬ g.1 1 3 = (4 : Int32) := by
          rw [w, show (4 : Int32) = nI 4 from rfl, nI_eq (by omega) (by omega)]
          omega
        rw [if_neg h4', if_pos w.symm, bnd2_e i1, if_pos rfl, bnd_e (z_tell hT3), bnd_e (z_same (tell_cg hT3 hT1)), if_neg h10, b2]
      · rw [if_pos (show g.1 1 3 = (4 : Int32) from w), if_pos (show nI k' = (3 : Int32) by rw [w']; rfl), bnd2_e i1, if_pos rfl, bnd_e (z_tell hT3), bnd_e (z_same (tell_cg hT3 hT1)), if_neg h10, b2]
    · obtain ⟨g', b1, b2⟩ := l_166 hT1 hH1 h2 L xs e x1 x2 r (fun z => Or.inr (h3 z))
      refine ⟨g', b1, fun k => ?_⟩
      unfold m_L_law_L10
      rw [if_neg h28, e2, bnd_e hx1, nI_1, bnd_e hx2, bnd_e (z_tell hT), bnd_e z_c11, bnd2_e a1, bnd_e (z_tell hT1), if_pos hr, if_neg h1, bnd_e (low_l (4 : Int32) (k := 4) rfl (by decide) (by decide)), if_neg hl, b2]
end
theorem iv_st : Iv g_c0 := by
  refine ⟨g_m0.1 1, 0, 0, 0, fun _ => 0, ⟨⟨⟨rfl, by omega, rfl, by omega⟩, ⟨Or.inr rfl, ⟨by decide, by decide⟩, Or.inl rfl⟩, fun i hi => absurd hi (Nat.not_lt_zero i), fun q hq => absurd hq (Nat.not_lt_zero q), fun q r hq => absurd hq (Nat.not_lt_zero q), by decide⟩, ⟨by omega, fun j hj => absurd hj (Nat.not_lt_zero j), fun q hq => absurd hq (Nat.not_lt_zero q), fun i j _ hj => absurd hj (Nat.not_lt_zero j)⟩, ⟨rfl, rfl, rfl, rfl, rfl, rfl⟩, fun i hi => absurd hi (Nat.not_lt_zero i), fun j hj => absurd hj (Nat.not_lt_zero j)⟩, ⟨fun j hj => ⟨Nat.succ_pos j, hj⟩, fun i j _ _ e => Nat.succ.inj e, 0, by omega, rfl⟩, fun i hi => absurd hi (Nat.not_lt_zero i), fun q _ => Nat.zero_le _⟩
theorem law_1 {L : Nat} (xs : Nat → Int32) (hL : L ≤ 260) : m_L_law g_c0 L xs = some 1 := by
  unfold m_L_law
  refine lpo_eq (fun i X => ∃ g, X = (nI i, g) ∧ Iv g) 28 (by omega) ⟨g_c0, rfl, iv_st⟩ ?_ ?_
  · rintro i X hi ⟨g, rfl, hI⟩
    right
    obtain ⟨g', a1, a2⟩ := l_10 hI xs hL hi
    exact ⟨_, ⟨g', rfl, a1⟩, a2⟩
  · rintro X ⟨g, rfl, -⟩ k
    show m_L_law_L10 k L xs (nI 28) g = _
    unfold m_L_law_L10
    rw [if_pos (show (28 : Int32) ≤ nI 28 by decide)]
