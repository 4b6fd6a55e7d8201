/-! a question and the same turned over -/
theorem cn_at {p : Nat → Bool} {k : Nat} : ∀ {n : Nat}, k < cn p n → ∃ j, j < n ∧ p j = true ∧ cn p j = k
  | 0, h => absurd h (Nat.not_lt_zero k)
  | n + 1, h => by
    rcases Nat.lt_or_ge k (cn p n) with z | z
    · obtain ⟨j, h1, h2, h3⟩ := cn_at z
      exact ⟨j, by omega, h2, h3⟩
    · cases hp : p n with
      | false =>
        rw [cn_n hp] at h
        omega
      | true =>
        rw [cn_s hp] at h
        exact ⟨n, Nat.lt_succ_self n, hp, by omega⟩
theorem cn_inc {p : Nat → Bool} {i : Nat} : ∀ {j : Nat}, i ≤ j → cn p i ≤ cn p j
  | 0, h => by
    have : i = 0 := by omega
    rw [this]
    exact Nat.le_refl _
  | j + 1, h => by
    rcases Nat.lt_or_ge i (j + 1) with z | z
    · have := cn_inc (p := p) (i := i) (j := j) (by omega)
      cases hp : p j with
      | false => rw [cn_n hp]; exact this
      | true => rw [cn_s hp]; omega
    · have : i = j + 1 := by omega
      rw [this]
      exact Nat.le_refl _
theorem rk_at {p : Nat → Bool} {n k : Nat} (hn : n ≤ 2000) (hk : k < cn p n) {r : Int32} (h : RkR p n (nI k) r) : ∃ j, j < n ∧ p j = true ∧ cn p j = k ∧ r = nI j := by
  obtain ⟨j, h1, h2, h3⟩ := cn_at hk
  have := rk_u hn h (Or.inl ⟨j, h1, h2, by rw [h3], rfl⟩)
  exact ⟨j, h1, h2, h3, this⟩
section
variable {g g' : MG} {tk o : List TK} {N : Nat → Int32} {n c m : Nat} {u : Nat → Nat}
theorem pv_an (hk : OkN N n c) {j : Nat} (hj : j < n) (h : anB tk N c (N 3) j = true) : pvF tk N n j = 1 := by
  have hw := an_wa hk hj h
  unfold waB at hw
  rw [Bool.and_eq_true] at hw
  unfold pvF
  have hne : ¬ N (805 + j) = -1 := fun e => by
    have := hw.1
    unfold itB at this
    rw [e] at this
    exact absurd this (by decide)
  rw [if_pos hj, if_neg hne, hw.2]
  rfl
theorem j358 (h : FQ tk N n c m u g) (hV : QV tk o) (hD : DfO N n c) (k14 : (Int32 × MG × (Nat → Int32)) → Option (Int32 × MG)) (x1 c3 v4 : Int32) (f : Nat → Int32) : ∃ G, m_L_turned_J358 k14 x1 c3 v4 (nI (cn (anB tk N c (N 3)) n)) g f = k14 (v4 + 1, G, f) ∧ CL5 g G := by
  have hn := h.1.n4
  have hA := cn_le (anB tk N c (N 3)) n
  unfold m_L_turned_J358
  generalize hcn : cn (anB tk N c (N 3)) n = A at hA ⊢
  obtain ⟨x, ⟨G, rfl, hG⟩, hx⟩ := lpo_fin (body := b_L_turned_L361 k14 f x1 c3 v4 (nI A)) (fun i X => ∃ G, X = (nI i, G) ∧ CL5 g G) A (fun X => m_L_turned_L361 (fun _ => none) k14 f x1 c3 v4 (nI A) X.1 X.2) (x0 := ((0 : Int32), g)) (by omega) ⟨g, rfl, CL5.rf g⟩ (by
    rintro i X hi ⟨G, rfl, c1⟩
    have hG := h.l5 c1
    obtain ⟨r1, g1, a1, a2, a3⟩ := k_answer hG hV (x := nI i) (nI_le (a := 0) (by omega) (by omega))
    obtain ⟨j, b1, b2, b3, rfl⟩ := rk_at (by omega) (by rw [hcn]; exact hi) a3
    obtain ⟨g2, d1, d2⟩ := k_passes (hG.l5 a2) hV (j := j) (by omega)
    rw [pv_an h.1.1 b1 b2] at d1
    by_cases h0 : i = 0
    · refine ⟨(nI (i + 1), g2), ⟨g2, rfl, (c1.tr a2).tr d2⟩, fun k => ?_⟩
      simp only [b_L_turned_L361, m_L_turned_L361]
      rw [if_neg (by rw [nI_leI (by omega) (by omega)]; omega), bnd2_e a1, bnd2_e d1, if_pos rfl, if_pos (by rw [h0]; decide), nI_1]
    · have hG2 := (hG.l5 a2).l5 d2
      obtain ⟨r3, g3, e1, e2, e3⟩ := k_answer hG2 hV (x := nI i) (nI_le (a := 0) (by omega) (by omega))
      have := rk_u (by omega) a3 e3
      subst this
      obtain ⟨i', rfl⟩ : ∃ i', i = i' + 1 := ⟨i - 1, by omega⟩
      obtain ⟨r4, g4, f1, f2, f3⟩ := k_answer (hG2.l5 e2) hV (x := nI i') (nI_le (a := 0) (by omega) (by omega))
      obtain ⟨j', j1, j2, j3, rfl⟩ := rk_at (by omega) (by rw [hcn]; omega) f3
      have hlt : j' < j := by
        rcases Nat.lt_or_ge j' j with z | z
        · exact z
        · have := cn_inc (p := anB tk N c (N 3)) z
          omega
      refine ⟨(nI (i' + 1 + 1), g4), ⟨g4, rfl, (((c1.tr a2).tr d2).tr e2).tr f2⟩, fun k => ?_⟩
      simp only [b_L_turned_L361, m_L_turned_L361]
      rw [if_neg (by rw [nI_leI (by omega) (by omega)]; omega), bnd2_e a1, bnd2_e d1, if_pos rfl, if_neg (show ¬ nI (i' + 1) ≤ 0 from fun w => by have := (nI_leI (b := 0) (by omega) (by omega)).mp w; omega), bnd2_e e1, nI_pred, bnd2_e f1, if_pos (nI_lt hlt (by omega)), nI_1]) (by
    rintro X ⟨G, rfl, c1⟩ k
    simp only [b_L_turned_L361, m_L_turned_L361]
    rw [if_pos (nI_le (Nat.le_refl _) (by omega)), if_pos (nI_le (Nat.le_refl _) (by omega))])
  have h1 := h.l5 hG
  obtain ⟨r1, g1, a1, a2, a3, a4⟩ := k_spared h1 hV hD
  have h2 := h1.l5 a2
  obtain ⟨r2, g2, b1, b2, b3, b4⟩ := k_spared h2 hV hD
  have h3 := h2.l5 b2
  obtain ⟨r3, g3, d1, d2, d3, d4⟩ := k_spared h3 hV hD
  have hx : lpo (b_L_turned_L361 k14 f x1 c3 v4 (nI A)) fuelN ((0 : Int32), g) = m_L_turned_L361 (fun _ => none) k14 f x1 c3 v4 (nI A) (nI A) G := hx
  rw [hx]
  unfold m_L_turned_L361
  rw [if_pos (nI_le (Nat.le_refl _) (by omega)), bnd2_e a1, if_pos a3, bnd2_e b1, if_pos b3, bnd_e (z_c9 h3.1)]
  by_cases e : N 3 = 0
  · rw [if_pos e, bnd2_e d1, if_pos (d4 e)]
    exact ⟨g3, rfl, ((hG.tr a2).tr b2).tr d2⟩
  · rw [if_neg e]
    exact ⟨g2, rfl, (hG.tr a2).tr b2⟩
theorem j220 (h : FQ tk N n c m u g) (hV : QV tk o) (hS : Snd tk) (hD : DfO N n c) (k14 : (Int32 × MG × (Nat → Int32)) → Option (Int32 × MG)) (x1 c3 v4 : Int32) (f : Nat → Int32) (hv : v4 = 1 → ∀ j, j < 64 → j < n → ¬ N (805 + j) = -1 → f j + b01 (paB tk N j) = 1) : ∃ G F, m_L_turned_J220 k14 x1 c3 v4 g f = k14 (v4 + 1, G, F) ∧ CL5 g G ∧ ∀ j, j < 64 → F j = pvF tk N n j := by
  have hn := h.1.n4
  have hk := h.1.1
  unfold m_L_turned_J220
  obtain ⟨x, ⟨G, rfl, hG⟩, hx⟩ := lpo_fin (body := b_L_turned_L223 k14 x1 c3 v4) (fun i X => ∃ G, X = (nI i, G, fun j => if j < i then pvF tk N n j else f j) ∧ CL5 g G) 64 (fun X => m_L_turned_L223 (fun _ => none) k14 x1 c3 v4 X.1 X.2.1 X.2.2) (x0 := ((0 : Int32), g, f)) (by omega) ⟨g, rfl, CL5.rf g⟩ (by
    rintro i X hi ⟨G, rfl, c1⟩
    have hG := h.l5 c1
    obtain ⟨g2, d1, d2⟩ := k_passes hG hV (j := i) (by omega)
    have hG2 := hG.l5 d2
    refine ⟨(nI (i + 1), g2, fun j => if j < i + 1 then pvF tk N n j else f j), ⟨g2, rfl, c1.tr d2⟩, fun k => ?_⟩
    have e272 : m_L_turned_J272 k k14 x1 c3 v4 (nI i) (pvF tk N n i) g2 (fun j => if j < i then pvF tk N n j else f j) = k (nI (i + 1), g2, fun j => if j < i + 1 then pvF tk N n j else f j) := by
      unfold m_L_turned_J272
      rw [if_pos (vin_nI hi (by omega)), nI_clamp (by omega), nI_1]
      refine congrArg (fun z => k (nI (i + 1), g2, z)) (funext (fun j => ?_))
      show (if j = i then pvF tk N n i else if j < i then pvF tk N n j else f j) = _
      by_cases e : j = i
      · subst e
        rw [if_pos rfl, if_pos (by omega)]
      · rw [if_neg e]
        by_cases e2 : j < i
        · rw [if_pos e2, if_pos (by omega)]
        · rw [if_neg e2, if_neg (by omega)]
    simp only [b_L_turned_L223, m_L_turned_L223]
    rw [if_neg (show ¬ (64 : Int32) ≤ nI i from fun w => by have := (nI_leI (a := 64) (by omega) (by omega)).mp w; omega), bnd2_e d1, bnd_e (z_c4 hG2.1), e272]
    by_cases e1 : nI n ≤ nI i
    · rw [if_pos e1]
    · rw [if_neg e1]
      have hin : i < n := by
        rw [nI_leI (by omega) (by omega)] at e1
        omega
      by_cases e2 : N (805 + i) = -1
      · rw [if_pos (show pvF tk N n i < 0 by unfold pvF; rw [if_pos hin, if_pos e2]; decide)]
      · have hp : pvF tk N n i = b01 (paB tk N i) := by unfold pvF; rw [if_pos hin, if_neg e2]
        have hnn : ¬ b01 (paB tk N i) < 0 := by cases paB tk N i <;> decide
        rw [hp, if_neg hnn]
        by_cases e3 : v4 = 1
        · rw [if_pos e3, if_pos (vin_nI hi (by omega)), nI_clamp (by omega), if_neg (Nat.lt_irrefl i), if_pos (hv e3 i hi hin e2)]
        · rw [if_neg e3]) (by
    rintro X ⟨G, rfl, c1⟩ k
    simp only [b_L_turned_L223, m_L_turned_L223]
    rw [if_pos (show (64 : Int32) ≤ nI 64 by decide), if_pos (show (64 : Int32) ≤ nI 64 by decide)])
  have h1 := h.l5 hG
  obtain ⟨g1, a1, a2⟩ := k_ask0 h1 hV
  have h2 := h1.l5 a2
  obtain ⟨g2, b1, b2⟩ := k_ask4 h2 hV
  have h3 := h2.l5 b2
  obtain ⟨g3, d1, d2⟩ := k_ask5 h3 hV
  have h4 := h3.l5 d2
  obtain ⟨g4, e1, e2⟩ := k_ask4 h4 hV
  have h5 := h4.l5 e2
  obtain ⟨g5, f1, f2⟩ := k_ask3 h5 hV
  have h6 := h5.l5 f2
  obtain ⟨g6, i1, i2⟩ := k_ask3 h6 hV
  have h7 := h6.l5 i2
  obtain ⟨g7, j1, j2⟩ := k_ask5 h7 hV
  have h8 := h7.l5 j2
  have l1 : cn (anB tk N c (N 3)) n ≤ cn (waB tk N) n := cn_mono (fun i hi hp => an_wa hk hi hp)
  have l2 : cn (anB tk N c (N 3)) n ≤ cn (loB tk N c (N 3)) n := cn_mono (fun i hi hp => by
    unfold anB at hp
    rw [Bool.and_eq_true] at hp
    exact hp.1)
  have l3 : cn (loB tk N c (N 3)) n ≤ cn (itB N) n := cn_mono (fun i hi hp => lo_it hk hi hp)
  have l4 := cn_le (itB N) n
  have l5 := cn_le (waB tk N) n
  have l6 := cn_le (stB N c) n
  have n1 : ∀ {a b : Nat}, a ≤ b → b ≤ 400 → ¬ nI b < nI a := fun {a b} w w' => nI_nlt w (by omega)
  have hx : lpo (b_L_turned_L223 k14 x1 c3 v4) fuelN ((0 : Int32), g, f) = m_L_turned_L223 (fun _ => none) k14 x1 c3 v4 (nI 64) G (fun j => if j < 64 then pvF tk N n j else f j) := hx
  rw [hx]
  unfold m_L_turned_L223
  rw [if_pos (show (64 : Int32) ≤ nI 64 by decide), bnd2_e a1, bnd2_e b1, if_neg (n1 l1 (by omega)), bnd2_e d1, bnd2_e e1, if_pos rfl, bnd2_e f1, if_neg (n1 l2 (by omega)), bnd2_e i1, bnd_e (z_c2 h7.1), if_neg (n1 l3 (by omega)), bnd_e (z_c5 h7.1)]
  by_cases z : cn (stB N c) n = 0
  · have hw : cn (waB tk N) n = cn (anB tk N c (N 3)) n := Nat.le_antisymm (cn_mono (fun i hi hp => wa_an hk hD hS (pr_3 hk) z hi hp)) l1
    rw [if_pos (show nI (cn (stB N c) n) = 0 by rw [z]; rfl), bnd2_e j1, if_pos (by rw [hw, Int32.sub_self])]
    obtain ⟨G', k1, k2⟩ := j358 h8 hV hD k14 x1 c3 v4 (fun j => if j < 64 then pvF tk N n j else f j)
    rw [k1]
    exact ⟨G', _, rfl, (((((((hG.tr a2).tr b2).tr d2).tr e2).tr f2).tr i2).tr j2).tr k2, fun j hj => if_pos hj⟩
  · rw [if_neg (nI_ne0 (by omega) (by omega))]
    obtain ⟨G', k1, k2⟩ := j358 h7 hV hD k14 x1 c3 v4 (fun j => if j < 64 then pvF tk N n j else f j)
    rw [k1]
    exact ⟨G', _, rfl, ((((((hG.tr a2).tr b2).tr d2).tr e2).tr f2).tr i2).tr k2, fun j hj => if_pos hj⟩
theorem t_0 (hT : TB g 0 N n c m u) (hD : DfO N n c) (x1 c3 : Int32) (k : (Int32 × MG × (Nat → Int32)) → Option (Int32 × MG)) (F : Nat → Int32) : ∃ G' F', b_L_turned_L14 x1 c3 k ((0 : Int32), g, F) = k (1, G', F') ∧ QW g G' ∧ ∀ j, j < 64 → F' j = pvF (tk1 x1 c3) N n j := by
  obtain ⟨r0, g0, a1, a2, a3⟩ := clr g
  obtain ⟨g1, z, b1, b2, b3⟩ := j45 a2 (by omega) k x1 c3 (0 : Int32) F
  have hq := fq_of ((a3.tr b2).T hT) b1 (by omega) (Or.inl rfl) rfl
  obtain ⟨G', F', d1, d2, d3⟩ := j220 hq (qv_1 x1 c3).1 (snd_1 x1 c3) hD k x1 c3 0 F (fun e => absurd e (by decide))
  refine ⟨G', F', ?_, (a3.tr b2).tr d2.qw, d3⟩
  simp only [b_L_turned_L14, m_L_turned_L14]
  rw [if_neg (show ¬ (2 : Int32) ≤ 0 by decide), bnd2_e a1, if_neg (show ¬ (0 : Int32) = (1 : Int32) by decide), b3, if_neg (show ¬ (0 : Int32) = 1 by decide), d1]
  rfl
theorem t_1 (hT : TB g 0 N n c m u) (hD : DfO N n c) (x1 c3 : Int32) (k : (Int32 × MG × (Nat → Int32)) → Option (Int32 × MG)) (F : Nat → Int32) (hF : ∀ j, j < 64 → F j = pvF (tk1 x1 c3) N n j) : ∃ G' F', b_L_turned_L14 x1 c3 k ((1 : Int32), g, F) = k (2, G', F') ∧ QW g G' := by
  obtain ⟨r0, g0, a1, a2, a3⟩ := clr g
  obtain ⟨ga, e1, e2, e3⟩ := ty a2 (by omega) t_not rfl
  obtain ⟨gb, f1, f2, f3⟩ := ty e2 (by omega) t_open rfl
  obtain ⟨g1, z, b1, b2, b3⟩ := j45 f2 (by omega) k x1 c3 (1 : Int32) F
  obtain ⟨gc, i1, i2, i3⟩ := ty b1 (by omega) t_cl rfl
  have hw := (((a3.tr e3).tr f3).tr b2).tr i3
  have hq := fq_of (hw.T hT) i2 (by omega) (Or.inr rfl) rfl
  obtain ⟨G', F', d1, d2, d3⟩ := j220 hq (qv_2 x1 c3).1 (snd_2 x1 c3) hD k x1 c3 1 F (fun _ j h64 hj hp => by
    rw [hF j h64]
    unfold pvF
    rw [if_pos hj, if_neg hp]
    have := pa_flip (N := N) x1 c3 j
    show b01 (paB (tk1 x1 c3) N j) + b01 (paB (tk2 x1 c3) N j) = 1
    rw [this]
    cases paB (tk1 x1 c3) N j <;> decide)
  refine ⟨G', F', ?_, hw.tr d2.qw⟩
  show m_L_turned_L14 k x1 c3 1 g F = _
  unfold m_L_turned_L14
  rw [if_neg (show ¬ (2 : Int32) ≤ 1 by decide), bnd2_e a1, if_pos (show (1 : Int32) = (1 : Int32) from rfl), bnd2_e e1, bnd2_e f1, b3, if_pos (show (1 : Int32) = 1 from rfl), bnd2_e i1, d1]
  rfl
theorem z_turned (hT : TB g 0 N n c m u) (hD : DfO N n c) (x1 : Int32) : ∃ g', m_L_turned g x1 = some (1, g') ∧ QW g g' := by
  unfold m_L_turned
  rw [bnd_e (low_l (4 : Int32) (k := 4) rfl (by decide) (by decide))]
  obtain ⟨k, hk⟩ : ∃ k, fuelN = k + 3 := ⟨fuelN - 3, by unfold fuelN; omega⟩
  rw [hk]
  obtain ⟨g1, F1, a1, a2, a3⟩ := t_0 hT hD x1 (nI (lw x1 4)) (lpo (b_L_turned_L14 x1 (nI (lw x1 4))) (k + 2)) (fun _ => 0)
  obtain ⟨g2, F2, b1, b2⟩ := t_1 (a2.T hT) hD x1 (nI (lw x1 4)) (lpo (b_L_turned_L14 x1 (nI (lw x1 4))) (k + 1)) F1 a3
  refine ⟨g2, ?_, a2.tr b2⟩
  refine Eq.trans a1 (Eq.trans b1 ?_)
  show b_L_turned_L14 x1 (nI (lw x1 4)) (lpo (b_L_turned_L14 x1 (nI (lw x1 4))) k) ((2 : Int32), g2, F2) = _
  simp only [b_L_turned_L14, m_L_turned_L14]
  rw [if_pos (show (2 : Int32) ≤ 2 by decide)]
end
