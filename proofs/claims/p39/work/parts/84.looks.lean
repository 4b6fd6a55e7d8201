/-! the reference looks into places -/
section
variable {h : MG} {tk o : List TK} {n c : Nat}
theorem RF.ok {h H : MG} (e : RF h H) (hk : OkN (h.1 1) n c) : OkN (H.1 1) n c := by rw [e.1 1 (by omega) (by omega) (by omega)]; exact hk
theorem r_hasKey (hk : OkN (h.1 1) n c) (hQ : QR h o) (hV : QV tk o) {x0 : Int32} (P : Nat → Prop)
    (hP : ∀ i, i < 1000 → ∀ H, RF h H → (P i ∧ ∀ kk, m_X7_hasKey_L2 kk x0 (nI i) H = bnd2 (m_X7_truth H (nI i) (0 : Int32) (0 : Int32)) fun (r49 : Int32) (g49 : MG) => if r49 ≤ 0 then kk (nI (i + 1), g49) else some ((1 : Int32), g49)) ∨ (¬ P i ∧ ∀ kk, m_X7_hasKey_L2 kk x0 (nI i) H = kk (nI (i + 1), H))) :
    ∃ r h', m_X7_hasKey h x0 = some (r, h') ∧ RF h h' ∧ YN r (∃ j, j < 1000 ∧ P j ∧ ¬ kV tk (nI j) = 0) := by
  have main : ∃ r, m_X7_hasKey h x0 = some r ∧ RF h r.2 ∧ YN r.1 (∃ j, j < 1000 ∧ P j ∧ ¬ kV tk (nI j) = 0) := by
    unfold m_X7_hasKey
    refine lpo_P (fun i X => ∃ H, X = (nI i, H) ∧ RF h H ∧ ∀ j, j < i → P j → kV tk (nI j) = 0) 1000 _ 0 (by omega) (by omega) ⟨h, rfl, RF.rf h, fun j hj => absurd hj (Nat.not_lt_zero j)⟩ ?_ ?_
    · rintro i X hi ⟨H, rfl, c1, c2⟩
      rcases hP i hi H c1 with ⟨p1, p2⟩ | ⟨p1, p2⟩
      · obtain ⟨h', d1, d2⟩ := r_tru (hQ.rf c1) hV (nI i) 0 0
        have d1 : m_X7_truth H (nI i) 0 0 = some (iv (kV tk (nI i)), h') := d1
        by_cases e : kV tk (nI i) = 0
        · right
          refine ⟨(nI (i + 1), h'), ⟨_, rfl, c1.tr d2, lt_up c2 (fun _ => e)⟩, fun k => ?_⟩
          show m_X7_hasKey_L2 k x0 (nI i) H = _
          rw [p2 k, bnd2_e d1, if_pos ((iv_le0 _).mpr e)]
        · left
          intro k
          refine ⟨(1, h'), ?_, c1.tr d2, Or.inl ⟨rfl, i, hi, p1, e⟩⟩
          show m_X7_hasKey_L2 k x0 (nI i) H = _
          rw [p2 k, bnd2_e d1, if_neg (fun q => e ((iv_le0 _).mp q))]
      · right
        exact ⟨(nI (i + 1), H), ⟨_, rfl, c1, lt_up c2 (fun q => absurd q p1)⟩, fun k => p2 k⟩
    · rintro X ⟨H, rfl, c1, c2⟩ k
      refine ⟨(0, H), ?_, c1, Or.inr ⟨rfl, ?_⟩⟩
      · simp only [b_X7_hasKey_L2, m_X7_hasKey_L2]
        rw [if_pos (show (1000 : Int32) ≤ nI 1000 by decide)]
      · rintro ⟨j, j1, j2, j3⟩
        exact j3 (c2 j j1 j2)
  obtain ⟨⟨r, h'⟩, m1, m2, m3⟩ := main
  exact ⟨r, h', m1, m2, m3⟩
theorem i_1000 {i : Nat} (hi : i < 1000) : ¬ (1000 : Int32) ≤ nI i := by
  rw [show (1000 : Int32) = nI 1000 from rfl, nI_leI (by omega) (by omega)]
  omega
theorem r_hasKeyS (hk : OkN (h.1 1) n c) (hQ : QR h o) (hV : QV tk o) {q : Nat} (hq : q < c) (ha : h.1 1 (1205 + q) = 1) : ∃ r h', m_X7_hasKey h (nI q) = some (r, h') ∧ RF h h' ∧ YN r (∃ j : Nat, (h.1 1 (1265 + q)).toInt ≤ (j : Int) ∧ (j : Int) < (h.1 1 (1325 + q)).toInt ∧ ¬ kV tk (nI j) = 0) := by
  have hc := hk.1.2.2.2
  have n60 : ¬ nI q = 60 := by
    rw [show (60 : Int32) = nI 60 from rfl, nI_eq (by omega) (by omega)]
    omega
  have hb := (hk.2.2.2.1 q hq).2 ha
  obtain ⟨r, h', b1, b2, b3⟩ := r_hasKey (x0 := nI q) hk hQ hV (fun j => (h.1 1 (1265 + q)).toInt ≤ (j : Int) ∧ (j : Int) < (h.1 1 (1325 + q)).toInt) (fun i hi H hH => by
    have e1 : H.1 1 = h.1 1 := hH.1 1 (by omega) (by omega) (by omega)
    have hh := r_has (hH.ok hk) hq (by rw [e1]; exact ha) (nI i)
    rw [e1, nI_toInt (by omega)] at hh
    by_cases e : (h.1 1 (1265 + q)).toInt ≤ (i : Int) ∧ (i : Int) < (h.1 1 (1325 + q)).toInt
    · left
      refine ⟨e, fun kk => ?_⟩
      rw [if_pos e] at hh
      unfold m_X7_hasKey_L2
      rw [if_neg (i_1000 hi), if_neg n60, bnd_e hh, if_neg (by decide), nI_1]
    · right
      refine ⟨e, fun kk => ?_⟩
      rw [if_neg e] at hh
      unfold m_X7_hasKey_L2
      rw [if_neg (i_1000 hi), if_neg n60, bnd_e hh, if_pos rfl, nI_1])
  refine ⟨r, h', b1, b2, ?_⟩
  rcases b3 with ⟨rfl, j, j1, j2, j3⟩ | ⟨rfl, b3⟩
  · exact Or.inl ⟨rfl, j, j2.1, j2.2, j3⟩
  · refine Or.inr ⟨rfl, ?_⟩
    rintro ⟨j, j1, j2, j3⟩
    exact b3 ⟨j, by omega, ⟨j1, j2⟩, j3⟩
theorem r_hasKeyD (hk : OkN (h.1 1) n c) (hQ : QR h o) (hV : QV tk o) : ∃ r h', m_X7_hasKey h 60 = some (r, h') ∧ RF h h' ∧ YN r (FrK tk (h.1 1) c) := by
  obtain ⟨r, h', b1, b2, b3⟩ := r_hasKey (x0 := 60) hk hQ hV (fun j => frB (h.1 1) c j = true) (fun i hi H hH => by
    have e1 : H.1 1 = h.1 1 := hH.1 1 (by omega) (by omega) (by omega)
    rcases r_own (hH.ok hk) i with ⟨f1, f2⟩ | ⟨f1, q, -, f2, f3⟩
    · left
      rw [e1] at f1
      refine ⟨f1, fun kk => ?_⟩
      unfold m_X7_hasKey_L2
      rw [if_neg (i_1000 hi), if_pos rfl, bnd_e f2, if_pos rfl, if_neg (by decide), nI_1]
    · right
      rw [e1] at f1
      refine ⟨fun z => absurd (f1.symm.trans z) Bool.false_ne_true, fun kk => ?_⟩
      unfold m_X7_hasKey_L2
      rw [if_neg (i_1000 hi), if_pos rfl, bnd_e f2, if_neg f3, if_pos rfl, nI_1])
  exact ⟨r, h', b1, b2, b3⟩
theorem r_looksS (hk : OkN (h.1 1) n c) (hQ : QR h o) (hV : QV tk o) {q : Nat} (hq : q < c) (ha : h.1 1 (1205 + q) = 1) {pr : Int32} (hpr : pr = 0 ∨ pr = 1 ∨ pr = 2) : ∃ r h', m_X7_looks h (nI q) pr = some (r, h') ∧ RF h h' ∧ YN r (LkS tk (h.1 1) pr q) := by
  have hc := hk.1.2.2.2
  have n60 : ¬ nI q = 60 := by
    rw [show (60 : Int32) = nI 60 from rfl, nI_eq (by omega) (by omega)]
    omega
  unfold m_X7_looks LkS
  rw [if_neg n60, if_neg n60]
  rcases hpr with rfl | rfl | rfl
  · rw [if_pos rfl]
    exact ⟨_, _, rfl, RF.rf h, Or.inl ⟨rfl, Or.inl rfl⟩⟩
  · obtain ⟨a, b, hab, hb, ea, eb, ea', eb'⟩ := sl_ab hk hq ha
    obtain ⟨z, -, -, z3⟩ := hV (tC (nI a) (nI b) 0 0)
    obtain ⟨h', d1, d2⟩ := r_canHold hQ.1 hQ.2.1 hQ.2.2 hab hb z3
    have e1 : h.1 1 ((1265 : Int32) + nI q).toNatClampNeg = nI a := by rw [a1265 (by omega)]; exact ea
    have e2 : h.1 1 ((1325 : Int32) + nI q).toNatClampNeg - 1 = nI b := by rw [a1325 (by omega)]; exact eb
    have hbz : bz (p1 (qV (tC (nI a) (nI b) 0 0) tk)) = true := by
      have : ∀ v : Fin 3, bz (p1 v) = true := by decide
      exact this _
    rw [if_neg (by decide), if_pos rfl, if_pos (v1265 (by omega)), if_pos (v1325 (by omega)), e1, e2, bnd2_e d1, if_pos hbz]
    refine ⟨_, _, rfl, d2, ?_⟩
    rw [ea, eb]
    by_cases e : qV (tC (nI a) (nI b) 0 0) tk = 0
    · refine Or.inr ⟨(p1_0 _).mpr e, ?_⟩
      rintro (q | ⟨-, q⟩ | ⟨q, -⟩)
      · exact absurd q (by decide)
      · exact q e
      · exact absurd q (by decide)
    · refine Or.inl ⟨?_, Or.inr (Or.inl ⟨rfl, e⟩)⟩
      unfold p1
      rw [if_neg e]
  · obtain ⟨r, h', b1, b2, b3⟩ := r_hasKeyS hk hQ hV hq ha
    rw [if_neg (by decide), if_neg (by decide), bnd2_e b1, if_pos b3.bz]
    refine ⟨_, _, rfl, b2, ?_⟩
    rcases b3 with ⟨rfl, b3⟩ | ⟨rfl, b3⟩
    · exact Or.inl ⟨rfl, Or.inr (Or.inr ⟨rfl, b3⟩)⟩
    · refine Or.inr ⟨rfl, ?_⟩
      rintro (q | ⟨q, -⟩ | ⟨-, q⟩)
      · exact absurd q (by decide)
      · exact absurd q (by decide)
      · exact b3 q
theorem r_looksD (hk : OkN (h.1 1) n c) (hQ : QR h o) (hV : QV tk o) {pr : Int32} (hpr : pr = 0 ∨ pr = 1 ∨ pr = 2) : ∃ r h', m_X7_looks h 60 pr = some (r, h') ∧ RF h h' ∧ YN r (LkD tk (h.1 1) c pr) := by
  unfold m_X7_looks LkD
  rw [if_pos rfl, if_pos vk2, ak2]
  rcases hk.2.1.1 with e | e
  · rw [if_pos e]
    exact ⟨_, _, rfl, RF.rf h, Or.inr ⟨rfl, fun q => absurd (e.symm.trans q.1) (by decide)⟩⟩
  · rw [if_neg (by rw [e]; decide)]
    rcases hpr with rfl | rfl | rfl
    · rw [if_pos rfl]
      exact ⟨_, _, rfl, RF.rf h, Or.inl ⟨rfl, e, Or.inl (by decide)⟩⟩
    · rw [if_neg (by decide), if_pos rfl, if_pos rfl]
      exact ⟨_, _, rfl, RF.rf h, Or.inl ⟨rfl, e, Or.inl (by decide)⟩⟩
    · obtain ⟨r, h', b1, b2, b3⟩ := r_hasKeyD hk hQ hV
      rw [if_neg (by decide), if_pos rfl, if_neg (by decide), if_neg (by decide), bnd2_e b1, if_pos b3.bz]
      refine ⟨_, _, rfl, b2, ?_⟩
      rcases b3 with ⟨rfl, b3⟩ | ⟨rfl, b3⟩
      · exact Or.inl ⟨rfl, e, Or.inr b3⟩
      · exact Or.inr ⟨rfl, fun q => q.2.elim (fun z => z rfl) b3⟩
theorem pr_3 {N : Nat → Int32} (hk : OkN N n c) : N 3 = 0 ∨ N 3 = 1 ∨ N 3 = 2 := by
  obtain ⟨h1, h2⟩ := hk.2.1.2.1
  have a0 : (0 : Int32).toInt = 0 := by decide
  have a1 : (1 : Int32).toInt = 1 := by decide
  have a2 : (2 : Int32).toInt = 2 := by decide
  rcases (show (N 3).toInt = 0 ∨ (N 3).toInt = 1 ∨ (N 3).toInt = 2 by omega) with e | e | e
  · exact Or.inl (Int32.toInt_inj.mp (e.trans a0.symm))
  · exact Or.inr (Or.inl (Int32.toInt_inj.mp (e.trans a1.symm)))
  · exact Or.inr (Or.inr (Int32.toInt_inj.mp (e.trans a2.symm)))
/-- what changes in the reference's memory as it marks places -/
def RLk (h h' : MG) : Prop := (∀ c, c ≠ 0 → c ≠ 9 → c ≠ 10 → c ≠ 11 → h'.1 c = h.1 c) ∧ ∀ j, j ≠ 13 → h'.1 0 j = h.1 0 j
theorem RF.rlk {h H K : MG} (e2 : RF H K) (e : RLk h H) : RLk h K := ⟨fun c h1 h2 h3 h4 => (e2.1 c h1 h2 h3).trans (e.1 c h1 h2 h3 h4), fun j hj => (e2.2 j hj).trans (e.2 j hj)⟩
theorem RLk.ok {h H : MG} (e : RLk h H) (hk : OkN (h.1 1) n c) : OkN (H.1 1) n c := by rw [e.1 1 (by omega) (by omega) (by omega) (by omega)]; exact hk
theorem RLk.qr {h H : MG} (e : RLk h H) (hQ : QR h o) : QR H o := hQ.cong (e.2 8 (by omega)) (fun x hx => e.1 x (by omega) (by omega) (by omega) (by omega))
theorem r_look (hk : OkN (h.1 1) n c) (hQ : QR h o) (hV : QV tk o) : ∃ h', m_X7_look h = some h' ∧ RLk h h' ∧ ∀ q, q < 61 → YN (h'.1 11 q) (LkP tk (h.1 1) c (h.1 1 3) q) := by
  have hc := hk.1.2.2.2
  have hpr := pr_3 hk
  unfold m_X7_look
  refine lpo_P (fun i X => ∃ H, X = (nI i, H) ∧ RLk h H ∧ ∀ q, q < i → YN (H.1 11 q) (LkP tk (h.1 1) c (h.1 1 3) q)) 61 _ 0 (by omega) (by omega) ⟨h, rfl, ⟨fun _ _ _ _ _ => rfl, fun _ _ => rfl⟩, fun j hj => absurd hj (Nat.not_lt_zero j)⟩ ?_ ?_
  · rintro i X hi ⟨H, rfl, c1, c2⟩
    right
    have hkH := c1.ok hk
    have hQH := c1.qr hQ
    have e1 : H.1 1 = h.1 1 := c1.1 1 (by omega) (by omega) (by omega) (by omega)
    have hcond : ¬ (60 : Int32) < nI i := by
      rw [show (60 : Int32) = nI 60 from rfl, nI_ltI (by omega) (by omega)]
      omega
    have hvi : vin (nI i) 61 := vin_nI hi (by omega)
    have hci : (nI i).toNatClampNeg = i := nI_clamp (by omega)
    -- a mark is written
    have wr : ∀ (K : MG) (v : Int32), RF H K → YN v (LkP tk (h.1 1) c (h.1 1 3) i) → ∃ H', ((nI (i + 1), g_w K 11 i v) : Int32 × MG) = (nI (i + 1), H') ∧ RLk h H' ∧ ∀ q, q < i + 1 → YN (H'.1 11 q) (LkP tk (h.1 1) c (h.1 1 3) q) := fun K v k1 k2 => by
      refine ⟨_, rfl, ⟨fun x h0 h9 h10 h11 => ?_, fun j hj => ?_⟩, lt_up (fun q hq => ?_) ?_⟩
      · rw [gw_ne h11, (k1.rlk c1).1 x h0 h9 h10 h11]
      · rw [gw_ne (by omega), (k1.rlk c1).2 j hj]
      · rw [gw_at, if_neg (by omega), k1.1 11 (by omega) (by omega) (by omega)]
        exact c2 q hq
      · rw [gw_at, if_pos rfl]
        exact k2
    have two : ∀ (r : Int32) (K : MG) (kk : (Int32 × MG) → Option MG) (P : Prop), YN r P → (if r = 0 then (if vin (nI i) 61 then kk ((nI i + (1 : Int32)), (g_w K 11 (nI i).toNatClampNeg (0 : Int32))) else none) else (if vin (nI i) 61 then kk ((nI i + (1 : Int32)), (g_w K 11 (nI i).toNatClampNeg (1 : Int32))) else none)) = kk (nI (i + 1), g_w K 11 i r) := fun r K kk P hy => by
      rcases hy with ⟨rfl, -⟩ | ⟨rfl, -⟩
      · rw [if_neg (by decide), if_pos hvi, hci, nI_1]
      · rw [if_pos rfl, if_pos hvi, hci, nI_1]
    by_cases e60 : i = 60
    · subst e60
      have hpr' : H.1 1 (3 : Int32).toNatClampNeg = h.1 1 3 := by rw [ak3, e1]
      obtain ⟨r, K, d1, d2, d3⟩ := r_looksD hkH hQH hV hpr
      rw [e1] at d3
      refine ⟨_, wr K r d2 ?_, fun k => ?_⟩
      · rcases d3 with ⟨k1, k2⟩ | ⟨k1, k2⟩
        · exact Or.inl ⟨k1, Or.inr ⟨rfl, k2⟩⟩
        · refine Or.inr ⟨k1, ?_⟩
          rintro (⟨q1, -⟩ | ⟨-, q1⟩)
          · omega
          · exact k2 q1
      · have d1 : m_X7_looks H (nI 60) (h.1 1 3) = some (r, K) := d1
        simp only [b_X7_look_L2, m_X7_look_L2]
        rw [if_neg hcond, if_pos (show nI 60 = 60 from rfl), if_pos vk3, hpr', bnd2_e d1]
        exact two r K k _ d3
    · have n60 : ¬ nI i = 60 := by
        rw [show (60 : Int32) = nI 60 from rfl, nI_eq (by omega) (by omega)]
        exact e60
      have no : ¬ (i < c ∧ h.1 1 (1205 + i) = 1) → m_X7_isSlice H (nI i) = some 0 → ∃ x', (∃ H', x' = (nI (i + 1), H') ∧ RLk h H' ∧ ∀ q, q < i + 1 → YN (H'.1 11 q) (LkP tk (h.1 1) c (h.1 1 3) q)) ∧ ∀ k, b_X7_look_L2 k (nI i, H) = k x' := fun hno hs => by
        refine ⟨_, wr H 0 (RF.rf H) (Or.inr ⟨rfl, ?_⟩), fun k => ?_⟩
        · rintro (⟨q1, q2, -⟩ | ⟨q1, -⟩)
          · exact hno ⟨q1, q2⟩
          · exact e60 q1
        · simp only [b_X7_look_L2, m_X7_look_L2]
          rw [if_neg hcond, if_neg n60, bnd_e hs, if_pos rfl, if_pos hvi, hci, nI_1]
      rcases Nat.lt_or_ge i c with ic | ic
      · have hs := r_isSlice hkH ic
        by_cases ha : h.1 1 (1205 + i) = 1
        · rw [if_pos (by rw [e1]; exact ha)] at hs
          have hpr' : H.1 1 (3 : Int32).toNatClampNeg = h.1 1 3 := by rw [ak3, e1]
          obtain ⟨r, K, d1, d2, d3⟩ := r_looksS hkH hQH hV ic (by rw [e1]; exact ha) hpr
          rw [e1] at d3
          refine ⟨_, wr K r d2 ?_, fun k => ?_⟩
          · rcases d3 with ⟨k1, k2⟩ | ⟨k1, k2⟩
            · exact Or.inl ⟨k1, Or.inl ⟨ic, ha, k2⟩⟩
            · refine Or.inr ⟨k1, ?_⟩
              rintro (⟨-, -, q1⟩ | ⟨q1, -⟩)
              · exact k2 q1
              · exact e60 q1
          · simp only [b_X7_look_L2, m_X7_look_L2]
            rw [if_neg hcond, if_neg n60, bnd_e hs, if_neg (by decide), if_pos vk3, hpr', bnd2_e d1]
            exact two r K k _ d3
        · rw [if_neg (by rw [e1]; exact ha)] at hs
          exact no (fun q => ha q.2) hs
      · exact no (fun q => by omega) (r_isSlice_out hkH (Or.inr (by rw [nI_toInt (by omega)]; omega)))
  · rintro X ⟨H, rfl, c1, c2⟩ k
    refine ⟨H, ?_, c1, c2⟩
    simp only [b_X7_look_L2, m_X7_look_L2]
    rw [if_pos (show (60 : Int32) < nI 61 by decide)]
end
