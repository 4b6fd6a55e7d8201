/-! questions: both sides answer alike -/
theorem fv_ok {T : Nat → Int32} {n : Nat} (hn : n ≤ 60) (h : FV T n = -1005) : (cst T n).2.1 = 4 ∨ (cst T n).2.1 = 5 := by
  unfold FV at h
  by_cases e : (cst T n).1 = -1005
  · rw [if_pos e] at h
    by_cases e2 : ((cst T n).2.1 = 4 ∨ (cst T n).2.1 = 5) ∧ (cst T n).2.2.1 = 0
    · exact e2.1
    · rw [if_neg e2] at h
      exact absurd h (nI_ne_m (by omega) (by decide))
  · rw [if_neg e] at h
    exact absurd h e
section
variable {g h : MG}
theorem q_ready (hR : Rel QPx g h) : ∃ r h', m_X2_firstFault g = some r ∧ m_X7_read h = some (r, h') ∧ Rel QPx g h' ∧ h'.1 1 = h.1 1 ∧ (r = -1005 → ∃ tk o, QC g tk ∧ QR h' o ∧ QV tk o) := by
  obtain ⟨n, r, h', hn, b1, b2, b3, b4, b5⟩ := p_read hR.2.2
  refine ⟨r, h', b1, b2, rd_rel hR b3, b3.2.1 1 (by omega) (by omega) (by omega) (by omega) (by omega), fun e => ?_⟩
  have hF : FV (h.1 4) n = -1005 := b3.1.symm.trans e
  obtain ⟨o, d1, d2, d3, -, d5⟩ := b3.2.2.2 hF
  refine ⟨_, o, ⟨b4.2.2.2.2.2.2.1, by omega, b4.2.2.2.2.2.2.2.full (Or.inr (fv_ok hn hF))⟩, ⟨d2, d1, d3⟩, QV.of d5⟩
theorem c_isFaulty {r : Int32} (h : m_X2_firstFault g = some r) : m_X2_isFaulty g = some (if r = -1005 then 0 else 1) := by
  unfold m_X2_isFaulty
  rw [bnd_e h]
  split <;> rfl
theorem CL5.rf (g : MG) : CL5 g g := ⟨rfl, fun _ _ _ _ _ => rfl⟩
theorem CL5.cf {a b d : MG} (h : CL5 a b) (h' : CF b d) : CL5 a d := ⟨h'.1.trans h.1, fun c _ h15 h17 h19 => (h'.2 c h15 h17 h19).trans (h.2 c (by assumption) h15 h17 h19)⟩
theorem CF.l5 {a b : MG} (h : CF a b) : CL5 a b := ⟨h.1, fun c _ h15 h17 h19 => h.2 c h15 h17 h19⟩
theorem RLk.rf (h : MG) : RLk h h := ⟨fun _ _ _ _ _ => rfl, fun _ _ => rfl⟩
theorem scr2 {g' h' : MG} (hR : Rel QPx g h) (a : CL5 g g') (b : RLk h h') : Rel QPx g' h' := scr_rel hR a.1 (fun x hx => a.2 x (by omega) (by omega) (by omega) (by omega)) (fun j hj => b.2 j (by omega)) (fun x h1 h2 => b.1 x (by omega) (by omega) (by omega) (by omega))
/-- both mark the places by the setting -/
theorem q_mark {tk o : List TK} {n c m : Nat} {u : Nat → Nat} (hT : TB g 0 (h.1 1) n c m u) (hQ : QC g tk) (hQ' : QR h o) (hV : QV tk o) : ∃ g' h', m_X6_markLooked g (g.1 (20 + 15 * 0) 3) = some g' ∧ m_X7_look h = some h' ∧ CL5 g g' ∧ RLk h h' ∧ CX tk (h.1 1) n c m u (h.1 1 3) g' ∧ RX tk o (h.1 1) n c (h.1 1 3) h' := by
  have e3 : g.1 (20 + 15 * 0) 3 = h.1 1 3 := hT.2.2.1.2.2.2.2.1
  obtain ⟨g', a1, a2, a3⟩ := c_mark hT hQ hV (pr_3 hT.1)
  obtain ⟨h', b1, b2, b3⟩ := r_look hT.1 hQ' hV
  rw [e3]
  exact ⟨g', h', a1, b1, a2, b2, ⟨hT.cong (fun k h1 h2 => a2.2 k (by omega) (by omega) (by omega) (by omega)), hQ.cong (fun x hx => a2.2 x (by omega) (by omega) (by omega) (by omega)), a3⟩, b2.1 1 (by omega) (by omega) (by omega) (by omega), hT.1, b2.qr hQ', b3⟩
theorem i_05 {x : Int32} : ((0 : Int32).toInt ≤ x.toInt ∧ x.toInt ≤ (5 : Int32).toInt) ↔ (x = 0 ∨ x = 1 ∨ x = 2 ∨ x = 3 ∨ x = 4 ∨ x = 5) := by
  have a0 : (0 : Int32).toInt = 0 := by decide
  have a1 : (1 : Int32).toInt = 1 := by decide
  have a2 : (2 : Int32).toInt = 2 := by decide
  have a3 : (3 : Int32).toInt = 3 := by decide
  have a4 : (4 : Int32).toInt = 4 := by decide
  have a5 : (5 : Int32).toInt = 5 := by decide
  constructor
  · intro h
    rw [a0, a5] at h
    rcases (show x.toInt = 0 ∨ x.toInt = 1 ∨ x.toInt = 2 ∨ x.toInt = 3 ∨ x.toInt = 4 ∨ x.toInt = 5 by omega) with e | e | e | e | e | e
    · exact Or.inl (Int32.toInt_inj.mp (e.trans a0.symm))
    · exact Or.inr (Or.inl (Int32.toInt_inj.mp (e.trans a1.symm)))
    · exact Or.inr (Or.inr (Or.inl (Int32.toInt_inj.mp (e.trans a2.symm))))
    · exact Or.inr (Or.inr (Or.inr (Or.inl (Int32.toInt_inj.mp (e.trans a3.symm)))))
    · exact Or.inr (Or.inr (Or.inr (Or.inr (Or.inl (Int32.toInt_inj.mp (e.trans a4.symm))))))
    · exact Or.inr (Or.inr (Or.inr (Or.inr (Or.inr (Int32.toInt_inj.mp (e.trans a5.symm))))))
  · rintro (rfl | rfl | rfl | rfl | rfl | rfl) <;> decide
theorem i_02 {x : Int32} : ((0 : Int32).toInt ≤ x.toInt ∧ x.toInt ≤ (2 : Int32).toInt) ↔ (x = 0 ∨ x = 1 ∨ x = 2) := by
  have a0 : (0 : Int32).toInt = 0 := by decide
  have a1 : (1 : Int32).toInt = 1 := by decide
  have a2 : (2 : Int32).toInt = 2 := by decide
  constructor
  · intro h
    rw [a0, a2] at h
    rcases (show x.toInt = 0 ∨ x.toInt = 1 ∨ x.toInt = 2 by omega) with e | e | e
    · exact Or.inl (Int32.toInt_inj.mp (e.trans a0.symm))
    · exact Or.inr (Or.inl (Int32.toInt_inj.mp (e.trans a1.symm)))
    · exact Or.inr (Or.inr (Int32.toInt_inj.mp (e.trans a2.symm)))
  · rintro (rfl | rfl | rfl) <;> decide
theorem s_ask (hR : Rel QPx g h) (x : Int32) : ∃ r g' h', m_X6_ask g x = some (r, g') ∧ m_X7_ask h x = some (r, h') ∧ Rel QPx g' h' := by
  obtain ⟨r, h1, a1, a2, a3, a4, a5⟩ := q_ready hR
  unfold m_X6_ask m_X7_ask
  rw [bnd_e (c_isFaulty a1), bnd2_e a2]
  by_cases e : r = -1005
  · obtain ⟨tk, o, hQ, hQ', hV⟩ := a5 e
    obtain ⟨n, c, m, u, hT⟩ := a3.1
    obtain ⟨g1, h2, b1, b2, b3, b4, b5, b6⟩ := q_mark hT hQ hQ' hV
    rw [if_pos e, if_pos rfl, if_pos e, bnd_e b1]
    by_cases e2 : (0 : Int32).toInt ≤ x.toInt ∧ x.toInt ≤ (5 : Int32).toInt
    · obtain ⟨h3, d1, d2⟩ := r_askRows b6 hV x (nI (cn (lkB tk (h1.1 1) c (h1.1 1 3)) 61))
      rw [bnd_e (r_in1 e2), if_neg (show ¬ (1 : Int32) = 0 by decide), bnd_e b2, r_places b6 x, d1]
      have fin : ∀ g2, CF g1 g2 → Rel QPx g2 h3 := fun g2 k => scr2 a3 (b3.cf k) (d2.rlk b4)
      obtain ⟨gA, c1, c2⟩ := c_answerAmount b5 hV
      obtain ⟨gS, c3, c4⟩ := c_answerSum b5 hV
      obtain ⟨gW, c5, c6⟩ := c_wholeAmount b5 hV
      obtain ⟨gB, c7, c8⟩ := c_answerAmount (b5.cf c6) hV
      rcases i_05.mp e2 with rfl | rfl | rfl | rfl | rfl | rfl
      · rw [if_pos rfl, bnd2_e c1]
        exact ⟨_, _, _, rfl, rfl, fin _ c2⟩
      · rw [if_neg (by decide), if_pos rfl, bnd2_e c3]
        exact ⟨_, _, _, rfl, rfl, fin _ c4⟩
      · rw [if_neg (by decide), if_neg (by decide), if_pos rfl, bnd_e (c_lookedPlaces b5)]
        exact ⟨_, _, _, rfl, rfl, fin _ (CF.rf g1)⟩
      · rw [if_neg (by decide), if_neg (by decide), if_neg (by decide), if_pos rfl, bnd_e (c_lookedRows b5)]
        exact ⟨_, _, _, rfl, rfl, fin _ (CF.rf g1)⟩
      · rw [if_neg (by decide), if_neg (by decide), if_neg (by decide), if_neg (by decide), if_pos rfl, bnd2_e c5]
        exact ⟨_, _, _, rfl, rfl, fin _ c6⟩
      · rw [if_neg (by decide), if_neg (by decide), if_neg (by decide), if_neg (by decide), if_neg (by decide), if_pos rfl, bnd2_e c5, bnd2_e c7]
        exact ⟨_, _, _, rfl, rfl, fin _ (c6.tr c8)⟩
    · have hx : ∀ y : Int32, (y = 0 ∨ y = 1 ∨ y = 2 ∨ y = 3 ∨ y = 4 ∨ y = 5) → ¬ x = y := fun y hy q => e2 (i_05.mpr (by rw [q]; exact hy))
      rw [bnd_e (r_in0 e2), if_pos (rfl : (0 : Int32) = 0), if_neg (hx 0 (by decide)), if_neg (hx 1 (by decide)), if_neg (hx 2 (by decide)), if_neg (hx 3 (by decide)), if_neg (hx 4 (by decide)), if_neg (hx 5 (by decide))]
      exact ⟨_, _, _, rfl, rfl, scr2 a3 b3 (RLk.rf h1)⟩
  · rw [if_neg e, if_neg (by decide), if_neg e]
    exact ⟨_, _, _, rfl, rfl, a3⟩
theorem s_answer (hR : Rel QPx g h) (x : Int32) : ∃ r g' h', m_X6_answer g x = some (r, g') ∧ m_X7_answer h x = some (r, h') ∧ Rel QPx g' h' := by
  obtain ⟨r, h1, a1, a2, a3, a4, a5⟩ := q_ready hR
  unfold m_X6_answer m_X7_answer
  rw [bnd_e (c_isFaulty a1), bnd2_e a2]
  by_cases e : r = -1005
  · obtain ⟨tk, o, hQ, hQ', hV⟩ := a5 e
    obtain ⟨n, c, m, u, hT⟩ := a3.1
    obtain ⟨g1, h2, b1, b2, b3, b4, b5, b6⟩ := q_mark hT hQ hQ' hV
    rw [if_pos e, if_pos rfl, if_pos e]
    by_cases e2 : 0 ≤ x
    · have hn := hT.n4
      obtain ⟨r1, g2, c1, c2, c3⟩ := c_answer b5 hV x
      obtain ⟨r2, h3, d1, d2, d3⟩ := r_answer b6 hV (Int32.not_lt.mpr e2)
      have : r1 = r2 := rk_u (by omega) c3 d3
      subst this
      rw [if_pos e2, if_pos e2, bnd_e b1, bnd_e b2, c1, d1]
      exact ⟨_, _, _, rfl, rfl, scr2 a3 (b3.cf c2) (d2.rlk b4)⟩
    · rw [if_neg e2, if_neg e2]
      exact ⟨_, _, _, rfl, rfl, a3⟩
  · rw [if_neg e, if_neg (by decide), if_neg e]
    exact ⟨_, _, _, rfl, rfl, a3⟩
theorem s_passes (hR : Rel QPx g h) (x : Int32) : ∃ r g' h', m_X6_passes g x = some (r, g') ∧ m_X7_passes h x = some (r, h') ∧ Rel QPx g' h' := by
  obtain ⟨r, h1, a1, a2, a3, a4, a5⟩ := q_ready hR
  obtain ⟨n, c, m, u, hT0⟩ := hR.1
  have hn := hT0.n4
  unfold m_X6_passes m_X7_passes
  rcases row_or n (by omega) x with ⟨i, hi, rfl⟩ | ho
  · rw [bnd_e (c_has hT0 hi), bnd_e (r_isRow hT0.1 hi)]
    by_cases e1 : h.1 1 (805 + i) = -1
    · rw [if_pos e1, if_pos rfl, if_pos rfl]
      exact ⟨_, _, _, rfl, rfl, hR⟩
    · rw [if_neg e1, if_neg (by decide), if_neg (by decide), bnd_e (c_isFaulty a1), bnd2_e a2]
      by_cases e : r = -1005
      · obtain ⟨tk, o, hQ, hQ', hV⟩ := a5 e
        obtain ⟨g2, c1, c2⟩ := c_rowPasses hT0 hQ hV hi
        obtain ⟨h3, d1, d2⟩ := r_isPassed (by rw [a4]; exact hT0.1) hQ' hV hi
        rw [a4] at d1
        rw [if_pos e, if_pos rfl, if_pos e, bnd2_e c1, bnd2_e d1]
        have hfin := scr2 a3 c2.l5 (d2.rlk (RLk.rf h1))
        cases paB tk (h.1 1) i
        · rw [if_pos (by decide), if_pos (by decide)]
          exact ⟨_, _, _, rfl, rfl, hfin⟩
        · rw [if_neg (by decide), if_neg (by decide)]
          exact ⟨_, _, _, rfl, rfl, hfin⟩
      · rw [if_neg e, if_neg (by decide), if_neg e]
        exact ⟨_, _, _, rfl, rfl, a3⟩
  · rw [bnd_e (c_has_out hT0 ho), bnd_e (r_isRow_out hT0.1 ho), if_pos rfl, if_pos rfl]
    exact ⟨_, _, _, rfl, rfl, hR⟩
theorem s_looksInto (hR : Rel QPx g h) (x y : Int32) : ∃ r g' h', m_X6_looksInto g x y = some (r, g') ∧ m_X7_looksInto h x y = some (r, h') ∧ Rel QPx g' h' := by
  obtain ⟨r, h1, a1, a2, a3, a4, a5⟩ := q_ready hR
  obtain ⟨n, c, m, u, hT0⟩ := hR.1
  have hc6 := hT0.c6
  have hT : TB g 0 (h1.1 1) n c m u := by rw [a4]; exact hT0
  -- a place q that is there
  have tail : ∀ (q : Nat), q < 61 → x = nI q → (∀ tk o pr, QR h1 o → QV tk o → (pr = 0 ∨ pr = 1 ∨ pr = 2) → ∃ r h', m_X7_looks h1 x pr = some (r, h') ∧ RF h1 h' ∧ YN r (LkP tk (h1.1 1) c pr q)) → ∃ r g' h', (bnd (m_X2_isFaulty g) fun (r24 : Int32) => if r24 = 0 then (if y < 0 then some ((-1002 : Int32), g) else if y ≤ (2 : Int32) then bnd (m_X6_markLooked g y) fun (g49 : MG) => bnd (m_X0_at g49 5 62 x) fun (r57 : Int32) => some (r57, g49) else some ((-1002 : Int32), g)) else some ((-1001 : Int32), g)) = some (r, g') ∧ (bnd2 (m_X7_read h) fun (r15 : Int32) (g15 : MG) => if r15 = (-1005 : Int32) then (bnd (m_X7_in g15 y (0 : Int32) (2 : Int32)) fun (r31 : Int32) => if r31 = 0 then some ((-1002 : Int32), g15) else bnd2 (m_X7_looks g15 x y) fun (r44 : Int32) (g44 : MG) => if r44 = 0 then some ((0 : Int32), g44) else some ((1 : Int32), g44)) else some ((-1001 : Int32), g15)) = some (r, h') ∧ Rel QPx g' h' := fun q hq hx hlook => by
    rw [bnd_e (c_isFaulty a1), bnd2_e a2]
    by_cases e : r = -1005
    · obtain ⟨tk, o, hQ, hQ', hV⟩ := a5 e
      rw [if_pos e, if_pos rfl, if_pos e]
      by_cases e2 : (0 : Int32).toInt ≤ y.toInt ∧ y.toInt ≤ (2 : Int32).toInt
      · have hpr := i_02.mp e2
        obtain ⟨g1, b1, b2, b3⟩ := c_mark hT hQ hV hpr
        obtain ⟨r2, h2, d1, d2, d3⟩ := hlook tk o y hQ' hV hpr
        have hr2 : r2 = g1.1 5 q := YN.u d3 (b3 q (by omega))
        rw [if_neg (Int32.not_lt.mpr (Int32.le_iff_toInt_le.mpr e2.1)), if_pos (Int32.le_iff_toInt_le.mpr e2.2), bnd_e b1, hx, bnd_e (e_at (show q < 62 by omega) (by omega)), bnd_e (r_in1 e2), if_neg (by decide), ← hx, bnd2_e d1, ← hr2]
        have hfin := scr2 a3 b2 (d2.rlk (RLk.rf h1))
        rcases d3 with ⟨rfl, -⟩ | ⟨rfl, -⟩
        · rw [if_neg (by decide)]
          exact ⟨_, _, _, rfl, rfl, hfin⟩
        · rw [if_pos rfl]
          exact ⟨_, _, _, rfl, rfl, hfin⟩
      · rw [bnd_e (r_in0 e2), if_pos rfl]
        by_cases e3 : y < 0
        · rw [if_pos e3]
          exact ⟨_, _, _, rfl, rfl, a3⟩
        · rw [if_neg e3, if_neg (fun q => e2 ⟨Int32.le_iff_toInt_le.mp (Int32.not_lt.mp e3), Int32.le_iff_toInt_le.mp q⟩)]
          exact ⟨_, _, _, rfl, rfl, a3⟩
    · rw [if_neg e, if_neg (by decide), if_neg e]
      exact ⟨_, _, _, rfl, rfl, a3⟩
  unfold m_X6_looksInto m_X7_looksInto
  by_cases e60 : x = 60
  · rw [if_pos e60, if_pos e60]
    refine tail 60 (by omega) e60 (fun tk o pr hQ' hV hpr => ?_)
    obtain ⟨r, h', b1, b2, b3⟩ := r_looksD hT.1 hQ' hV hpr
    refine ⟨r, h', by rw [e60]; exact b1, b2, ?_⟩
    rcases b3 with ⟨k1, k2⟩ | ⟨k1, k2⟩
    · exact Or.inl ⟨k1, Or.inr ⟨rfl, k2⟩⟩
    · refine Or.inr ⟨k1, ?_⟩
      rintro (⟨q1, -⟩ | ⟨-, q1⟩)
      · omega
      · exact k2 q1
  · rw [if_neg e60, if_neg e60]
    rcases sl_or hT x with ⟨j, hj, hx⟩ | ho
    · obtain ⟨q1, q2⟩ := hT.2.1.2.1 j hj
      have hs := r_isSlice (h := h) hT0.1 q1
      rw [if_pos (by rw [← a4]; exact q2), ← hx] at hs
      have hs' := c_hasS hT hj
      rw [← hx] at hs'
      rw [bnd_e hs', if_neg (show ¬ (1 : Int32) = 0 by decide), bnd_e hs, if_neg (show ¬ (1 : Int32) = 0 by decide)]
      refine tail (u j) (by omega) hx (fun tk o pr hQ' hV hpr => ?_)
      obtain ⟨r, h', b1, b2, b3⟩ := r_looksS hT.1 hQ' hV q1 q2 hpr
      refine ⟨r, h', by rw [hx]; exact b1, b2, ?_⟩
      rcases b3 with ⟨k1, k2⟩ | ⟨k1, k2⟩
      · exact Or.inl ⟨k1, Or.inl ⟨q1, q2, k2⟩⟩
      · refine Or.inr ⟨k1, ?_⟩
        rintro (⟨-, -, q3⟩ | ⟨q3, -⟩)
        · exact k2 q3
        · omega
    · rw [bnd_e (c_hasS_no hT ho), if_pos rfl, bnd_e (r_isSlice_no hT0.1 (by rw [← a4]; exact ho)), if_pos rfl]
      exact ⟨_, _, _, rfl, rfl, hR⟩
theorem r_sparedLoop {tk o : List TK} {N : Nat → Int32} {n c : Nat} {pr : Int32} (k : RX tk o N n c pr h) : lpo (b_X7_spared_L24 h) fuelN ((0 : Int32), (0 : Int32), (0 : Int32)) = some (if cn (itB N) n = 0 then (1, 0, 0) else (2, nI (cn (loB tk N c pr) n), nI (cn (itB N) n)), h) := by
  have hn := k.2.1.1.2.1
  refine lpo_eq (fun i X => X = (nI (cn (itB N) i), nI (cn (loB tk N c pr) i), nI i)) n (by omega) rfl ?_ ?_
  · rintro i X hi rfl
    right
    have hcond : ¬ h.1 1 (0 : Int32).toNatClampNeg ≤ nI i := by rw [ak0, k.1, k.2.1.1.1, nI_leI (by omega) (by omega)]; omega
    have hi' := r_inT k.ok hi
    rw [k.1] at hi'
    refine ⟨(nI (cn (itB N) (i + 1)), nI (cn (loB tk N c pr) (i + 1)), nI (i + 1)), rfl, fun kk => ?_⟩
    simp only [b_X7_spared_L24, m_X7_spared_L24]
    rcases it_pl k.2.1 hi with ⟨h1, -⟩ | ⟨h1, hno⟩
    · obtain ⟨m1, m2, m3⟩ := r_mark k hi h1
      rw [if_pos vk0, if_neg hcond, bnd_e hi', h1, if_pos rfl, if_neg (by decide), if_pos m1, if_pos m2, m3, cn_b, cn_s h1, nI_1, nI_1]
    · rw [if_pos vk0, if_neg hcond, bnd_e hi', h1, if_neg Bool.false_ne_true, if_pos rfl, cn_n h1, cn_n (lo_no hno), nI_1]
  · rintro X rfl kk
    have hcond : h.1 1 (0 : Int32).toNatClampNeg ≤ nI n := by rw [ak0, k.1, k.2.1.1.1]; exact nI_le (Nat.le_refl n) (by omega)
    have hcn := cn_le (itB N) n
    simp only [b_X7_spared_L24, m_X7_spared_L24]
    rw [if_pos vk0, if_pos hcond]
    by_cases e : cn (itB N) n = 0
    · rw [if_pos e, if_pos (by rw [e]; decide)]
    · rw [if_neg e, if_neg (nI_ne0 (by omega) (by omega))]
theorem s_spared (hR : Rel QPx g h) : ∃ (r : Int32 × Int32 × Int32) (g' : MG) (h' : MG), m_X6_spared g = some (r, g') ∧ m_X7_spared h = some (r, h') ∧ Rel QPx g' h' := by
  obtain ⟨r, h1, a1, a2, a3, a4, a5⟩ := q_ready hR
  unfold m_X6_spared m_X7_spared
  rw [bnd_e (c_isFaulty a1), bnd2_e a2]
  by_cases e : r = -1005
  · obtain ⟨tk, o, hQ, hQ', hV⟩ := a5 e
    obtain ⟨n, c, m, u, hT⟩ := a3.1
    have hn := hT.n4
    have hcn := cn_le (itB (h1.1 1)) n
    obtain ⟨g1, h2, b1, b2, b3, b4, b5, b6⟩ := q_mark hT hQ hQ' hV
    rw [if_pos e, if_pos rfl, if_pos e, bnd_e (c_amountInTable hT), bnd_e b2, r_sparedLoop b6]
    by_cases e0 : cn (itB (h1.1 1)) n = 0
    · rw [if_pos e0, if_neg (by rw [e0]; decide)]
      exact ⟨_, _, _, rfl, rfl, scr2 a3 (CL5.rf g) b4⟩
    · rw [if_neg e0, if_pos (show (0 : Int32) < nI (cn (itB (h1.1 1)) n) from nI_lt (a := 0) (by omega) (by omega)), bnd_e b1, bnd_e (c_lookedRows b5)]
      exact ⟨_, _, _, rfl, rfl, scr2 a3 b3 b4⟩
  · rw [if_neg e, if_neg (by decide), if_neg e]
    exact ⟨_, _, _, rfl, rfl, a3⟩
end
