/-! swapped twice, split and merged: all is as it was -/
section
variable {g g' g0 g1 g2 G : MG} {N N' N1 N2 : Nat → Int32} {n c m n' c' m' n1 c1 n2 c2 : Nat} {u u' : Nat → Nat}
theorem b331 (hT0 : TB g0 0 N n c m u) (hH0 : HO g0) (hG : Gd N n c) {q : Nat} (hq : q < c) (hal : N (1205 + q) = 1) (h20 : cn (RP N (nI q)) n ≤ 20) (hd : Dn g0 N n c g (xcN N n (nI q)) n c) {r282 r286 : Int32} (hl : m_X6_lies g0 (nI q) 0 = some r282) (hr : m_X6_row g0 r282 0 = some r286) (x1 x2 : Int32) : ∃ g', m_L_back_J331 x1 x2 (nI q) (N (1265 + q)) (N (1325 + q)) (nI (cn (RP N (nI q)) n)) (smI (RP N (nI q)) (fun i => N (405 + i)) n) (nI (cn (spB N c (nI q)) n)) (nI (cn (RP N 61) n)) (nI (cn (RP N 61) n - cn (RB N 61 (N (1265 + q)) (N (1325 + q))) n)) r286 g = some (1, g') ∧ (∃ m u, TB g' 0 N n c m u) ∧ HO g' ∧ Kq g0 g' := by
  have hk := hT0.1
  have hn := hT0.n4
  have hc := hT0.c6
  have hq6 : q < 60 := by omega
  obtain ⟨⟨mg, ug, hTg⟩, hHg, -⟩ := id hd
  obtain ⟨x61, xq⟩ := xc_n61 (N := N) (n := n) hq6
  have hal' : xcN N n (nI q) (1205 + q) = 1 := by rw [xcN_out (by omega)]; exact hal
  have c3' := z_c3 hTg
  rw [x61] at c3'
  obtain ⟨-, -, -, -, s6⟩ := rd hTg hq hal'
  have hsp := xc_sp hk hTg.1 hq hal
  have e6 : cn (spB (xcN N n (nI q)) c (nI q)) n = cn (RP N 61) n - cn (RB N 61 (N (1265 + q)) (N (1325 + q))) n := by omega
  rw [e6] at s6
  obtain ⟨gb, b1, b2⟩ := go (P := m_X6_swap g (nI q) 0) (r := nI (cn (RP N (nI q)) n)) (N' := N) (n' := n) (c' := c) hTg hHg (fun gz h1 h2 => by
    obtain ⟨j, hj, hju⟩ := hTg.2.1.2.2.1 q hq hal'
    have h20' : cn (RP (xcN N n (nI q)) (nI (ug j))) n ≤ 20 := by rw [hju, xq]; exact hk.stage
    have := k_swap (y := 0) hTg hj (Or.inl rfl) h20' h1 h2
    rw [hju, x61, xc_xc hq6] at this
    exact this)
  obtain ⟨⟨mb, ub, hTb⟩, hHb, -⟩ := id b2
  obtain ⟨-, -, -, s5, -⟩ := rd hTb hq hal
  have l2 : m_X6_lies gb (nI q) 0 = some r282 := (lies_cg hTb hT0 _ _).trans hl
  have r2 : m_X6_row gb r282 0 = some r286 := (row_cg hTb hT0 _ _).trans hr
  obtain ⟨r3, gc, r4, gd, d1, d2, ⟨md, ud, d3⟩, d4, d5⟩ := un2 hd b2
  obtain ⟨ge, e1, e2, e3, e4⟩ := b403 d3 d4 hG hq hal x1 x2
  refine ⟨ge, ?_, e2, e3, d5.tr e4⟩
  unfold m_L_back_J331
  rw [bnd_e c3', if_pos rfl, bnd_e s6, if_pos rfl, bnd2_e b1, if_pos rfl, bnd_e s5, if_pos rfl, bnd_e l2, bnd_e r2, if_pos rfl, bnd2_e d1, bnd2_e d2]
  exact e1
theorem b257 (hT : TB g 0 N n c m u) (hH : HO g) (hG : Gd N n c) {q : Nat} (hq : q < c) (hal : N (1205 + q) = 1) (x1 x2 : Int32) : ∃ g', m_L_back_J257 x1 x2 (nI q) (N (1265 + q)) (N (1325 + q)) (nI (cn (RP N (nI q)) n)) (smI (RP N (nI q)) (fun i => N (405 + i)) n) (nI (cn (spB N c (nI q)) n)) g = some (1, g') ∧ (∃ m u, TB g' 0 N n c m u) ∧ HO g' ∧ Kq g g' := by
  have hk := hT.1
  have hn := hT.n4
  have hc := hT.c6
  have ne : ¬ (1 : Int32) = 0 := by decide
  have hcn := cn_le (RP N (nI q)) n
  have h61 := cn_le (RP N 61) n
  have hrb : cn (RB N 61 (N (1265 + q)) (N (1325 + q))) n ≤ cn (RP N 61) n := rb_rp
  obtain ⟨j, hj, hju⟩ := hT.2.1.2.2.1 q hq hal
  have huf := z_unfit hT hj
  rw [hju, pk_sub hrb] at huf
  unfold m_L_back_J257
  rw [bnd_e (z_c3 hT), bnd_e huf]
  by_cases e1 : cn (RP N (nI q)) n ≤ 20
  · rw [if_neg (show ¬ (20 : Int32) < nI (cn (RP N (nI q)) n) from Int32.not_lt.mpr ((l20 (by omega)).mpr e1))]
    obtain ⟨r282, hl⟩ := lies_ex hT (nI q) 0
    obtain ⟨r286, hr⟩ := row_ex hT r282 0
    rw [bnd_e hl, bnd_e hr]
    have h20 : cn (RP N (nI (u j))) n ≤ 20 := by rw [hju]; exact e1
    by_cases e2 : Ufz N n q
    · obtain ⟨ga, a1, a2⟩ := go (P := m_X6_swap g (nI q) 1) (r := nI (cn (RP N 61) n)) (N' := xcN N n (nI q)) (n' := n) (c' := c) hT hH (fun gz h1 h2 => by
        have := k_swap (y := 1) hT hj (Or.inr (by rw [hju]; exact e2)) h20 h1 h2
        rw [hju] at this
        exact this)
      have hz : cn (RP N 61) n - cn (RB N 61 (N (1265 + q)) (N (1325 + q))) n = 0 := by
        unfold Ufz at e2
        omega
      obtain ⟨gz, z1, z2, z3, z4⟩ := b331 hT hH hG hq hal e1 a2 hl hr x1 x2
      refine ⟨gz, ?_, z2, z3, z4⟩
      have hle : nI (cn (RP N 61) n - cn (RB N 61 (N (1265 + q)) (N (1325 + q))) n) ≤ 0 := (nI_le0 (by omega)).mpr hz
      rw [bnd2_e a1, if_pos hle]
      unfold m_L_back_J310
      rw [if_pos rfl, if_pos hle]
      exact z1
    · have a1 : m_X6_swap g (nI q) 1 = some (-1004, g) := by
        have := k_swapN (y := 1) hT hj ne (by rw [hju]; exact e2)
        rw [hju] at this
        exact this
      obtain ⟨gb, b1, b2⟩ := go (P := m_X6_swap g (nI q) 0) (r := nI (cn (RP N 61) n)) (N' := xcN N n (nI q)) (n' := n) (c' := c) hT hH (fun gz h1 h2 => by
        have := k_swap (y := 0) hT hj (Or.inl rfl) h20 h1 h2
        rw [hju] at this
        exact this)
      obtain ⟨gz, z1, z2, z3, z4⟩ := b331 hT hH hG hq hal e1 b2 hl hr x1 x2
      refine ⟨gz, ?_, z2, z3, z4⟩
      have hle : ¬ nI (cn (RP N 61) n - cn (RB N 61 (N (1265 + q)) (N (1325 + q))) n) ≤ 0 := fun w => e2 (by
        have := (nI_le0 (by omega)).mp w
        unfold Ufz
        omega)
      rw [bnd2_e a1, if_neg hle]
      unfold m_L_back_J310
      rw [if_pos rfl, if_neg hle, bnd2_e b1, if_pos rfl]
      exact z1
  · rw [if_pos (show (20 : Int32) < nI (cn (RP N (nI q)) n) from Int32.not_le.mp (fun w => e1 ((l20 (by omega)).mp w)))]
    exact b403 hT hH hG hq hal x1 x2
theorem b113 (hT : TB g 0 N n c m u) (hH : HO g) (hG : Gd N n c) {q : Nat} (hq : q < c) (hal : N (1205 + q) = 1) {y : Int32} (hy : y < 0 ∨ ((N (1265 + q)).toInt < y.toInt ∧ y.toInt < (N (1325 + q)).toInt)) (x1 x2 : Int32) : ∃ g', m_L_back_J113 x1 x2 (nI q) (N (1265 + q)) (N (1325 + q)) (nI (cn (RP N (nI q)) n)) (smI (RP N (nI q)) (fun i => N (405 + i)) n) (nI (cn (spB N c (nI q)) n)) y g = some (1, g') ∧ (∃ m u, TB g' 0 N n c m u) ∧ HO g' ∧ Kq g g' := by
  have hk := hT.1
  have hn := hT.n4
  have hc := hT.c6
  unfold m_L_back_J113
  by_cases e0 : y < 0
  · rw [if_pos e0]
    exact b257 hT hH hG hq hal x1 x2
  · have hy := hy.resolve_left e0
    rw [if_neg e0]
    obtain ⟨j, hj, hju⟩ := hT.2.1.2.2.1 q hq hal
    subst hju
    have hub := u_b hk hT.2.1 hj
    by_cases hf : Fl N c
    · rw [bnd2_e ((k_split (g1 := g) hT hj hy).1 hf), if_pos (by decide)]
      exact b257 hT hH hG hq hal x1 x2
    · have hcc : c < 60 := by
        have := fl_n hT hf
        omega
      obtain ⟨ga, a1, a2⟩ := go (P := m_X6_split g (nI (u j)) y) hT hH (fun gz h1 h2 => (k_split hT hj hy).2 hf h1 h2)
      obtain ⟨⟨ma, ua, hTa⟩, hHa, -⟩ := id a2
      obtain ⟨c1, c2, c3, c4⟩ := sp_a (N := N) (n := n) hn hcc hq (y := y)
      have hka := hTa.1
      have hala : spN N n c (u j) y (1205 + u j) = 1 := by rw [sp_o hn (by omega) (by omega) (by omega) (by omega) (by omega) (by omega)]; exact hal
      have hloa : spN N n c (u j) y (1265 + u j) = N (1265 + u j) := sp_o hn (by omega) (by omega) (by omega) (by omega) (by omega) (by omega)
      obtain ⟨-, t1, t2, -, -⟩ := rd hTa (q := u j) (by omega) hala
      obtain ⟨p0, p1, p2, -, -⟩ := rd hTa (q := c) (by omega) c1
      rw [c4] at t1
      rw [c2] at p0
      rw [c3] at p1
      -- the rows of both
      have hrc : ∀ i, i < n → (spN N n c (u j) y (805 + i) = nI c ↔ RB N (nI (u j)) y (N (1325 + u j)) i = true) := fun i hi => by
        rw [sp_pl hn hcc hi]
        by_cases w : RB N (nI (u j)) y (N (1325 + u j)) i = true
        · rw [if_pos w]; exact ⟨fun _ => w, fun _ => rfl⟩
        · rw [if_neg w]; exact ⟨fun z => absurd z (no_c hk hcc hi), fun z => absurd z w⟩
      have hrq : ∀ i, i < n → (spN N n c (u j) y (805 + i) = nI (u j) ↔ N (805 + i) = nI (u j) ∧ ¬ RB N (nI (u j)) y (N (1325 + u j)) i = true) := fun i hi => by
        rw [sp_pl hn hcc hi]
        by_cases w : RB N (nI (u j)) y (N (1325 + u j)) i = true
        · rw [if_pos w]
          refine ⟨fun z => ?_, fun z => absurd w z.2⟩
          have := (nI_eq (by omega) (by omega)).mp z
          omega
        · rw [if_neg w]; exact ⟨fun z => ⟨z, w⟩, fun z => z.1⟩
      have hsum : cn (RP (spN N n c (u j) y) (nI c)) n + cn (RP (spN N n c (u j) y) (nI (u j))) n = cn (RP N (nI (u j))) n := by
        have h := cn_two (RP N (nI (u j))) (RB N (nI (u j)) y (N (1325 + u j))) n
        have ha : cn (RP (spN N n c (u j) y) (nI (u j))) n = cn (fun i => RP N (nI (u j)) i && !RB N (nI (u j)) y (N (1325 + u j)) i) n := cn_congr (fun i hi => by
          rw [Bool.eq_iff_iff, rp_iff, hrq i hi, Bool.and_eq_true, rp_iff, Bool.not_eq_true', Bool.eq_false_iff])
        have hb : cn (RP (spN N n c (u j) y) (nI c)) n = cn (fun i => RP N (nI (u j)) i && RB N (nI (u j)) y (N (1325 + u j)) i) n := cn_congr (fun i hi => by
          rw [Bool.eq_iff_iff, rp_iff, hrc i hi, Bool.and_eq_true, rp_iff]
          exact ⟨fun w => ⟨(rb_iff.mp w).1, w⟩, fun w => w.2⟩)
        omega
      have hcl := cn_le (RP N (nI (u j))) n
      obtain ⟨p, hp, hpu⟩ := hTa.2.1.2.2.1 c (by omega) c1
      obtain ⟨r, hr, hru⟩ := hTa.2.1.2.2.1 (u j) (by omega) hala
      have hbes : Bes (spN N n c (u j) y) (ua p) (ua r) := by
        rw [hpu, hru]
        exact Or.inr (by rw [c4, c2])
      obtain ⟨z1, -, -, -, z5⟩ := bes_b hTa hp hr hbes
      have h30 : cn (RP (spN N n c (u j) y) (nI (ua p))) n + cn (RP (spN N n c (u j) y) (nI (ua r))) n ≤ 30 := by
        rw [hpu, hru, hsum]
        exact hG.2 (u j) (by omega)
      have hmm : mLo (spN N n c (u j) y) c (u j) = N (1265 + u j) ∧ mHi (spN N n c (u j) y) c (u j) = N (1325 + u j) := by
        rw [hpu, hru] at z5
        rcases z5 with ⟨w, -, -⟩ | ⟨-, w1, w2⟩
        · rw [c3, hloa] at w
          rw [w] at hub
          omega
        · exact ⟨w1.trans hloa, w2.trans c3⟩
      obtain ⟨gb, b1, b2⟩ := go (P := m_X6_merge ga (nI c) (nI (u j))) (r := nI (cn (RP N (nI (u j))) n)) (N' := mgN (spN N n c (u j) y) n c (u j) (N (1265 + u j)) (N (1325 + u j))) (n' := n) (c' := c + 1) hTa hHa (fun gz h1 h2 => by
        have := k_merge hTa hp hr hbes h30 h1 h2
        rw [hpu, hru, hsum, hmm.1, hmm.2] at this
        exact this)
      obtain ⟨⟨mb, ub, hTb⟩, hHb, -⟩ := id b2
      obtain ⟨m1, m2, m3⟩ := mg_a (N := spN N n c (u j) y) (n := n) (p := c) (r := u j) hcc (by omega) (lo := N (1265 + u j)) (hi := N (1325 + u j))
      have halb : mgN (spN N n c (u j) y) n c (u j) (N (1265 + u j)) (N (1325 + u j)) (1205 + u j) = 1 := by
        rw [mg_o hn (by omega) (by omega) (by omega) (by omega)]
        exact hala
      have hplb : ∀ i, i < n → (mgN (spN N n c (u j) y) n c (u j) (N (1265 + u j)) (N (1325 + u j)) (805 + i) = nI (u j) ↔ N (805 + i) = nI (u j)) := fun i hi => by
        rw [mg_pl hka hi]
        by_cases w : spN N n c (u j) y (805 + i) = nI c
        · rw [if_pos w]
          exact ⟨fun _ => (rb_iff.mp ((hrc i hi).mp w)).1, fun _ => rfl⟩
        · rw [if_neg w, hrq i hi]
          exact ⟨fun z => z.1, fun z => ⟨z, fun z2 => w ((hrc i hi).mpr z2)⟩⟩
      obtain ⟨v0, v1, -, v5, v6⟩ := rd hTb (q := u j) (by omega) halb
      rw [m2] at v0
      rw [m3] at v1
      rw [smI_cg (q := RP N (nI (u j))) (w := fun i => N (405 + i)) (rp_same hplb) (fun i hi => by
        rw [mg_o hn (by omega) (by omega) (by omega) (by omega), sp_o hn (by omega) (by omega) (by omega) (by omega) (by omega) (by omega)])] at v5
      rw [sp_same hk hTb.1 hq hal (by omega) halb m2 m3 hplb (fun i hi => by
        rw [mg_o hn (by omega) (by omega) (by omega) (by omega), sp_o hn (by omega) (by omega) (by omega) (by omega) (by omega) (by omega)])] at v6
      obtain ⟨r3, gc, r4, gd, d1, d2, ⟨md, ud, d3⟩, d4, d5⟩ := un2 a2 b2
      obtain ⟨ge, f1, f2, f3, f4⟩ := b257 d3 d4 hG hq hal x1 x2
      refine ⟨ge, ?_, f2, f3, d5.tr f4⟩
      have hadd : nI (cn (RP (spN N n c (u j) y) (nI (u j))) n) + nI (cn (RP (spN N n c (u j) y) (nI c)) n) = nI (cn (RP N (nI (u j))) n) := by
        rw [nI_add]
        congr 1
        omega
      rw [bnd2_e a1, if_neg (nI_pos (by omega)), bnd_e t1, if_pos rfl, bnd_e p0, if_pos rfl, bnd_e p1, if_pos rfl, bnd_e t2, bnd_e p2, if_pos hadd, bnd2_e b1, if_pos rfl, bnd_e v0, if_pos rfl, bnd_e v1, if_pos rfl, bnd_e v5, if_pos rfl, bnd_e v6, if_pos rfl, bnd2_e d1, bnd2_e d2]
      exact f1
theorem z_back (hT : TB g 0 N n c m u) (hH : HO g) (hG : Gd N n c) (x1 x2 : Int32) : ∃ g', m_L_back g x1 x2 = some (1, g') ∧ (∃ m u, TB g' 0 N n c m u) ∧ HO g' ∧ Kq g g' := by
  have hk := hT.1
  have hn := hT.n4
  have hc := hT.c6
  have hql := lww_lt (x := x1) (d := c + 1) (by omega)
  have hself : ∃ g', some ((1 : Int32), g) = some (1, g') ∧ (∃ m u, TB g' 0 N n c m u) ∧ HO g' ∧ Kq g g' := ⟨g, rfl, ⟨m, u, hT⟩, hH, Kq.rf⟩
  unfold m_L_back
  rw [bnd_e (z_c1 hT), nI_1, bnd_e (low_e (d := c + 1) (by omega) (by omega))]
  generalize lw x1 (c + 1) = q at hql
  by_cases e59 : q ≤ 59
  · rcases sl_N N c (nI q) with ⟨q', hq', hal', e⟩ | ho
    · have e := (nI_eq (by omega) (by omega)).mp e
      subst e
      obtain ⟨s0, s1, s2, s5, s6⟩ := rd hT hq' hal'
      have hcl := cn_le (RP N (nI q)) n
      rw [bnd_e s2, if_neg (nI_pos (by omega)), if_pos (show nI q ≤ (59 : Int32) from (nI_leI (b := 59) (by omega) (by omega)).mpr e59), bnd_e s0, bnd_e s1, bnd_e s2, bnd_e s5, bnd_e s6]
      rcases z_best hT hq' hal' with ⟨h1, h2⟩ | ⟨r, h1, h2, h3⟩
      · rw [bnd_e h2, if_pos rfl, if_pos h1]
        exact b113 hT hH hG hq' hal' (Or.inl (by decide)) x1 x2
      · have hb := (hk.2.2.2.1 q hq').2 hal'
        have hr0 : ¬ r = -1005 := fun e => by
          have h5 : ((-1005 : Int32)).toInt = -1005 := by decide
          rw [e, h5] at h2
          omega
        rw [bnd_e h1, if_neg hr0, if_neg (fun w => by have := Int32.le_iff_toInt_le.mp w; omega), if_pos (Int32.lt_iff_toInt_lt.mpr h3)]
        exact b113 hT hH hG hq' hal' (Or.inr ⟨h2, h3⟩) x1 x2
    · have h6 := ni_61 (show q < 60 by omega)
      rw [bnd_e (z_sliceN hT h6.2.1 h6.1 ho 2), if_pos (by decide)]
      exact hself
  · have hq60 : q = 60 := by omega
    obtain ⟨r, hr⟩ := slice_ex hT (nI q) 2
    rw [bnd_e hr]
    by_cases e : r < 0
    · rw [if_pos e]
      exact hself
    · rw [if_neg e, if_neg (show ¬ nI q ≤ (59 : Int32) from fun w => e59 ((nI_leI (b := 59) (by omega) (by omega)).mp w))]
      exact hself
end
