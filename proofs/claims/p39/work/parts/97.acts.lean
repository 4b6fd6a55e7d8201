/-! addSlice, attach, dropSlice, detach, split -/
abbrev AB (x y : Int32) : Prop := 0 ≤ x.toInt ∧ x.toInt < y.toInt ∧ y.toInt ≤ 1000
section
variable {g g' g1 G : MG} {N N' : Nat → Int32} {n c m n' c' m' : Nat} {u u' : Nat → Nat}
theorem ab_y {x y : Int32} (h : AB x y) : m_X6_areBounds g x y = some 1 := by
  unfold m_X6_areBounds
  rw [bnd_e (c_isKey x), if_pos (show 0 ≤ x.toInt ∧ x.toInt < 1000 by omega), if_neg (show ¬ (1 : Int32) = 0 by decide), if_neg (fun w => by have := Int32.le_iff_toInt_le.mp w; omega), if_neg (fun w => by have : (1000 : Int) < y.toInt := Int32.lt_iff_toInt_lt.mp w; omega)]
theorem ab_n {x y : Int32} (h : ¬ AB x y) : m_X6_areBounds g x y = some 0 := by
  unfold m_X6_areBounds
  rw [bnd_e (c_isKey x)]
  by_cases e1 : 0 ≤ x.toInt ∧ x.toInt < 1000
  · rw [if_pos e1, if_neg (by decide)]
    by_cases e2 : y ≤ x
    · rw [if_pos e2]
    · rw [if_neg e2, if_pos]
      have h2 := Int32.lt_iff_toInt_lt.mp (Int32.not_le.mp e2)
      exact Int32.lt_iff_toInt_lt.mpr (by show (1000 : Int) < y.toInt; omega)
  · rw [if_neg e1, if_pos rfl]
theorem ov_y (hT : TB g 0 N n c m u) {x y : Int32} (h : Tk N c x y) : m_X4_overlap g 0 x y = some 1 := by
  obtain ⟨r, h1, ⟨rfl, -⟩ | ⟨-, h3⟩⟩ := c_overlap hT x y
  · exact h1
  · exact absurd h h3
theorem ov_n (hT : TB g 0 N n c m u) {x y : Int32} (h : ¬ Tk N c x y) : m_X4_overlap g 0 x y = some 0 := by
  obtain ⟨r, h1, ⟨-, h3⟩ | ⟨rfl, -⟩⟩ := c_overlap hT x y
  · exact absurd h3 h
  · exact h1
def Fl (N : Nat → Int32) (c : Nat) : Prop := cn (alB N) c = 12 ∨ c = 60
theorem fl_y (hT : TB g 0 N n c m u) (h : Fl N c) : m_X4_isFull g 0 = some 1 := by
  have e := (al_bij hT.1 hT.2.1 (fun _ => 0)).1
  unfold Fl at h
  rw [e] at h
  rw [c_isFull hT, if_pos h]
theorem fl_n (hT : TB g 0 N n c m u) (h : ¬ Fl N c) : m_X4_isFull g 0 = some 0 ∧ m < 12 ∧ c < 60 := by
  have e := (al_bij hT.1 hT.2.1 (fun _ => 0)).1
  unfold Fl at h
  rw [e] at h
  obtain ⟨h1, h2⟩ := full_b hT.m12 hT.c6 h
  exact ⟨by rw [c_isFull hT, if_neg h], h1, h2⟩
theorem ni_61 {q : Nat} (hq : q < 60) : ¬ nI q = 61 ∧ ¬ nI q = 60 ∧ ¬ nI q = -1 := by
  refine ⟨?_, ?_, nI_ne_m (by omega) (by decide)⟩
  · rw [show (61 : Int32) = nI 61 from rfl, nI_eq (by omega) (by omega)]; omega
  · rw [show (60 : Int32) = nI 60 from rfl, nI_eq (by omega) (by omega)]; omega
theorem rb_cut {a b p lo hi : Int32} {i : Nat} (hi' : i < 400) (hc : c < 60) : RB (cutN N c a b) p lo hi i = RB N p lo hi i := by
  unfold RB
  rw [cut_o (by omega) (by omega) (by omega) (by omega), cut_o (by omega) (by omega) (by omega) (by omega)]
def ctN (N : Nat → Int32) (n c : Nat) (a b p lo hi : Int32) : Nat → Int32 := mvN (cutN N c a b) n p (nI c) lo hi
theorem ct_pl (hn : n ≤ 400) (hc : c < 60) {a b p lo hi : Int32} {i : Nat} (hi' : i < n) : ctN N n c a b p lo hi (805 + i) = if RB N p lo hi i = true then nI c else N (805 + i) := by
  unfold ctN
  rw [mvN_in hi', rb_cut (by omega) hc, cut_o (by omega) (by omega) (by omega) (by omega)]
theorem ct_o (hn : n ≤ 400) {a b p lo hi : Int32} {j : Nat} (h1 : j < 805 ∨ 1205 ≤ j) (h0 : j ≠ 1) (h2 : j ≠ 1205 + c) (h3 : j ≠ 1265 + c) (h4 : j ≠ 1325 + c) : ctN N n c a b p lo hi j = N j := by
  unfold ctN
  rw [mvN_out (by omega), cut_o h0 h2 h3 h4]
theorem ct_a (hn : n ≤ 400) (hc : c < 60) {a b p lo hi : Int32} : ctN N n c a b p lo hi (1205 + c) = 1 ∧ ctN N n c a b p lo hi (1265 + c) = a ∧ ctN N n c a b p lo hi (1325 + c) = b := by
  obtain ⟨h1, h2, h3, -⟩ := cut_a (N := N) (a := a) (b := b) hc
  unfold ctN
  exact ⟨by rw [mvN_out (by omega)]; exact h1, by rw [mvN_out (by omega)]; exact h2, by rw [mvN_out (by omega)]; exact h3⟩
theorem cut_ok (hT : TB g 0 N n c m u) (hf : ¬ Fl N c) {a b : Int32} (hab : AB a b) (hno : ¬ Tk N c a b) (p lo hi : Int32) : ∃ G G2 m' u', m_X4_append g 0 a b = some (nI c, G) ∧ m_X3_moveKeys G 0 p (nI c) lo hi = some G2 ∧ G2.2 = g.2 ∧ (∀ x, x < 20 ∨ 35 ≤ x → G2.1 x = g.1 x) ∧ TB G2 0 (ctN N n c a b p lo hi) n (c + 1) m' u' := by
  obtain ⟨-, hm, hc⟩ := fl_n hT hf
  obtain ⟨G, u', a1, a2, a3, a4⟩ := tb_cut hT hc hm hab hno
  obtain ⟨h1, -⟩ := cut_a (N := N) (a := a) (b := b) hc
  obtain ⟨G2, b1, b2, b3, b4⟩ := tb_move a4 p (nI c) lo hi (Or.inr (Or.inr (Or.inr ⟨c, by omega, rfl, h1⟩))) (Or.inl (ni_61 hc).1)
  exact ⟨G, G2, m + 1, u', a1, b1, b2.trans a2, fun x hx => (b3 x (by omega)).trans (a3 x hx), b4⟩
theorem dfo_ct (hk : OkN N n c) (hD : DfO N n c) (hc : c < 60) {a b p lo hi : Int32} (h : ∀ i, i < n → N (805 + i) = 60 → RB N p lo hi i = false → ¬ (a.toInt ≤ (N (5 + i)).toInt ∧ (N (5 + i)).toInt < b.toInt)) : DfO (ctN N n c a b p lo hi) n (c + 1) := by
  have hn := hk.1.2.1
  obtain ⟨c1, c2, c3⟩ := ct_a (N := N) (a := a) (b := b) (p := p) (lo := lo) (hi := hi) hn hc
  refine dfo_cg hD (by omega) (by omega) (ct_o hn (by omega) (by omega) (by omega) (by omega) (by omega)) (fun i hi' hp => Or.inl ?_)
  rw [ct_pl hn hc hi'] at hp
  cases hb : RB N p lo hi i with
  | true =>
    rw [hb, if_pos rfl] at hp
    exact absurd hp (ni_61 hc).2.1
  | false =>
    rw [hb, if_neg Bool.false_ne_true] at hp
    refine ⟨hi', hp, ct_o hn (by omega) (by omega) (by omega) (by omega) (by omega), fun q hq => ?_⟩
    by_cases e : q = c
    · subst e
      obtain ⟨-, -, x1, x2⟩ := hq
      rw [c2] at x1
      rw [c3] at x2
      exact absurd ⟨x1, x2⟩ (h i hi' hp hb)
    · have hqc := hq.1
      refine ⟨q, ?_⟩
      obtain ⟨-, x0, x1, x2⟩ := hq
      rw [ct_o hn (by omega) (by omega) (by omega) (by omega) (by omega)] at x0 x1 x2
      exact ⟨by omega, x0, x1, x2⟩
theorem no_c (hk : OkN N n c) (hc : c < 60) {i : Nat} (hi : i < n) : ¬ N (805 + i) = nI c := fun e => by
  have h := ni_61 hc
  rcases hk.pl hi with w | w | w | ⟨q, hq, w, -⟩
  · exact h.2.2 (e.symm.trans w)
  · exact h.2.1 (e.symm.trans w)
  · exact h.1 (e.symm.trans w)
  · have := (nI_eq (by omega) (by omega)).mp (e.symm.trans w)
    omega
theorem p30_new (hk : OkN N n c) (h : P30 N n) (hc : c < 60) {b : Nat → Bool} {p : Int32} (hb : ∀ i, i < n → b i = true → N (805 + i) = p) (hp : cn (RP N p) n ≤ 30) (hN : ∀ i, i < n → N' (805 + i) = if b i = true then nI c else N (805 + i)) : P30 N' n := fun q hq => by
  by_cases e : q = c
  · subst e
    refine Nat.le_trans (cn_mono (fun i hi hp' => ?_)) hp
    have e := rp_iff.mp hp'
    rw [hN i hi] at e
    by_cases hbi : b i = true
    · exact rp_iff.mpr (hb i hi hbi)
    · rw [if_neg hbi] at e
      exact absurd e (no_c hk hc hi)
  · refine Nat.le_trans (cn_mono (fun i hi hp' => ?_)) (h q hq)
    have e2 := rp_iff.mp hp'
    rw [hN i hi] at e2
    by_cases hbi : b i = true
    · rw [if_pos hbi] at e2
      exact absurd ((nI_eq (by omega) (by omega)).mp e2).symm e
    · rw [if_neg hbi] at e2
      exact rp_iff.mpr e2
theorem p30_ct (hk : OkN N n c) (h : P30 N n) (hc : c < 60) {a b p lo hi : Int32} (hp : cn (RP N p) n ≤ 30) : P30 (ctN N n c a b p lo hi) n := p30_new hk h hc (b := RB N p lo hi) (fun i hi' hb => (rb_iff.mp hb).1) hp (fun i hi' => ct_pl hk.1.2.1 hc hi')
theorem e_addSlice (hk : OkN N n c) (hG : Gd N n c) (x y : Int32) : ActX (fun g => m_X6_addSlice g x y) N n c := by
  obtain ⟨hD, hP30⟩ := hG
  have ne : ¬ (1 : Int32) = 0 := by decide
  have hn := hk.1.2.1
  have hcn := cn_le (RB N 60 x y) n
  by_cases e1 : AB x y
  · by_cases e3 : Tk N c x y
    · refine ActX.no (-1004) (by decide) (fun g m u hT => ?_)
      unfold m_X6_addSlice
      rw [bnd_e (ab_y e1), if_neg ne, bnd_e (c_amountK hT 60 x y)]
      by_cases e2 : nI (cn (RB N 60 x y) n) ≤ 0
      · rw [if_pos e2, bnd_e (ov_y hT e3), if_neg ne]
      · rw [if_neg e2, bnd_e (ov_y hT e3), if_neg ne]
    · by_cases e4 : cn (RB N 60 x y) n = 0 ∨ ¬ N 4 = 0
      · have hpre : ∀ g m u, TB g 0 N n c m u → m_X6_addSlice g x y = bnd (m_X4_isFull g 0) fun (r75 : Int32) => if r75 = 0 then bnd (m_X1_record g 0) fun (g93 : MG) => bnd2 (m_X4_append g93 0 x y) fun (r105 : Int32) (g105 : MG) => bnd (m_X3_moveKeys g105 0 (60 : Int32) r105 x y) fun (g123 : MG) => some (r105, g123) else some ((-1003 : Int32), g) := by
          intro g m u hT
          have c4 : g.1 (20 + 15 * 0) 4 = N 4 := hT.2.2.1.2.2.2.2.2
          unfold m_X6_addSlice
          rw [bnd_e (ab_y e1), if_neg ne, bnd_e (c_amountK hT 60 x y)]
          by_cases e2 : cn (RB N 60 x y) n = 0
          · rw [if_pos ((nI_le0 (by omega)).mpr e2), bnd_e (ov_n hT e3), if_pos rfl, if_pos rfl]
          · rw [if_neg (fun w => e2 ((nI_le0 (by omega)).mp w)), bnd_e (ov_n hT e3), if_pos rfl, if_neg ne, if_neg (fun w => e4.resolve_left e2 (c4.symm.trans w))]
        by_cases e5 : Fl N c
        · refine ActX.no (-1003) (by decide) (fun g m u hT => ?_)
          show m_X6_addSlice g x y = _
          rw [hpre g m u hT, bnd_e (fl_y hT e5), if_neg ne]
        · have hc : c < 60 := by
            unfold Fl at e5
            have := hk.1.2.2.2
            omega
          refine ActX.yes (nI c) (ctN N n c x y 60 x y) n (c + 1) (nI_pos (by omega)) ⟨dfo_ct hk hD hc (fun i hi hp hb hin => ?_), p30_ct hk hP30 hc (hP30 60 (by omega))⟩ (fun g m u g1 hT h1 hT1 => ?_)
          · rw [Bool.eq_false_iff] at hb
            exact hb (rb_iff.mpr ⟨hp, hin⟩)
          · obtain ⟨G, G2, m', u', a1, a2, a3, a4, a5⟩ := cut_ok hT1 e5 e1 e3 60 x y
            refine ⟨G2, m', u', ?_, a3, a4, a5⟩
            show m_X6_addSlice g x y = _
            rw [hpre g m u hT, bnd_e (fl_n hT e5).1, if_pos rfl, bnd_e h1, bnd2_e a1, bnd_e a2]
      · refine ActX.no (-1004) (by decide) (fun g m u hT => ?_)
        have c4 : g.1 (20 + 15 * 0) 4 = N 4 := hT.2.2.1.2.2.2.2.2
        have e41 : ¬ cn (RB N 60 x y) n = 0 := fun w => e4 (Or.inl w)
        have e42 : N 4 = 0 := by
          refine Classical.byContradiction (fun w => e4 (Or.inr w))
        unfold m_X6_addSlice
        rw [bnd_e (ab_y e1), if_neg ne, bnd_e (c_amountK hT 60 x y), if_neg (fun w => e41 ((nI_le0 (by omega)).mp w)), bnd_e (ov_n hT e3), if_pos rfl, if_neg ne, if_pos (c4.trans e42)]
  · refine ActX.no (-1002) (by decide) (fun g m u hT => ?_)
    unfold m_X6_addSlice
    rw [bnd_e (ab_n e1), if_pos rfl]
theorem k_attach (hT : TB g 0 N n c m u) {x y : Int32} (e1 : AB x y) (e2 : ¬ Tk N c x y) (e3 : cn (RB N 61 x y) n = cn (RP N 61) n) (e4 : cn (RB N 60 x y) n = 0) : (Fl N c → m_X6_attach g x y = some (-1003, g)) ∧ (¬ Fl N c → m_X1_record g 0 = some g1 → TB g1 0 N n c m u → ∃ g' m' u', m_X6_attach g x y = some (nI c, g') ∧ g'.2 = g1.2 ∧ (∀ x, x < 20 ∨ 35 ≤ x → g'.1 x = g1.1 x) ∧ TB g' 0 (ctN N n c x y 61 0 1000) n (c + 1) m' u') := by
  have ne : ¬ (1 : Int32) = 0 := by decide
  have hn := hT.n4
  have h1 := cn_le (RP N 61) n
  have hpre : m_X6_attach g x y = bnd (m_X4_isFull g 0) fun (r67 : Int32) => if r67 = 0 then bnd (m_X1_record g 0) fun (g85 : MG) => bnd2 (m_X4_append g85 0 x y) fun (r97 : Int32) (g97 : MG) => bnd (m_X3_moveAll g97 0 (61 : Int32) r97) fun (g111 : MG) => some (r97, g111) else some ((-1003 : Int32), g) := by
    unfold m_X6_attach
    rw [bnd_e (ab_y e1), if_neg ne, bnd_e (ov_n hT e2), if_pos rfl, bnd_e (c_unfitRows hT x y), e3, pk_sub (Nat.le_refl _), Nat.sub_self, if_neg (show ¬ (0 : Int32) < nI 0 by decide), bnd_e (c_amountK hT 60 x y), e4, if_pos (show nI 0 ≤ (0 : Int32) by decide)]
  constructor
  · intro hf
    rw [hpre, bnd_e (fl_y hT hf), if_neg ne]
  · intro hf hr hT1
    obtain ⟨G, G2, m', u', a1, a2, a3, a4, a5⟩ := cut_ok hT1 hf e1 e2 61 0 1000
    refine ⟨G2, m', u', ?_, a3, a4, a5⟩
    rw [hpre, bnd_e (fl_n hT hf).1, if_pos rfl, bnd_e hr, bnd2_e a1, moveAll_eq, bnd_e a2]
theorem e_attach (hk : OkN N n c) (hG : Gd N n c) (x y : Int32) : ActX (fun g => m_X6_attach g x y) N n c := by
  obtain ⟨hD, hP30⟩ := hG
  have ne : ¬ (1 : Int32) = 0 := by decide
  have hn := hk.1.2.1
  have h1 := cn_le (RP N 61) n
  have hcn := cn_le (RB N 60 x y) n
  have h2 : cn (RB N 61 x y) n ≤ cn (RP N 61) n := rb_rp
  by_cases e1 : AB x y
  · by_cases e2 : Tk N c x y
    · refine ActX.no (-1004) (by decide) (fun g m u hT => ?_)
      unfold m_X6_attach
      rw [bnd_e (ab_y e1), if_neg ne, bnd_e (ov_y hT e2), if_neg ne]
    · by_cases e3 : cn (RB N 61 x y) n = cn (RP N 61) n
      · by_cases e4 : cn (RB N 60 x y) n = 0
        · by_cases e5 : Fl N c
          · refine ActX.no (-1003) (by decide) (fun g m u hT => ?_)
            exact (k_attach (g1 := g) hT e1 e2 e3 e4).1 e5
          · have hc : c < 60 := by
              unfold Fl at e5
              have := hk.1.2.2.2
              omega
            refine ActX.yes (nI c) (ctN N n c x y 61 0 1000) n (c + 1) (nI_pos (by omega)) ⟨dfo_ct hk hD hc (fun i hi hp hb hin => ?_), p30_ct hk hP30 hc (hP30 61 (by omega))⟩ (fun g m u g1 hT h1 hT1 => ?_)
            · have := cn_pos hi (rb_iff.mpr ⟨hp, hin⟩)
              omega
            · exact (k_attach hT e1 e2 e3 e4).2 e5 h1 hT1
        · refine ActX.no (-1004) (by decide) (fun g m u hT => ?_)
          unfold m_X6_attach
          rw [bnd_e (ab_y e1), if_neg ne, bnd_e (ov_n hT e2), if_pos rfl, bnd_e (c_unfitRows hT x y), e3, pk_sub (Nat.le_refl _), Nat.sub_self, if_neg (show ¬ (0 : Int32) < nI 0 by decide), bnd_e (c_amountK hT 60 x y), if_neg (fun w => e4 ((nI_le0 (by omega)).mp w))]
      · refine ActX.no (-1004) (by decide) (fun g m u hT => ?_)
        unfold m_X6_attach
        rw [bnd_e (ab_y e1), if_neg ne, bnd_e (ov_n hT e2), if_pos rfl, bnd_e (c_unfitRows hT x y), pk_sub h2, show (0 : Int32) = nI 0 from rfl, if_pos (nI_lt (by omega) (by omega))]
  · refine ActX.no (-1002) (by decide) (fun g m u hT => ?_)
    unfold m_X6_attach
    rw [bnd_e (ab_n e1), if_pos rfl]
/-- a slice goes, its rows go elsewhere -/
def drN (N : Nat → Int32) (n q : Nat) (t : Int32) : Nat → Int32 := w1 (mvN N n (nI q) t 0 1000) (1205 + q) 0
theorem dr_pl {q : Nat} (hn : n ≤ 400) {t : Int32} {i : Nat} (hk : OkN N n c) (hi : i < n) : drN N n q t (805 + i) = if N (805 + i) = nI q then t else N (805 + i) := by
  unfold drN
  rw [w1_ne (by omega), mvN_in hi]
  have hkey := (hk.2.2.1 i hi).1
  by_cases e : N (805 + i) = nI q
  · rw [if_pos e, if_pos ((rb_iff (lo := 0) (hh := 1000)).mpr ⟨e, hkey.1, hkey.2⟩)]
  · rw [if_neg e, if_neg (fun w => e (rb_iff.mp w).1)]
theorem dr_o {q : Nat} (hn : n ≤ 400) {t : Int32} {j : Nat} (h : j < 805 ∨ 1205 ≤ j) (h2 : j ≠ 1205 + q) : drN N n q t j = N j := by
  unfold drN
  rw [w1_ne h2, mvN_out (by omega)]
theorem dr_q {q : Nat} {t : Int32} : drN N n q t (1205 + q) = 0 := w1_eq
theorem drop_ok (hT : TB g 0 N n c m u) {j : Nat} (hj : j < m) {t : Int32} (ht : t = -1 ∨ t = 61) (hst : t ≠ 61 ∨ cn (RP N 61) n + cn (RP N (nI (u j))) n ≤ 20) : ∃ G G2 m' u', m_X3_moveAll g 0 (nI (u j)) t = some G ∧ m_X4_remove G 0 (nI (u j)) = some G2 ∧ G2.2 = g.2 ∧ (∀ x, x < 20 ∨ 35 ≤ x → G2.1 x = g.1 x) ∧ TB G2 0 (drN N n (u j) t) n c m' u' := by
  have hu := u_60 hT hj
  obtain ⟨G, b1, b2, b3, b4⟩ := tb_move hT (nI (u j)) t 0 1000 (by
    rcases ht with w | w
    · exact Or.inl w
    · exact Or.inr (Or.inr (Or.inl w))) (by rw [rb_all hT.1]; exact hst)
  have hne : ¬ t = nI (u j) := fun e => by
    rcases ht with rfl | rfl
    · exact hu.2.2.1 e.symm
    · exact hu.2.1 e.symm
  obtain ⟨G2, u', d1, d2, d3, d4⟩ := tb_remove b4 hj (no_rows hT.1 hne (fun i hi => mvN_in hi))
  exact ⟨G, G2, m - 1, u', by rw [moveAll_eq]; exact b1, d1, d2.trans b2, fun x hx => (d3 x hx).trans (b3 x (by omega)), d4⟩
theorem dfo_dr (hk : OkN N n c) (hD : DfO N n c) {q : Nat} (hqc0 : q < c) {t : Int32} (ht : t = -1 ∨ t = 61) : DfO (drN N n q t) n c := by
  have hn := hk.1.2.1
  have hc := hk.1.2.2.2
  refine dfo_cg hD hc hc (dr_o hn (by omega) (by omega)) (fun i hi hp => Or.inl ?_)
  rw [dr_pl hn hk hi] at hp
  by_cases e : N (805 + i) = nI q
  · rw [if_pos e] at hp
    rcases ht with rfl | rfl
    · exact absurd hp (by decide)
    · exact absurd hp (by decide)
  · rw [if_neg e] at hp
    refine ⟨hi, hp, dr_o hn (by omega) (by omega), fun q' hq => ⟨q', ?_⟩⟩
    have hqc := hq.1
    obtain ⟨x0, x1, x2, x3⟩ := hq
    have hne : q' ≠ q := fun e => by
      rw [e, dr_q] at x1
      exact absurd x1 (by decide)
    rw [dr_o hn (by omega) (by omega)] at x1 x2 x3
    exact ⟨x0, x1, x2, x3⟩
theorem p30_dr (hk : OkN N n c) (h : P30 N n) {q : Nat} {t : Int32} (ht : t = -1 ∨ (t = 61 ∧ cn (RP N 61) n + cn (RP N (nI q)) n ≤ 30)) : P30 (drN N n q t) n := fun z hz => by
  have hn := hk.1.2.1
  have key : ∀ i, i < n → RP (drN N n q t) (nI z) i = true → RP N (nI z) i = true ∨ (t = nI z ∧ RP N (nI q) i = true) := fun i hi hp => by
    have e := rp_iff.mp hp
    rw [dr_pl hn hk hi] at e
    by_cases e2 : N (805 + i) = nI q
    · rw [if_pos e2] at e
      exact Or.inr ⟨e, rp_iff.mpr e2⟩
    · rw [if_neg e2] at e
      exact Or.inl (rp_iff.mpr e)
  by_cases et : t = nI z
  · rcases ht with w | ⟨w, w2⟩
    · exact absurd (et.symm.trans w) (nI_ne_m (by omega) (by decide))
    · refine Nat.le_trans (cn_split (a := RP N (nI z)) (b := RP N (nI q)) (fun i hi hp => (key i hi hp).imp id (fun w => w.2))) ?_
      rw [← et, w]
      exact w2
  · exact Nat.le_trans (cn_mono (fun i hi hp => (key i hi hp).elim id (fun w => absurd w.1 et))) (h z hz)
/-- a number is that of a slice that is there -/
theorem sl_N (N : Nat → Int32) (c : Nat) (x : Int32) : (∃ q, q < c ∧ N (1205 + q) = 1 ∧ x = nI q) ∨ (∀ q, q < c → N (1205 + q) = 1 → x ≠ nI q) := by
  by_cases h : ∃ q, q < c ∧ N (1205 + q) = 1 ∧ x = nI q
  · exact Or.inl h
  · exact Or.inr (fun q h1 h2 e => h ⟨q, h1, h2, e⟩)
theorem e_dropSlice (hk : OkN N n c) (hG : Gd N n c) (x : Int32) : ActX (fun g => m_X6_dropSlice g x) N n c := by
  obtain ⟨hD, hP30⟩ := hG
  have ne : ¬ (1 : Int32) = 0 := by decide
  have hn := hk.1.2.1
  rcases sl_N N c x with ⟨q, hq, hal, rfl⟩ | ho
  · have hcn := cn_le (RP N (nI q)) n
    refine ActX.yes (nI (cn (RP N (nI q)) n)) (drN N n q (-1)) n c (nI_pos (by omega)) ⟨dfo_dr hk hD hq (Or.inl rfl), p30_dr hk hP30 (Or.inl rfl)⟩ (fun g m u g1 hT h1 hT1 => ?_)
    obtain ⟨j, hj, rfl⟩ := hT.2.1.2.2.1 q hq hal
    obtain ⟨G, G2, m', u', a1, a2, a3, a4, a5⟩ := drop_ok hT1 hj (t := -1) (Or.inl rfl) (Or.inl (by decide))
    refine ⟨G2, m', u', ?_, a3, a4, a5⟩
    unfold m_X6_dropSlice
    rw [bnd_e (c_hasS hT hj), if_neg ne, bnd_e (c_amount hT _), bnd_e h1, bnd_e a1, bnd_e a2]
  · refine ActX.no (-1001) (by decide) (fun g m u hT => ?_)
    unfold m_X6_dropSlice
    rw [bnd_e (c_hasS_no hT ho), if_pos rfl]
theorem k_detach (hT : TB g 0 N n c m u) {j : Nat} (hj : j < m) (e1 : cn (RP N 61) n = 0) (e2 : cn (RP N (nI (u j))) n ≤ 20) (h1 : m_X1_record g 0 = some g1) (hT1 : TB g1 0 N n c m u) : ∃ g' m' u', m_X6_detach g (nI (u j)) = some (nI (cn (RP N (nI (u j))) n), g') ∧ g'.2 = g1.2 ∧ (∀ x, x < 20 ∨ 35 ≤ x → g'.1 x = g1.1 x) ∧ TB g' 0 (drN N n (u j) 61) n c m' u' := by
  have ne : ¬ (1 : Int32) = 0 := by decide
  have hn := hT.n4
  have hcn := cn_le (RP N (nI (u j))) n
  obtain ⟨G, G2, m', u', a1, a2, a3, a4, a5⟩ := drop_ok hT1 hj (t := 61) (Or.inr rfl) (Or.inr (by omega))
  refine ⟨G2, m', u', ?_, a3, a4, a5⟩
  unfold m_X6_detach
  rw [bnd_e (c_hasS hT hj), if_neg ne, bnd_e (c_amount hT 61), e1, if_pos (show nI 0 ≤ (0 : Int32) by decide), bnd_e (c_amount hT _), if_pos ((l20 (by omega)).mpr e2), bnd_e h1, bnd_e a1, bnd_e a2]
theorem e_detach (hk : OkN N n c) (hG : Gd N n c) (x : Int32) : ActX (fun g => m_X6_detach g x) N n c := by
  obtain ⟨hD, hP30⟩ := hG
  have ne : ¬ (1 : Int32) = 0 := by decide
  have hn := hk.1.2.1
  have h1 := cn_le (RP N 61) n
  rcases sl_N N c x with ⟨q, hq, hal, rfl⟩ | ho
  · have hcn := cn_le (RP N (nI q)) n
    by_cases e1 : cn (RP N 61) n = 0
    · by_cases e2 : cn (RP N (nI q)) n ≤ 20
      · refine ActX.yes (nI (cn (RP N (nI q)) n)) (drN N n q 61) n c (nI_pos (by omega)) ⟨dfo_dr hk hD hq (Or.inr rfl), p30_dr hk hP30 (Or.inr ⟨rfl, by omega⟩)⟩ (fun g m u g1 hT h1 hT1 => ?_)
        obtain ⟨j, hj, rfl⟩ := hT.2.1.2.2.1 q hq hal
        exact k_detach hT hj e1 e2 h1 hT1
      · refine ActX.no (-1003) (by decide) (fun g m u hT => ?_)
        obtain ⟨j, hj, rfl⟩ := hT.2.1.2.2.1 q hq hal
        unfold m_X6_detach
        rw [bnd_e (c_hasS hT hj), if_neg ne, bnd_e (c_amount hT 61), e1, if_pos (show nI 0 ≤ (0 : Int32) by decide), bnd_e (c_amount hT _), if_neg (fun w => e2 ((l20 (by omega)).mp w))]
    · refine ActX.no (-1004) (by decide) (fun g m u hT => ?_)
      obtain ⟨j, hj, rfl⟩ := hT.2.1.2.2.1 q hq hal
      unfold m_X6_detach
      rw [bnd_e (c_hasS hT hj), if_neg ne, bnd_e (c_amount hT 61), if_neg (fun w => e1 ((nI_le0 (by omega)).mp w))]
  · refine ActX.no (-1001) (by decide) (fun g m u hT => ?_)
    unfold m_X6_detach
    rw [bnd_e (c_hasS_no hT ho), if_pos rfl]
/-- a slice is split -/
def spN (N : Nat → Int32) (n c q : Nat) (y : Int32) : Nat → Int32 := ctN (w1 N (1325 + q) y) n c y (N (1325 + q)) (nI q) y (N (1325 + q))
theorem k_split (hT : TB g 0 N n c m u) {j : Nat} (hj : j < m) {y : Int32} (hy : (N (1265 + u j)).toInt < y.toInt ∧ y.toInt < (N (1325 + u j)).toInt) : (Fl N c → m_X6_split g (nI (u j)) y = some (-1003, g)) ∧ (¬ Fl N c → m_X1_record g 0 = some g1 → TB g1 0 N n c m u → ∃ g' m' u', m_X6_split g (nI (u j)) y = some (nI c, g') ∧ g'.2 = g1.2 ∧ (∀ x, x < 20 ∨ 35 ≤ x → g'.1 x = g1.1 x) ∧ TB g' 0 (spN N n c (u j) y) n (c + 1) m' u') := by
  have ne : ¬ (1 : Int32) = 0 := by decide
  have hm12 := hT.m12
  have hb := u_b hT.1 hT.2.1 hj
  have hpre : m_X6_split g (nI (u j)) y = bnd (m_X4_isFull g 0) fun (r72 : Int32) => if r72 = 0 then bnd (m_X1_record g 0) fun (g90 : MG) => bnd (m_X4_changeBounds g90 0 (nI j) (N (1265 + u j)) y) fun (g104 : MG) => bnd2 (m_X4_append g104 0 y (N (1325 + u j))) fun (r117 : Int32) (g117 : MG) => bnd (m_X3_moveKeys g117 0 (nI (u j)) r117 y (N (1325 + u j))) fun (g135 : MG) => some (r117, g135) else some ((-1003 : Int32), g) := by
    unfold m_X6_split
    rw [bnd_e (c_pos hT hj), if_neg (nI_ne_m (by omega) (by decide)), bnd_e (c_low hT hj), bnd_e (c_high hT hj), if_neg (fun w => by have := Int32.le_iff_toInt_le.mp w; omega), if_pos (Int32.lt_iff_toInt_lt.mpr hy.2)]
  constructor
  · intro hf
    rw [hpre, bnd_e (fl_y hT hf), if_neg ne]
  · intro hf h1 hT1
    obtain ⟨f1, f2, f3⟩ := fl_n hT hf
    have hinj := so_inj hT.1 hT.2.1
    have hso := hT.2.1.2.2.2
    have huj := (hT.2.1.2.1 j hj).1
    have hT2 : TB (g_w (g_w g1 (32 + 15 * 0) j (N (1265 + u j))) (34 + 15 * 0) j y) 0 (w1 N (1325 + u j) y) n c m u := both_bounds hT1 hj (lo := N (1265 + u j)) (hi := y) ⟨hb.1, hy.1, by omega⟩ (fun i hi => hso i j hi hj) (fun i hi hi2 => by
      have := hso j i hi hi2
      omega) (fun i hi1 hi2 => w1_ne hi2) (w1_ne (by omega)) w1_eq
    have hnoT : ¬ Tk (w1 N (1325 + u j) y) c y (N (1325 + u j)) := by
      rintro ⟨q, hq, hq1, hq2, hq3⟩
      rw [w1_ne (by omega)] at hq1 hq2
      obtain ⟨i, hi, rfl⟩ := hT.2.1.2.2.1 q hq hq1
      by_cases e : i = j
      · subst e
        rw [w1_eq] at hq3
        omega
      · rw [w1_ne (fun w => e (hinj i j hi hj (by omega)))] at hq3
        rcases Nat.lt_or_ge i j with w | w
        · have := hso i j w hj
          omega
        · have := hso j i (by omega) hi
          omega
    have hf2 : ¬ Fl (w1 N (1325 + u j) y) c := by
      have e1 := (al_bij hT2.1 hT2.2.1 (fun _ => 0)).1
      have e2 := (al_bij hT.1 hT.2.1 (fun _ => 0)).1
      unfold Fl at hf ⊢
      rw [e1, ← e2]
      exact hf
    obtain ⟨G, G2, m', u', a1, a2, a3, a4, a5⟩ := cut_ok hT2 hf2 (a := y) (b := N (1325 + u j)) ⟨by omega, hy.2, hb.2.2⟩ hnoT (nI (u j)) y (N (1325 + u j))
    refine ⟨G2, m', u', ?_, a3, fun x hx => (a4 x hx).trans (by rw [gw_ne (by omega), gw_ne (by omega)]), a5⟩
    rw [hpre, bnd_e f1, if_pos rfl, bnd_e h1, bnd_e (w_bounds (t := 0) (by omega) _ _), bnd2_e a1, bnd_e a2]
theorem sp_pl (hn : n ≤ 400) (hc : c < 60) {q : Nat} {y : Int32} {i : Nat} (hi : i < n) : spN N n c q y (805 + i) = if RB N (nI q) y (N (1325 + q)) i = true then nI c else N (805 + i) := by
  unfold spN
  rw [ct_pl hn hc hi, w1_ne (by omega)]
  unfold RB
  rw [w1_ne (by omega), w1_ne (by omega)]
theorem sp_o (hn : n ≤ 400) {q : Nat} {y : Int32} {j : Nat} (h1 : j < 805 ∨ 1205 ≤ j) (h0 : j ≠ 1) (h2 : j ≠ 1205 + c) (h3 : j ≠ 1265 + c) (h4 : j ≠ 1325 + c) (h5 : j ≠ 1325 + q) : spN N n c q y j = N j := by
  unfold spN
  rw [ct_o hn h1 h0 h2 h3 h4, w1_ne h5]
theorem sp_a (hn : n ≤ 400) (hc : c < 60) {q : Nat} (hq : q < c) {y : Int32} : spN N n c q y (1205 + c) = 1 ∧ spN N n c q y (1265 + c) = y ∧ spN N n c q y (1325 + c) = N (1325 + q) ∧ spN N n c q y (1325 + q) = y := by
  obtain ⟨h1, h2, h3⟩ := ct_a (N := w1 N (1325 + q) y) (a := y) (b := N (1325 + q)) (p := nI q) (lo := y) (hi := N (1325 + q)) hn hc
  refine ⟨h1, h2, h3, ?_⟩
  unfold spN
  rw [ct_o hn (by omega) (by omega) (by omega) (by omega) (by omega), w1_eq]
theorem dfo_sp (hk : OkN N n c) (hD : DfO N n c) (hc : c < 60) {q : Nat} (hq : q < c) (hal : N (1205 + q) = 1) {y : Int32} (hy : (N (1265 + q)).toInt < y.toInt ∧ y.toInt < (N (1325 + q)).toInt) : DfO (spN N n c q y) n (c + 1) := by
  have hn := hk.1.2.1
  obtain ⟨c1, c2, c3, c4⟩ := sp_a (N := N) hn hc hq (y := y)
  refine dfo_cg hD (by omega) (by omega) (sp_o hn (by omega) (by omega) (by omega) (by omega) (by omega) (by omega)) (fun i hi hp => Or.inl ?_)
  rw [sp_pl hn hc hi] at hp
  cases hb : RB N (nI q) y (N (1325 + q)) i with
  | true =>
    rw [hb, if_pos rfl] at hp
    exact absurd hp (ni_61 hc).2.1
  | false =>
    rw [hb, if_neg Bool.false_ne_true] at hp
    refine ⟨hi, hp, sp_o hn (by omega) (by omega) (by omega) (by omega) (by omega) (by omega), fun q' hq' => ?_⟩
    have hqc := hq'.1
    obtain ⟨-, x0, x1, x2⟩ := hq'
    by_cases e : q' = c
    · subst e
      rw [c2] at x1
      rw [c3] at x2
      exact ⟨q, hq, hal, by omega, x2⟩
    · rw [sp_o hn (by omega) (by omega) (by omega) (by omega) (by omega) (by omega)] at x0 x1
      by_cases e2 : q' = q
      · subst e2
        rw [c4] at x2
        exact ⟨q', hq, hal, x1, by omega⟩
      · rw [sp_o hn (by omega) (by omega) (by omega) (by omega) (by omega) (by omega)] at x2
        exact ⟨q', by omega, x0, x1, x2⟩
theorem e_split (hk : OkN N n c) (hG : Gd N n c) (x y : Int32) : ActX (fun g => m_X6_split g x y) N n c := by
  obtain ⟨hD, hP30⟩ := hG
  have ne : ¬ (1 : Int32) = 0 := by decide
  have hn := hk.1.2.1
  rcases sl_N N c x with ⟨q, hq, hal, rfl⟩ | ho
  · by_cases e1 : (N (1265 + q)).toInt < y.toInt ∧ y.toInt < (N (1325 + q)).toInt
    · by_cases e2 : Fl N c
      · refine ActX.no (-1003) (by decide) (fun g m u hT => ?_)
        obtain ⟨j, hj, rfl⟩ := hT.2.1.2.2.1 q hq hal
        exact (k_split (g1 := g) hT hj e1).1 e2
      · have hc : c < 60 := by
          unfold Fl at e2
          have := hk.1.2.2.2
          omega
        refine ActX.yes (nI c) (spN N n c q y) n (c + 1) (nI_pos (by omega)) ⟨dfo_sp hk hD hc hq hal e1, p30_new hk hP30 hc (b := RB N (nI q) y (N (1325 + q))) (fun i hi' hb => (rb_iff.mp hb).1) (hP30 q (by omega)) (fun i hi' => sp_pl hk.1.2.1 hc hi')⟩ (fun g m u g1 hT h1 hT1 => ?_)
        obtain ⟨j, hj, rfl⟩ := hT.2.1.2.2.1 q hq hal
        exact (k_split hT hj e1).2 e2 h1 hT1
    · refine ActX.no (-1002) (by decide) (fun g m u hT => ?_)
      obtain ⟨j, hj, rfl⟩ := hT.2.1.2.2.1 q hq hal
      have hm12 := hT.m12
      unfold m_X6_split
      rw [bnd_e (c_pos hT hj), if_neg (nI_ne_m (by omega) (by decide)), bnd_e (c_low hT hj), bnd_e (c_high hT hj)]
      by_cases e2 : y ≤ N (1265 + u j)
      · rw [if_pos e2]
      · have e2' := Int32.lt_iff_toInt_lt.mp (Int32.not_le.mp e2)
        rw [if_neg e2, if_neg (fun w => e1 ⟨e2', Int32.lt_iff_toInt_lt.mp w⟩)]
  · refine ActX.no (-1001) (by decide) (fun g m u hT => ?_)
    unfold m_X6_split
    rw [bnd_e (c_pos_no hT ho), if_pos rfl]
end
