/-! merge, swap, mend -/
section
variable {g g' g1 G : MG} {N N' : Nat → Int32} {n c m n' c' m' : Nat} {u u' : Nat → Nat}
def mgN (N : Nat → Int32) (n p r : Nat) (lo hi : Int32) : Nat → Int32 := w1 (w1 (w1 (mvN N n (nI p) (nI r) 0 1000) (1265 + r) lo) (1325 + r) hi) (1205 + p) 0
theorem mg_pl (hk : OkN N n c) {p r : Nat} {lo hi : Int32} {i : Nat} (hi' : i < n) : mgN N n p r lo hi (805 + i) = if N (805 + i) = nI p then nI r else N (805 + i) := by
  have hn := hk.1.2.1
  have hkey := (hk.2.2.1 i hi').1
  unfold mgN
  rw [w1_ne (by omega), w1_ne (by omega), w1_ne (by omega), mvN_in hi']
  by_cases e : N (805 + i) = nI p
  · rw [if_pos e, if_pos ((rb_iff (lo := 0) (hh := 1000)).mpr ⟨e, hkey.1, hkey.2⟩)]
  · rw [if_neg e, if_neg (fun w => e (rb_iff.mp w).1)]
theorem mg_o (hn : n ≤ 400) {p r : Nat} {lo hi : Int32} {j : Nat} (h : j < 805 ∨ 1205 ≤ j) (h1 : j ≠ 1205 + p) (h2 : j ≠ 1265 + r) (h3 : j ≠ 1325 + r) : mgN N n p r lo hi j = N j := by
  unfold mgN
  rw [w1_ne h1, w1_ne h3, w1_ne h2, mvN_out (by omega)]
theorem mg_a {p r : Nat} (hp : p < 60) (hr : r < 60) {lo hi : Int32} : mgN N n p r lo hi (1205 + p) = 0 ∧ mgN N n p r lo hi (1265 + r) = lo ∧ mgN N n p r lo hi (1325 + r) = hi := by
  unfold mgN
  refine ⟨w1_eq, ?_, ?_⟩
  · rw [w1_ne (by omega), w1_ne (by omega), w1_eq]
  · rw [w1_ne (by omega), w1_eq]
theorem mg_ok (hT : TB g 0 N n c m u) {p r : Nat} (hp : p < m) (hr : r < m) (hne : p ≠ r) {lo hi : Int32} (hb : AB lo hi) (hlo : ∀ j, j < r → j ≠ p → (N (1325 + u j)).toInt ≤ lo.toInt) (hhi : ∀ j, r < j → j < m → j ≠ p → hi.toInt ≤ (N (1265 + u j)).toInt) (e1 : (if N (1265 + u r) < N (1265 + u p) then N (1265 + u r) else N (1265 + u p)) = lo) (e2 : (if N (1325 + u p) < N (1325 + u r) then N (1325 + u r) else N (1325 + u p)) = hi) : ∃ G2 G m' u', m_X3_moveAll g 0 (nI (u p)) (nI (u r)) = some G2 ∧ m_X4_unite G2 0 (nI p) (nI r) = some G ∧ G.2 = g.2 ∧ (∀ x, x < 20 ∨ 35 ≤ x → G.1 x = g.1 x) ∧ TB G 0 (mgN N n (u p) (u r) lo hi) n c m' u' := by
  have hn := hT.n4
  have hm12 := hT.m12
  have hinj := so_inj hT.1 hT.2.1
  have hur := u_60 hT hr
  have hup' := u_60 hT hp
  have hal := hT.2.1.2.1 r hr
  obtain ⟨G2, b1, b2, b3, b4⟩ := tb_move hT (nI (u p)) (nI (u r)) 0 1000 (Or.inr (Or.inr (Or.inr ⟨u r, hal.1, rfl, hal.2⟩))) (Or.inl hur.2.1)
  have hnr := no_rows hT.1 (show ¬ nI (u r) = nI (u p) from fun e => hne (hinj p r hp hr ((nI_eq (by omega) (by omega)).mp e).symm)) (fun i hi => mvN_in hi)
  have hs : ∀ i, 1205 ≤ i → mvN N n (nI (u p)) (nI (u r)) 0 1000 i = N i := fun i hi => mvN_out (by omega)
  have hup : u p ≠ u r := fun e => hne (hinj p r hp hr e)
  obtain ⟨z1, z2, z3⟩ := mg_a (N := N) (n := n) (lo := lo) (hi := hi) hup'.2.2.2 hur.2.2.2
  obtain ⟨G, d1, d2, d3, d4⟩ := both_unite (N' := mgN N n (u p) (u r) lo hi) b4 hp hr hne hnr (lo := lo) (hi := hi) hb (fun j hj hjp => by rw [hs _ (by omega)]; exact hlo j hj hjp) (fun j hj hjm hjp => by rw [hs _ (by omega)]; exact hhi j hj hjm hjp) (fun j h1 h2 h3 => by
    unfold mgN
    rw [w1_ne h1, w1_ne h3, w1_ne h2]) z1 z2 z3
  refine ⟨G2, G, _, _, by rw [moveAll_eq]; exact b1, ?_, d2.trans b2, fun x hx => (d3 x hx).trans (b3 x (by omega)), d4⟩
  unfold m_X4_unite
  rw [bnd_e (c_low b4 hp), bnd_e (c_low b4 hr), bnd_e (c_high b4 hp), bnd_e (c_high b4 hr), hs _ (by omega), hs _ (by omega), hs _ (by omega), hs _ (by omega), e1, e2, bnd_e (w_bounds (t := 0) (by omega) lo hi)]
  have hnum : m_X4_numberAt (g_w (g_w G2 (32 + 15 * 0) r lo) (34 + 15 * 0) r hi) 0 (nI p) = some (nI (u p)) := by
    rw [w_num (t := 0) (by omega), gw_ne (by omega), gw_ne (by omega), (b4.2.2.2.2 p hp).1]
  rw [bnd_e hnum, bnd_e d1]
def Bes (N : Nat → Int32) (p r : Nat) : Prop := N (1325 + p) = N (1265 + r) ∨ N (1325 + r) = N (1265 + p)
theorem bes_e (hT : TB g 0 N n c m u) {p r : Nat} (hp : p < m) (hr : r < m) : (Bes N (u p) (u r) → m_X4_areBeside g 0 (nI p) (nI r) = some 1) ∧ (¬ Bes N (u p) (u r) → m_X4_areBeside g 0 (nI p) (nI r) = some 0) := by
  unfold Bes m_X4_areBeside
  rw [bnd_e (c_high hT hp), bnd_e (c_low hT hr)]
  by_cases w1 : N (1325 + u p) = N (1265 + u r)
  · rw [if_pos w1]
    exact ⟨fun _ => rfl, fun h => absurd (Or.inl w1) h⟩
  · rw [if_neg w1, bnd_e (c_high hT hr), bnd_e (c_low hT hp)]
    by_cases w2 : N (1325 + u r) = N (1265 + u p)
    · rw [if_pos w2]
      exact ⟨fun _ => rfl, fun h => absurd (Or.inr w2) h⟩
    · rw [if_neg w2]
      refine ⟨fun h => ?_, fun _ => rfl⟩
      rcases h with w | w
      · exact absurd w w1
      · exact absurd w w2
/-- the bounds of both together -/
def mLo (N : Nat → Int32) (p r : Nat) : Int32 := if N (1265 + r) < N (1265 + p) then N (1265 + r) else N (1265 + p)
def mHi (N : Nat → Int32) (p r : Nat) : Int32 := if N (1325 + p) < N (1325 + r) then N (1325 + r) else N (1325 + p)
theorem bes_b (hT : TB g 0 N n c m u) {p r : Nat} (hp : p < m) (hr : r < m) (hb : Bes N (u p) (u r)) : p ≠ r ∧ AB (mLo N (u p) (u r)) (mHi N (u p) (u r)) ∧ (∀ j, j < r → j ≠ p → (N (1325 + u j)).toInt ≤ (mLo N (u p) (u r)).toInt) ∧ (∀ j, r < j → j < m → j ≠ p → (mHi N (u p) (u r)).toInt ≤ (N (1265 + u j)).toInt) ∧ ((N (1325 + u p) = N (1265 + u r) ∧ mLo N (u p) (u r) = N (1265 + u p) ∧ mHi N (u p) (u r) = N (1325 + u r)) ∨ (N (1325 + u r) = N (1265 + u p) ∧ mLo N (u p) (u r) = N (1265 + u r) ∧ mHi N (u p) (u r) = N (1325 + u p))) := by
  have hbp := u_b hT.1 hT.2.1 hp
  have hbr := u_b hT.1 hT.2.1 hr
  have hso := hT.2.1.2.2.2
  rcases hb with w1 | w2
  · have hrp := beside hT.1 hT.2.1 hp hr w1
    have w1' : (N (1325 + u p)).toInt = (N (1265 + u r)).toInt := congrArg Int32.toInt w1
    have e1 : mLo N (u p) (u r) = N (1265 + u p) := by unfold mLo; rw [if_neg]; exact fun w => by have := Int32.lt_iff_toInt_lt.mp w; omega
    have e2 : mHi N (u p) (u r) = N (1325 + u r) := by unfold mHi; rw [if_pos]; exact Int32.lt_iff_toInt_lt.mpr (by omega)
    rw [e1, e2]
    exact ⟨by omega, ⟨hbp.1, by omega, hbr.2.2⟩, fun j hj hjp => hso j p (by omega) hp, fun j hj hjm hjp => hso r j hj hjm, Or.inl ⟨w1, rfl, rfl⟩⟩
  · have hrp := beside hT.1 hT.2.1 hr hp w2
    have w2' : (N (1325 + u r)).toInt = (N (1265 + u p)).toInt := congrArg Int32.toInt w2
    have e1 : mLo N (u p) (u r) = N (1265 + u r) := by unfold mLo; rw [if_pos]; exact Int32.lt_iff_toInt_lt.mpr (by omega)
    have e2 : mHi N (u p) (u r) = N (1325 + u p) := by unfold mHi; rw [if_neg]; exact fun w => by have := Int32.lt_iff_toInt_lt.mp w; omega
    rw [e1, e2]
    exact ⟨by omega, ⟨hbr.1, by omega, hbp.2.2⟩, fun j hj hjp => hso j r hj hr, fun j hj hjm hjp => hso p j (by omega) hjm, Or.inr ⟨w2, rfl, rfl⟩⟩
theorem k_merge (hT : TB g 0 N n c m u) {p r : Nat} (hp : p < m) (hr : r < m) (hb : Bes N (u p) (u r)) (h30 : cn (RP N (nI (u p))) n + cn (RP N (nI (u r))) n ≤ 30) (h1 : m_X1_record g 0 = some g1) (hT1 : TB g1 0 N n c m u) : ∃ g' m' u', m_X6_merge g (nI (u p)) (nI (u r)) = some (nI (cn (RP N (nI (u p))) n + cn (RP N (nI (u r))) n), g') ∧ g'.2 = g1.2 ∧ (∀ x, x < 20 ∨ 35 ≤ x → g'.1 x = g1.1 x) ∧ TB g' 0 (mgN N n (u p) (u r) (mLo N (u p) (u r)) (mHi N (u p) (u r))) n c m' u' := by
  have hm12 := hT.m12
  obtain ⟨z1, z2, z3, z4, -⟩ := bes_b hT hp hr hb
  obtain ⟨G2, G, m', u', a1, a2, a3, a4, a5⟩ := mg_ok hT1 hp hr z1 z2 z3 z4 rfl rfl
  refine ⟨G, m', u', ?_, a3, a4, a5⟩
  unfold m_X6_merge
  rw [bnd_e (c_pos hT hp), bnd_e (c_pos hT hr), if_neg (nI_ne_m (by omega) (by decide)), if_neg (nI_ne_m (by omega) (by decide)), bnd_e ((bes_e hT hp hr).1 hb), if_neg (by decide), bnd_e (c_amount hT _), bnd_e (c_amount hT _), nI_add, if_pos ((l30 (by omega)).mpr h30), bnd_e h1, bnd_e a1, bnd_e a2]
theorem dfo_mg (hT : TB g 0 N n c m u) (hD : DfO N n c) {p r : Nat} (hp : p < m) (hr : r < m) (hb : Bes N (u p) (u r)) : DfO (mgN N n (u p) (u r) (mLo N (u p) (u r)) (mHi N (u p) (u r))) n c := by
  have hk := hT.1
  have hn := hT.n4
  have hc := hT.c6
  have hup := u_60 hT hp
  have hur := u_60 hT hr
  obtain ⟨hap, hap2⟩ := hT.2.1.2.1 p hp
  obtain ⟨har, har2⟩ := hT.2.1.2.1 r hr
  obtain ⟨z1, z2, z3, z4, z5⟩ := bes_b hT hp hr hb
  have hinj := so_inj hT.1 hT.2.1
  have hpr : u p ≠ u r := fun e => z1 (hinj p r hp hr e)
  obtain ⟨c1, c2, c3⟩ := mg_a (N := N) (n := n) (lo := mLo N (u p) (u r)) (hi := mHi N (u p) (u r)) hup.2.2.2 hur.2.2.2
  refine dfo_cg hD hc hc (mg_o hn (by omega) (by omega) (by omega) (by omega)) (fun i hi hp' => Or.inl ?_)
  rw [mg_pl hk hi] at hp'
  by_cases e : N (805 + i) = nI (u p)
  · rw [if_pos e] at hp'
    exact absurd hp' hur.1
  · rw [if_neg e] at hp'
    refine ⟨hi, hp', mg_o hn (by omega) (by omega) (by omega) (by omega), fun q hq => ?_⟩
    obtain ⟨x0, x1, x2, x3⟩ := hq
    have hqp : q ≠ u p := fun e => by
      rw [e, c1] at x1
      exact absurd x1 (by decide)
    rw [mg_o hn (by omega) (by omega) (by omega) (by omega)] at x1
    by_cases e2 : q = u r
    · subst e2
      rw [c2] at x2
      rw [c3] at x3
      rcases z5 with ⟨w, w1, w2⟩ | ⟨w, w1, w2⟩
      · rw [w1] at x2
        rw [w2] at x3
        have w' : (N (1325 + u p)).toInt = (N (1265 + u r)).toInt := congrArg Int32.toInt w
        by_cases e3 : (N (5 + i)).toInt < (N (1325 + u p)).toInt
        · exact ⟨u p, hap, hap2, x2, e3⟩
        · exact ⟨u r, har, har2, by omega, x3⟩
      · rw [w1] at x2
        rw [w2] at x3
        have w' : (N (1325 + u r)).toInt = (N (1265 + u p)).toInt := congrArg Int32.toInt w
        by_cases e3 : (N (5 + i)).toInt < (N (1325 + u r)).toInt
        · exact ⟨u r, har, har2, x2, e3⟩
        · exact ⟨u p, hap, hap2, by omega, x3⟩
    · rw [mg_o hn (by omega) (by omega) (by omega) (by omega)] at x2 x3
      exact ⟨q, x0, x1, x2, x3⟩
theorem p30_mg (hk : OkN N n c) (h : P30 N n) {p r : Nat} {lo hi : Int32} (h30 : cn (RP N (nI p)) n + cn (RP N (nI r)) n ≤ 30) : P30 (mgN N n p r lo hi) n := fun z hz => by
  have key : ∀ i, i < n → RP (mgN N n p r lo hi) (nI z) i = true → RP N (nI z) i = true ∨ (nI r = nI z ∧ RP N (nI p) i = true) := fun i hi' hp => by
    have e := rp_iff.mp hp
    rw [mg_pl hk hi'] at e
    by_cases e2 : N (805 + i) = nI p
    · rw [if_pos e2] at e
      exact Or.inr ⟨e, rp_iff.mpr e2⟩
    · rw [if_neg e2] at e
      exact Or.inl (rp_iff.mpr e)
  by_cases et : nI r = nI z
  · refine Nat.le_trans (cn_split (a := RP N (nI z)) (b := RP N (nI p)) (fun i hi' hp => (key i hi' hp).imp id (fun w => w.2))) ?_
    rw [← et]
    omega
  · exact Nat.le_trans (cn_mono (fun i hi' hp => (key i hi' hp).elim id (fun w => absurd w.1 et))) (h z hz)
theorem e_merge (hT0 : TB g 0 N n c m u) (hG : Gd N n c) (x y : Int32) : ActX (fun g => m_X6_merge g x y) N n c := by
  obtain ⟨hD, hP30⟩ := hG
  have ne : ¬ (1 : Int32) = 0 := by decide
  have hk := hT0.1
  have hn := hk.1.2.1
  rcases sl_N N c x with ⟨p, hp, hal, rfl⟩ | ho
  · rcases sl_N N c y with ⟨r, hr, hal2, rfl⟩ | ho
    · have hcn1 := cn_le (RP N (nI p)) n
      have hcn2 := cn_le (RP N (nI r)) n
      by_cases e1 : Bes N p r
      · by_cases e2 : cn (RP N (nI p)) n + cn (RP N (nI r)) n ≤ 30
        · refine ActX.yes (nI (cn (RP N (nI p)) n + cn (RP N (nI r)) n)) (mgN N n p r (mLo N p r) (mHi N p r)) n c (nI_pos (by omega)) ?_ (fun g m u g1 hT h1 hT1 => ?_)
          · obtain ⟨j, hj, rfl⟩ := hT0.2.1.2.2.1 p hp hal
            obtain ⟨i, hi, rfl⟩ := hT0.2.1.2.2.1 r hr hal2
            exact ⟨dfo_mg hT0 hD hj hi e1, p30_mg hk hP30 e2⟩
          · obtain ⟨j, hj, rfl⟩ := hT.2.1.2.2.1 p hp hal
            obtain ⟨i, hi, rfl⟩ := hT.2.1.2.2.1 r hr hal2
            exact k_merge hT hj hi e1 e2 h1 hT1
        · refine ActX.no (-1003) (by decide) (fun g m u hT => ?_)
          obtain ⟨j, hj, rfl⟩ := hT.2.1.2.2.1 p hp hal
          obtain ⟨i, hi, rfl⟩ := hT.2.1.2.2.1 r hr hal2
          have hm12 := hT.m12
          unfold m_X6_merge
          rw [bnd_e (c_pos hT hj), bnd_e (c_pos hT hi), if_neg (nI_ne_m (by omega) (by decide)), if_neg (nI_ne_m (by omega) (by decide)), bnd_e ((bes_e hT hj hi).1 e1), if_neg ne, bnd_e (c_amount hT _), bnd_e (c_amount hT _), nI_add, if_neg (fun w => e2 ((l30 (by omega)).mp w))]
      · refine ActX.no (-1004) (by decide) (fun g m u hT => ?_)
        obtain ⟨j, hj, rfl⟩ := hT.2.1.2.2.1 p hp hal
        obtain ⟨i, hi, rfl⟩ := hT.2.1.2.2.1 r hr hal2
        have hm12 := hT.m12
        unfold m_X6_merge
        rw [bnd_e (c_pos hT hj), bnd_e (c_pos hT hi), if_neg (nI_ne_m (by omega) (by decide)), if_neg (nI_ne_m (by omega) (by decide)), bnd_e ((bes_e hT hj hi).2 e1), if_pos rfl]
    · refine ActX.no (-1001) (by decide) (fun g m u hT => ?_)
      obtain ⟨j, hj, rfl⟩ := hT.2.1.2.2.1 p hp hal
      have hm12 := hT.m12
      unfold m_X6_merge
      rw [bnd_e (c_pos hT hj), bnd_e (c_pos_no hT ho), if_neg (nI_ne_m (by omega) (by decide)), if_pos rfl]
  · refine ActX.no (-1001) (by decide) (fun g m u hT => ?_)
    obtain ⟨z, hz⟩ := pos_ex hT y
    unfold m_X6_merge
    rw [bnd_e (c_pos_no hT ho), bnd_e hz, if_pos rfl]
/-- swap -/
theorem xc_61 {N : Nat → Int32} {q : Nat} (hq : q < 60) {i : Nat} : xcF (nI q) (N (805 + i)) = 61 ↔ N (805 + i) = nI q := by
  have h := ni_61 hq
  unfold xcF
  by_cases e : N (805 + i) = nI q
  · rw [if_pos e]; exact ⟨fun _ => e, fun _ => rfl⟩
  · rw [if_neg e]
    by_cases e2 : N (805 + i) = 61
    · rw [if_pos e2]; exact ⟨fun w => absurd w h.1, fun w => absurd w e⟩
    · rw [if_neg e2]; exact ⟨fun w => absurd w e2, fun w => absurd w e⟩
theorem xc_q {N : Nat → Int32} {q : Nat} (hq : q < 60) {i : Nat} : xcF (nI q) (N (805 + i)) = nI q ↔ N (805 + i) = 61 := by
  have h := ni_61 hq
  unfold xcF
  by_cases e : N (805 + i) = nI q
  · rw [if_pos e]; exact ⟨fun w => absurd w.symm h.1, fun w => absurd (e.symm.trans w) h.1⟩
  · rw [if_neg e]
    by_cases e2 : N (805 + i) = 61
    · rw [if_pos e2]; exact ⟨fun _ => e2, fun _ => rfl⟩
    · rw [if_neg e2]; exact ⟨fun w => absurd w e, fun w => absurd w e2⟩
theorem xc_x {q : Nat} (hq : q < 60) (z : Int32) : xcF (nI q) (xcF (nI q) z) = z := by
  have h := ni_61 hq
  unfold xcF
  by_cases e : z = nI q
  · rw [if_pos e, if_neg (fun w => h.1 w.symm), if_pos rfl]; exact e.symm
  · rw [if_neg e]
    by_cases e2 : z = 61
    · rw [if_pos e2, if_pos rfl]; exact e2.symm
    · rw [if_neg e2, if_neg e, if_neg e2]
theorem xc_n61 {q : Nat} (hq : q < 60) : cn (RP (xcN N n (nI q)) 61) n = cn (RP N (nI q)) n ∧ cn (RP (xcN N n (nI q)) (nI q)) n = cn (RP N 61) n := by
  constructor
  · refine cn_congr (fun i hi => ?_)
    rw [Bool.eq_iff_iff, rp_iff, rp_iff, xcN_in hi]
    exact xc_61 hq
  · refine cn_congr (fun i hi => ?_)
    rw [Bool.eq_iff_iff, rp_iff, rp_iff, xcN_in hi]
    exact xc_q hq
theorem xc_ok (hT : TB g 0 N n c m u) {j : Nat} (hj : j < m) (h20 : cn (RP N (nI (u j))) n ≤ 20) : ∃ G, m_X3_exchange g 0 (nI (u j)) 61 = some G ∧ G.2 = g.2 ∧ (∀ x, x < 20 ∨ 35 ≤ x → G.1 x = g.1 x) ∧ TB G 0 (xcN N n (nI (u j))) n c m u := by
  have hu := u_60 hT hj
  have hal := hT.2.1.2.1 j hj
  obtain ⟨G, a1, a2, a3, a4⟩ := c_exchange hT (nI (u j))
  refine ⟨G, a1, a2, fun x hx => a3 x (by omega), mv_TB hT (fun k _ _ h3 => a3 k h3) (fun i hi => (a4 i hi).trans (xcN_in hi).symm) (fun i hi => xcN_out hi) (fun i hi => ?_) ?_⟩
  · rw [xcN_in hi]
    unfold xcF
    split
    · exact Or.inr (Or.inr (Or.inl rfl))
    · split
      · exact Or.inr (Or.inr (Or.inr ⟨u j, hal.1, rfl, hal.2⟩))
      · exact hT.1.pl hi
  · rw [(xc_n61 hu.2.2.2).1]
    exact h20
def Ufz (N : Nat → Int32) (n q : Nat) : Prop := cn (RP N 61) n ≤ cn (RB N 61 (N (1265 + q)) (N (1325 + q))) n
theorem k_swap (hT : TB g 0 N n c m u) {j : Nat} (hj : j < m) {y : Int32} (hy : y = 0 ∨ Ufz N n (u j)) (h20 : cn (RP N (nI (u j))) n ≤ 20) (h1 : m_X1_record g 0 = some g1) (hT1 : TB g1 0 N n c m u) : ∃ g' m' u', m_X6_swap g (nI (u j)) y = some (nI (cn (RP N 61) n), g') ∧ g'.2 = g1.2 ∧ (∀ x, x < 20 ∨ 35 ≤ x → g'.1 x = g1.1 x) ∧ TB g' 0 (xcN N n (nI (u j))) n c m' u' := by
  have hm12 := hT.m12
  have hn := hT.n4
  have hu := u_60 hT hj
  have hcn := cn_le (RP N 61) n
  have hrb : cn (RB N 61 (N (1265 + u j)) (N (1325 + u j))) n ≤ cn (RP N 61) n := rb_rp
  obtain ⟨G, a1, a2, a3, a4⟩ := xc_ok hT1 hj h20
  have ham := c_amount a4 (nI (u j))
  rw [(xc_n61 hu.2.2.2).2] at ham
  refine ⟨G, m, u, ?_, a2, a3, a4⟩
  unfold m_X6_swap
  rw [bnd_e (c_pos hT hj), if_neg (nI_ne_m (by omega) (by decide))]
  by_cases e0 : y = 0
  · rw [if_pos e0, bnd_e (c_amount hT _), if_pos ((l20 (by omega)).mpr h20), bnd_e h1, bnd_e a1, bnd_e ham]
  · have hz := hy.resolve_left e0
    unfold Ufz at hz
    rw [if_neg e0, bnd_e (c_low hT hj), bnd_e (c_high hT hj), bnd_e (c_unfitRows hT _ _), pk_sub hrb, if_pos ((nI_le0 (by omega)).mpr (by omega)), bnd_e (c_amount hT _), if_pos ((l20 (by omega)).mpr h20), bnd_e h1, bnd_e a1, bnd_e ham]
theorem k_swapN (hT : TB g 0 N n c m u) {j : Nat} (hj : j < m) {y : Int32} (hy : ¬ y = 0) (hz : ¬ Ufz N n (u j)) : m_X6_swap g (nI (u j)) y = some (-1004, g) := by
  have hm12 := hT.m12
  have hn := hT.n4
  have hcn := cn_le (RP N 61) n
  have hrb : cn (RB N 61 (N (1265 + u j)) (N (1325 + u j))) n ≤ cn (RP N 61) n := rb_rp
  unfold Ufz at hz
  unfold m_X6_swap
  rw [bnd_e (c_pos hT hj), if_neg (nI_ne_m (by omega) (by decide)), if_neg hy, bnd_e (c_low hT hj), bnd_e (c_high hT hj), bnd_e (c_unfitRows hT _ _), pk_sub hrb, if_neg (fun w => hz (by have := (nI_le0 (by omega)).mp w; omega))]
theorem dfo_xc (hk : OkN N n c) (hD : DfO N n c) {q : Nat} (hq : q < 60) : DfO (xcN N n (nI q)) n c := by
  have hn := hk.1.2.1
  refine dfo_rows hD hk.1.2.2.2 (fun i hi => xcN_out (by omega)) (fun i hi hp => Or.inl ?_)
  rw [xcN_in hi] at hp
  refine ⟨hi, ?_, xcN_out (by omega)⟩
  have h := ni_61 hq
  unfold xcF at hp
  by_cases e : N (805 + i) = nI q
  · rw [if_pos e] at hp
    exact absurd hp (by decide)
  · rw [if_neg e] at hp
    by_cases e2 : N (805 + i) = 61
    · rw [if_pos e2] at hp
      exact absurd hp h.2.1
    · rw [if_neg e2] at hp
      exact hp
theorem p30_xc (h : P30 N n) {q : Nat} (hq : q < 60) : P30 (xcN N n (nI q)) n := fun z hz => by
  obtain ⟨h1, h2⟩ := xc_n61 (N := N) (n := n) hq
  by_cases e : z = q
  · rw [e, h2]; exact h 61 (by omega)
  · by_cases e2 : z = 61
    · rw [e2, show nI 61 = (61 : Int32) from rfl, h1]; exact h q (by omega)
    · refine Nat.le_trans (cn_mono (fun i hi hp => ?_)) (h z hz)
      have w := rp_iff.mp hp
      rw [xcN_in hi] at w
      unfold xcF at w
      by_cases e3 : N (805 + i) = nI q
      · rw [if_pos e3, show (61 : Int32) = nI 61 from rfl] at w
        exact absurd ((nI_eq (by omega) (by omega)).mp w).symm e2
      · rw [if_neg e3] at w
        by_cases e4 : N (805 + i) = 61
        · rw [if_pos e4] at w
          exact absurd ((nI_eq (by omega) (by omega)).mp w).symm e
        · rw [if_neg e4] at w
          exact rp_iff.mpr w
theorem e_swap (hk : OkN N n c) (hG : Gd N n c) (x y : Int32) : ActX (fun g => m_X6_swap g x y) N n c := by
  obtain ⟨hD, hP30⟩ := hG
  have hn := hk.1.2.1
  have hc := hk.1.2.2.2
  have h61 := cn_le (RP N 61) n
  rcases sl_N N c x with ⟨q, hq, hal, rfl⟩ | ho
  · have hcn := cn_le (RP N (nI q)) n
    by_cases e1 : y = 0 ∨ Ufz N n q
    · by_cases e2 : cn (RP N (nI q)) n ≤ 20
      · refine ActX.yes (nI (cn (RP N 61) n)) (xcN N n (nI q)) n c (nI_pos (by omega)) ⟨dfo_xc hk hD (by omega), p30_xc hP30 (by omega)⟩ (fun g m u g1 hT h1 hT1 => ?_)
        obtain ⟨j, hj, rfl⟩ := hT.2.1.2.2.1 q hq hal
        exact k_swap hT hj e1 e2 h1 hT1
      · refine ActX.no (-1003) (by decide) (fun g m u hT => ?_)
        obtain ⟨j, hj, rfl⟩ := hT.2.1.2.2.1 q hq hal
        have hm12 := hT.m12
        have hrb : cn (RB N 61 (N (1265 + u j)) (N (1325 + u j))) n ≤ cn (RP N 61) n := rb_rp
        unfold m_X6_swap
        rw [bnd_e (c_pos hT hj), if_neg (nI_ne_m (by omega) (by decide))]
        by_cases e0 : y = 0
        · rw [if_pos e0, bnd_e (c_amount hT _), if_neg (fun w => e2 ((l20 (by omega)).mp w))]
        · have hz := e1.resolve_left e0
          unfold Ufz at hz
          rw [if_neg e0, bnd_e (c_low hT hj), bnd_e (c_high hT hj), bnd_e (c_unfitRows hT _ _), pk_sub hrb, if_pos ((nI_le0 (by omega)).mpr (by omega)), bnd_e (c_amount hT _), if_neg (fun w => e2 ((l20 (by omega)).mp w))]
    · refine ActX.no (-1004) (by decide) (fun g m u hT => ?_)
      obtain ⟨j, hj, rfl⟩ := hT.2.1.2.2.1 q hq hal
      exact k_swapN hT hj (fun w => e1 (Or.inl w)) (fun w => e1 (Or.inr w))
  · refine ActX.no (-1001) (by decide) (fun g m u hT => ?_)
    unfold m_X6_swap
    rw [bnd_e (c_pos_no hT ho), if_pos rfl]
end
