/-! swap, merge -/
section
variable {QP : QT} {g h : MG} {n c m : Nat} {u : Nat → Nat} {N : Nat → Int32}
theorem moveAll_eq (G : MG) (p q : Int32) : m_X3_moveAll G 0 p q = m_X3_moveKeys G 0 p q 0 1000 := by
  unfold m_X3_moveAll
  cases m_X3_moveKeys G 0 p q 0 1000 <;> rfl
def xcF (p : Int32) (z : Int32) : Int32 := if z = p then 61 else if z = 61 then p else z
theorem c_exchange (hT : TB g 0 N n c m u) (p : Int32) : ∃ G, m_X3_exchange g 0 p 61 = some G ∧ G.2 = g.2 ∧ (∀ k, k ≠ 28 → G.1 k = g.1 k) ∧ ∀ i, i < n → G.1 28 i = xcF p (N (805 + i)) := by
  have hn := hT.n4
  unfold m_X3_exchange
  refine lpo_P (fun i z => ∃ G : MG, z = (nI i, G) ∧ G.2 = g.2 ∧ (∀ k, k ≠ 28 → G.1 k = g.1 k) ∧ (∀ j, j < i → G.1 28 j = xcF p (N (805 + j))) ∧ ∀ j, i ≤ j → j < n → G.1 28 j = N (805 + j)) n _ 0 (by omega) (by omega) ⟨g, rfl, rfl, fun k _ => rfl, fun j hj => absurd hj (Nat.not_lt_zero j), fun j _ hj => (hT.2.2.2.1 j hj).2.2⟩ ?_ ?_
  · rintro i z hi ⟨G, rfl, b1, b2, b3, b4⟩
    have hc : G.1 (21 + 15 * 0) 3 = nI n := by rw [b2 _ (by omega)]; exact hT.came
    have hl : m_X3_placeOf G 0 (nI i) = some (N (805 + i)) := (w_place (t := 0) hc hn hi).trans (congrArg some (b4 i (Nat.le_refl i) hi))
    right
    have wr : ∀ q, (∀ j, j < i + 1 → (g_w G 28 i q).1 28 j = if j = i then q else xcF p (N (805 + j))) := fun q j hj => by
      rw [gw_at]
      by_cases e : j = i
      · rw [if_pos e, if_pos e]
      · rw [if_neg e, if_neg e, b3 j (by omega)]
    have fin : ∀ q, q = xcF p (N (805 + i)) → ∃ G' : MG, ((nI (i + 1), g_w G 28 i q) : Int32 × MG) = (nI (i + 1), G') ∧ G'.2 = g.2 ∧ (∀ k, k ≠ 28 → G'.1 k = g.1 k) ∧ (∀ j, j < i + 1 → G'.1 28 j = xcF p (N (805 + j))) ∧ ∀ j, i + 1 ≤ j → j < n → G'.1 28 j = N (805 + j) := fun q hq => ⟨_, rfl, b1, fun k hk => by rw [gw_ne hk, b2 k hk], fun j hj => by
      rw [wr q j hj]
      by_cases e : j = i
      · rw [if_pos e, e, hq]
      · rw [if_neg e], fun j h1 h2 => by rw [gw_at, if_neg (by omega), b4 j (by omega) h2]⟩
    by_cases e1 : N (805 + i) = p
    · refine ⟨(nI (i + 1), g_w G 28 i 61), fin 61 (by unfold xcF; rw [if_pos e1]), fun kk => ?_⟩
      simp only [b_X3_exchange_L2, m_X3_exchange_L2]
      rw [hc, if_neg (by rw [nI_leI (by omega) (by omega)]; omega), bnd_e hl, if_pos e1, bnd_e (w_move (t := 0) (by omega) 61), nI_1]
    · by_cases e2 : N (805 + i) = 61
      · refine ⟨(nI (i + 1), g_w G 28 i p), fin p (by unfold xcF; rw [if_neg e1, if_pos e2]), fun kk => ?_⟩
        simp only [b_X3_exchange_L2, m_X3_exchange_L2]
        rw [hc, if_neg (by rw [nI_leI (by omega) (by omega)]; omega), bnd_e hl, if_neg e1, bnd_e hl, if_pos e2, bnd_e (w_move (t := 0) (by omega) p), nI_1]
      · refine ⟨(nI (i + 1), G), ⟨G, rfl, b1, b2, lt_up b3 (by rw [b4 i (Nat.le_refl i) hi]; unfold xcF; rw [if_neg e1, if_neg e2]), fun j h1 h2 => b4 j (by omega) h2⟩, fun kk => ?_⟩
        simp only [b_X3_exchange_L2, m_X3_exchange_L2]
        rw [hc, if_neg (by rw [nI_leI (by omega) (by omega)]; omega), bnd_e hl, if_neg e1, bnd_e hl, if_neg e2, nI_1]
  · rintro z ⟨G, rfl, b1, b2, b3, b4⟩ kk
    refine ⟨G, ?_, b1, b2, b3⟩
    simp only [b_X3_exchange_L2, m_X3_exchange_L2]
    rw [b2 _ (by omega), hT.came, if_pos (nI_le (Nat.le_refl n) (by omega))]
theorem swap_same : b_X7_swap_L75_1 = b_X7_swap_L75 := rfl
theorem both_exchange (hT : TB g 0 (h.1 1) n c m u) {p : Nat} (hp : p < m) (y : Int32) (hst : cn (RP (h.1 1) (nI (u p))) n ≤ 20) : ∃ G H r, m_X3_exchange g 0 (nI (u p)) 61 = some G ∧ lpo (b_X7_swap_L75 (nI (u p)) y) fuelN ((0 : Int32), h) = some (r, H) ∧ m_X3_amountAt G 0 (nI (u p)) = some r ∧ G.2 = g.2 ∧ (∀ k, k < 20 ∨ 35 ≤ k → G.1 k = g.1 k) ∧ (∀ k, k ≠ 1 → H.1 k = h.1 k) ∧ TB G 0 (H.1 1) n c m u := by
  have hn := hT.n4
  have hc6 := hT.c6
  have hup := hT.2.1.2.1 p hp
  obtain ⟨G, a1, a2, a3, a4⟩ := c_exchange hT (nI (u p))
  have key : ∃ z, lpo (b_X7_swap_L75 (nI (u p)) y) fuelN ((0 : Int32), h) = some z ∧ (∀ k, k ≠ 1 → z.2.1 k = h.1 k) ∧ TB G 0 (z.2.1 1) n c m u ∧ z.1 = nI (cn (RP (z.2.1 1) (nI (u p))) n) := by
    refine lpo_P (fun i z => ∃ H : MG, z = (nI i, H) ∧ (∀ k, k ≠ 1 → H.1 k = h.1 k) ∧ (∀ j, j < 805 ∨ 805 + i ≤ j → H.1 1 j = h.1 1 j) ∧ ∀ j, j < i → H.1 1 (805 + j) = xcF (nI (u p)) (h.1 1 (805 + j))) n _ 0 (by omega) (by omega) ⟨h, rfl, fun k _ => rfl, fun j _ => rfl, fun j hj => absurd hj (Nat.not_lt_zero j)⟩ ?_ ?_
    · rintro i z hi ⟨H, rfl, b1, b2, b3⟩
      have hcond : ¬ H.1 1 (0 : Int32).toNatClampNeg ≤ nI i := by rw [ak0, b2 0 (by omega), hT.1.1.1, nI_leI (by omega) (by omega)]; omega
      have ea : ((805 : Int32) + nI i).toNatClampNeg = 805 + i := a805 (by omega)
      have hpl : H.1 1 (805 + i) = h.1 1 (805 + i) := b2 _ (by omega)
      have fin : ∀ q, q = xcF (nI (u p)) (h.1 1 (805 + i)) → ∃ H' : MG, ((nI (i + 1), g_w H 1 (805 + i) q) : Int32 × MG) = (nI (i + 1), H') ∧ (∀ k, k ≠ 1 → H'.1 k = h.1 k) ∧ (∀ j, j < 805 ∨ 805 + (i + 1) ≤ j → H'.1 1 j = h.1 1 j) ∧ ∀ j, j < i + 1 → H'.1 1 (805 + j) = xcF (nI (u p)) (h.1 1 (805 + j)) := fun q hq => ⟨_, rfl, fun k hk => by rw [gw_ne hk, b1 k hk], fun j hj => by rw [gw_at, if_neg (by omega), b2 j (by omega)], lt_up (fun j hj => by rw [gw_at, if_neg (by omega), b3 j hj]) (by rw [gw_at, if_pos rfl, hq])⟩
      right
      by_cases e1 : h.1 1 (805 + i) = nI (u p)
      · refine ⟨(nI (i + 1), g_w H 1 (805 + i) 61), fin 61 (by unfold xcF; rw [if_pos e1]), fun kk => ?_⟩
        simp only [b_X7_swap_L75, m_X7_swap_L75]
        rw [if_pos vk0, if_neg hcond, if_pos (v805 (by omega)), if_pos (by rw [ea, hpl]; exact e1), if_pos (v805 (by omega)), ea, nI_1]
      · by_cases e2 : h.1 1 (805 + i) = 61
        · refine ⟨(nI (i + 1), g_w H 1 (805 + i) (nI (u p))), fin (nI (u p)) (by unfold xcF; rw [if_neg e1, if_pos e2]), fun kk => ?_⟩
          simp only [b_X7_swap_L75, m_X7_swap_L75]
          rw [if_pos vk0, if_neg hcond, if_pos (v805 (by omega)), if_neg (by rw [ea, hpl]; exact e1), if_pos (by rw [ea, hpl]; exact e2), if_pos (v805 (by omega)), ea, nI_1]
        · refine ⟨(nI (i + 1), g_w H 1 (805 + i) (H.1 1 (805 + i))), fin _ (by rw [hpl]; unfold xcF; rw [if_neg e1, if_neg e2]), fun kk => ?_⟩
          simp only [b_X7_swap_L75, m_X7_swap_L75]
          rw [if_pos vk0, if_neg hcond, if_pos (v805 (by omega)), if_neg (by rw [ea, hpl]; exact e1), if_neg (by rw [ea, hpl]; exact e2), if_pos (v805 (by omega)), ea, nI_1]
    · rintro z ⟨H, rfl, b1, b2, b3⟩ kk
      have hTH : TB G 0 (H.1 1) n c m u := mv_TB hT (fun k _ _ h3 => a3 k (by omega)) (fun i hi => (a4 i hi).trans (b3 i hi).symm) b2 (fun i hi => by
        rw [b3 i hi]
        unfold xcF
        split
        · exact Or.inr (Or.inr (Or.inl rfl))
        · split
          · exact Or.inr (Or.inr (Or.inr ⟨u p, hup.1, rfl, hup.2⟩))
          · exact hT.1.pl hi) (by
        refine Nat.le_trans (cn_mono (fun i hi hq => ?_)) hst
        have h1 := rp_iff.mp hq
        rw [b3 i hi] at h1
        unfold xcF at h1
        by_cases e1 : h.1 1 (805 + i) = nI (u p)
        · exact rp_iff.mpr e1
        · rw [if_neg e1] at h1
          by_cases e2 : h.1 1 (805 + i) = 61
          · rw [if_pos e2] at h1
            have := (nI_eq (a := u p) (b := 61) (by omega) (by omega)).mp h1
            omega
          · rw [if_neg e2] at h1
            exact absurd h1 e2)
      refine ⟨(nI (cn (RP (H.1 1) (nI (u p))) n), H), ?_, b1, hTH, rfl⟩
      simp only [b_X7_swap_L75, m_X7_swap_L75]
      rw [if_pos vk0, if_pos (by rw [ak0, hTH.1.1.1]; exact nI_le (Nat.le_refl n) (by omega)), bnd_e (r_rowsIn hTH.1 _)]
  obtain ⟨⟨r, H⟩, d1, d2, d3, d4⟩ := key
  simp only at d2 d3 d4
  subst d4
  exact ⟨G, H, _, a1, d1, c_amount d3 _, a2, fun k hk => a3 k (by omega), d2, d3⟩
theorem s_swap (hR : Rel QP g h) (x y : Int32) : ∃ r g' h', m_X6_swap g x y = some (r, g') ∧ m_X7_swap h x y = some (r, h') ∧ Rel QP g' h' := by
  obtain ⟨⟨n, c, m, u, hT⟩, hH, hQ⟩ := id hR
  have hn := hT.n4
  have hc6 := hT.c6
  have hm12 := hT.m12
  have ne : ¬ (1 : Int32) = 0 := by decide
  unfold m_X6_swap m_X7_swap
  rw [swap_same]
  rcases sl_or hT x with ⟨j, hj, rfl⟩ | ho
  · obtain ⟨h1, h2⟩ := hT.2.1.2.1 j hj
    have hb := u_b hT.1 hT.2.1 hj
    have el : ((1265 : Int32) + nI (u j)).toNatClampNeg = 1265 + u j := a1265 (by omega)
    have eh : ((1325 : Int32) + nI (u j)).toNatClampNeg = 1325 + u j := a1325 (by omega)
    have tail : ∃ r g' h', (bnd (m_X3_amountAt g 0 (nI (u j))) fun (r71 : Int32) => if r71 ≤ (20 : Int32) then bnd (m_X1_record g 0) fun (g91 : MG) => bnd (m_X3_exchange g91 0 (nI (u j)) (61 : Int32)) fun (g104 : MG) => bnd (m_X3_amountAt g104 0 (nI (u j))) fun (r115 : Int32) => some (r115, g104) else some ((-1003 : Int32), g)) = some (r, g') ∧ (bnd (m_X7_rowsIn h (nI (u j))) fun (r57 : Int32) => if r57 ≤ (20 : Int32) then bnd (m_X7_record h) fun (g70 : MG) => lpo (b_X7_swap_L75 (nI (u j)) y) fuelN ((0 : Int32), g70) else some ((-1003 : Int32), h)) = some (r, h') ∧ Rel QP g' h' := by
      have hcn := cn_le (RP (h.1 1) (nI (u j))) n
      rw [bnd_e (c_amount hT _), bnd_e (r_rowsIn hT.1 _), show (20 : Int32) = nI 20 from rfl]
      by_cases e1 : nI (cn (RP (h.1 1) (nI (u j))) n) ≤ nI 20
      · have e1' := (nI_leI (by omega) (by omega)).mp e1
        obtain ⟨g1, h1, r1, r2, hT1, hf1, hf2, hH1, hend⟩ := act_rel hT hR
        obtain ⟨G, H, r, a1, a2, a3, a4, a5, a6, a7⟩ := both_exchange hT1 hj y (by rw [hf2]; exact e1')
        rw [if_pos e1, if_pos e1, bnd_e r1, bnd_e r2, bnd_e a1, bnd_e a3]
        exact ⟨_, _, _, rfl, a2, hend G H a4 a5 a6 ⟨_, _, _, _, a7⟩⟩
      · rw [if_neg e1, if_neg e1]
        exact ⟨_, _, _, rfl, rfl, hR⟩
    rw [bnd_e (c_pos hT hj), if_neg (nI_ne_m (by omega) (by decide)), bnd_e (r_isSlice hT.1 h1), if_pos h2, if_neg ne]
    by_cases e0 : y = 0
    · rw [if_pos e0, if_pos e0]
      exact tail
    · have hcn := cn_le (RP (h.1 1) 61) n
      have hrb : cn (RB (h.1 1) 61 (h.1 1 (1265 + u j)) (h.1 1 (1325 + u j))) n ≤ cn (RP (h.1 1) 61) n := rb_rp
      have hrr := r_rowsBetween hT.1 61 (h.1 1 (1265 + u j)) (h.1 1 (1325 + u j)) (by omega)
      rw [if_neg e0, if_neg e0, bnd_e (c_low hT hj), bnd_e (c_high hT hj), bnd_e (c_unfitRows hT _ _), if_pos (v1265 (by omega)), if_pos (v1325 (by omega)), el, eh, bnd_e hrr, bnd_e (r_rowsIn hT.1 61), pk_sub hrb]
      by_cases e1 : cn (RP (h.1 1) 61) n ≤ cn (RB (h.1 1) 61 (h.1 1 (1265 + u j)) (h.1 1 (1325 + u j))) n
      · rw [if_pos ((nI_le0 (by omega)).mpr (by omega)), if_pos (nI_le e1 (by omega))]
        exact tail
      · rw [if_neg (fun w => e1 (by have := (nI_le0 (by omega)).mp w; omega)), if_neg (fun w => e1 ((nI_leI (by omega) (by omega)).mp w))]
        exact ⟨_, _, _, rfl, rfl, hR⟩
  · rw [bnd_e (c_pos_no hT ho), if_pos rfl, bnd_e (r_isSlice_no hT.1 ho), if_pos rfl]
    exact ⟨_, _, _, rfl, rfl, hR⟩
/-- the slices beside one another -/
theorem beside (hk : OkN N n c) (hs : SO N c m u) {p r : Nat} (hp : p < m) (hr : r < m) (e : N (1325 + u p) = N (1265 + u r)) : r = p + 1 := by
  have hbp := u_b hk hs hp
  have hbr := u_b hk hs hr
  have e' : (N (1325 + u p)).toInt = (N (1265 + u r)).toInt := congrArg Int32.toInt e
  rcases Nat.lt_trichotomy p r with w | w | w
  · rcases Nat.lt_or_ge (p + 1) r with w2 | w2
    · have h1 := hs.2.2.2 p (p + 1) (by omega) (by omega)
      have h2 := hs.2.2.2 (p + 1) r w2 hr
      have h3 := u_b hk hs (show p + 1 < m by omega)
      omega
    · omega
  · subst w
    omega
  · have h1 := hs.2.2.2 r p w hp
    omega
theorem s_merge (hR : Rel QP g h) (x y : Int32) : ∃ r g' h', m_X6_merge g x y = some (r, g') ∧ m_X7_merge h x y = some (r, h') ∧ Rel QP g' h' := by
  obtain ⟨⟨n, c, m, u, hT⟩, hH, hQ⟩ := id hR
  have hn := hT.n4
  have hc6 := hT.c6
  have hm12 := hT.m12
  have ne : ¬ (1 : Int32) = 0 := by decide
  unfold m_X6_merge m_X7_merge
  rcases sl_or hT x with ⟨p, hp, rfl⟩ | ho
  · obtain ⟨p1, p2⟩ := hT.2.1.2.1 p hp
    rw [bnd_e (c_pos hT hp), bnd_e (r_isSlice hT.1 p1), if_pos p2, if_neg ne]
    rcases sl_or hT y with ⟨r, hr, rfl⟩ | ho
    · obtain ⟨q1, q2⟩ := hT.2.1.2.1 r hr
      have hbp := u_b hT.1 hT.2.1 hp
      have hbr := u_b hT.1 hT.2.1 hr
      have hso := hT.2.1.2.2.2
      have hinj := so_inj hT.1 hT.2.1
      have lp : ((1265 : Int32) + nI (u p)).toNatClampNeg = 1265 + u p := a1265 (by omega)
      have hp' : ((1325 : Int32) + nI (u p)).toNatClampNeg = 1325 + u p := a1325 (by omega)
      have lr : ((1265 : Int32) + nI (u r)).toNatClampNeg = 1265 + u r := a1265 (by omega)
      have hr' : ((1325 : Int32) + nI (u r)).toNatClampNeg = 1325 + u r := a1325 (by omega)
      have ap : ((1205 : Int32) + nI (u p)).toNatClampNeg = 1205 + u p := a1205 (by omega)
      have vlp : vin ((1265 : Int32) + nI (u p)) 1385 := v1265 (by omega)
      have vhp : vin ((1325 : Int32) + nI (u p)) 1385 := v1325 (by omega)
      have vlr : vin ((1265 : Int32) + nI (u r)) 1385 := v1265 (by omega)
      have vhr : vin ((1325 : Int32) + nI (u r)) 1385 := v1325 (by omega)
      have vap : vin ((1205 : Int32) + nI (u p)) 1385 := v1205 (by omega)
      rw [bnd_e (c_pos hT hr), if_neg (nI_ne_m (by omega) (by decide)), if_neg (nI_ne_m (by omega) (by decide)), bnd_e (r_isSlice hT.1 q1), if_pos q2, if_neg ne, if_pos vhp, if_pos vlr]
      have hbes : m_X4_areBeside g 0 (nI p) (nI r) = some (if h.1 1 (1325 + u p) = h.1 1 (1265 + u r) ∨ h.1 1 (1325 + u r) = h.1 1 (1265 + u p) then 1 else 0) := by
        unfold m_X4_areBeside
        rw [bnd_e (c_high hT hp), bnd_e (c_low hT hr)]
        by_cases w1 : h.1 1 (1325 + u p) = h.1 1 (1265 + u r)
        · rw [if_pos w1, if_pos (Or.inl w1)]
        · rw [if_neg w1, bnd_e (c_high hT hr), bnd_e (c_low hT hp)]
          by_cases w2 : h.1 1 (1325 + u r) = h.1 1 (1265 + u p)
          · rw [if_pos w2, if_pos (Or.inr w2)]
          · rw [if_neg w2, if_neg]
            rintro (w | w)
            · exact w1 w
            · exact w2 w
      rw [bnd_e hbes]
      have hcn1 := cn_le (RP (h.1 1) (nI (u p))) n
      have hcn2 := cn_le (RP (h.1 1) (nI (u r))) n
      -- the tail: lo, hi are the bounds of both together
      have tail : ∀ (v lo hi : Int32), p ≠ r → (0 ≤ lo.toInt ∧ lo.toInt < hi.toInt ∧ hi.toInt ≤ 1000) → (∀ j, j < r → j ≠ p → (h.1 1 (1325 + u j)).toInt ≤ lo.toInt) → (∀ j, r < j → j < m → j ≠ p → hi.toInt ≤ (h.1 1 (1265 + u j)).toInt) → (if h.1 1 (1265 + u r) < h.1 1 (1265 + u p) then h.1 1 (1265 + u r) else h.1 1 (1265 + u p)) = lo → (if h.1 1 (1325 + u p) < h.1 1 (1325 + u r) then h.1 1 (1325 + u r) else h.1 1 (1325 + u p)) = hi → ((v = 0 ∧ lo = h.1 1 (1265 + u r) ∧ hi = h.1 1 (1325 + u p)) ∨ (v ≠ 0 ∧ lo = h.1 1 (1265 + u p) ∧ hi = h.1 1 (1325 + u r))) → ∃ r' g' h', (bnd (m_X3_amountAt g 0 (nI (u p))) fun (r72 : Int32) => bnd (m_X3_amountAt g 0 (nI (u r))) fun (r83 : Int32) => if (r72 + r83) ≤ (30 : Int32) then bnd (m_X1_record g 0) fun (g108 : MG) => bnd (m_X3_moveAll g108 0 (nI (u p)) (nI (u r))) fun (g120 : MG) => bnd (m_X4_unite g120 0 (nI p) (nI r)) fun (g133 : MG) => some ((r72 + r83), g133) else some ((-1003 : Int32), g)) = some (r', g') ∧ m_X7_merge_J85 (nI (u p)) (nI (u r)) v h = some (r', h') ∧ Rel QP g' h' := by
        intro v lo hi hne hb hlo hhi e1 e2 e3
        unfold m_X7_merge_J85
        rw [bnd_e (c_amount hT _), bnd_e (c_amount hT _), bnd_e (r_rowsIn hT.1 _), bnd_e (r_rowsIn hT.1 _)]
        by_cases e4 : nI (cn (RP (h.1 1) (nI (u p))) n) + nI (cn (RP (h.1 1) (nI (u r))) n) ≤ (30 : Int32)
        · rw [if_pos e4, if_pos e4]
          obtain ⟨g1, h1, r1, r2, hT1, hf1, hf2, hH1, hend⟩ := act_rel hT hR
          have hn61 : nI (u r) ≠ 61 := fun e => by
            have := (nI_eq (a := u r) (b := 61) (by omega) (by omega)).mp e
            omega
          obtain ⟨G2, H2, b1, b2, b3, b4, b5, b6, b7, b8⟩ := mv_both hT1 (nI (u p)) (nI (u r)) 0 1000 (by decide) (Or.inr (Or.inr (Or.inr ⟨u r, q1, rfl, by rw [hf2]; exact q2⟩))) (Or.inl hn61)
          have hnr := no_rows hT1.1 (show ¬ nI (u r) = nI (u p) from fun e => hne (hinj p r hp hr ((nI_eq (by omega) (by omega)).mp e).symm)) b8
          have hs : ∀ i, 1205 ≤ i → H2.1 1 i = h.1 1 i := fun i hi => by rw [b7 i (by omega), hf2]
          have hup : u p ≠ u r := fun e => hne (hinj p r hp hr e)
          -- the reference's last writings
          have hfin : ∀ (i : Nat) (w : Int32), (i = 1265 + u r ∧ w = lo ∧ hi = h.1 1 (1325 + u r)) ∨ (i = 1325 + u r ∧ w = hi ∧ lo = h.1 1 (1265 + u r)) → ∃ G, m_X4_unite G2 0 (nI p) (nI r) = some G ∧ Rel QP G (g_w (g_w H2 1 i w) 1 (1205 + u p) 0) := fun i w hiw => by
            have hN : ∀ j, j ≠ 1205 + u p → j ≠ 1265 + u r → j ≠ 1325 + u r → (g_w (g_w H2 1 i w) 1 (1205 + u p) 0).1 1 j = H2.1 1 j := fun j h1 h2 h3 => by rw [gw_at, if_neg h1, gw_at, if_neg (by omega)]
            obtain ⟨G, d1, d2, d3, d4⟩ := both_unite (N' := (g_w (g_w H2 1 i w) 1 (1205 + u p) 0).1 1) b6 hp hr hne hnr (lo := lo) (hi := hi) hb (fun j hj hjp => by rw [hs _ (by omega)]; exact hlo j hj hjp) (fun j hj hjm hjp => by rw [hs _ (by omega)]; exact hhi j hj hjm hjp) hN (by rw [gw_at, if_pos rfl]) (by
              rw [gw_at, if_neg (by omega), gw_at]
              rcases hiw with ⟨rfl, rfl, -⟩ | ⟨rfl, rfl, z⟩
              · rw [if_pos rfl]
              · rw [if_neg (by omega), hs _ (by omega)]; exact z.symm) (by
              rw [gw_at, if_neg (by omega), gw_at]
              rcases hiw with ⟨rfl, rfl, z⟩ | ⟨rfl, rfl, -⟩
              · rw [if_neg (by omega), hs _ (by omega)]; exact z.symm
              · rw [if_pos rfl])
            refine ⟨G, ?_, hend G _ (d2.trans b3) (fun k hk => (d3 k hk).trans (b4 k (by omega))) (fun k hk => by rw [gw_ne hk, gw_ne hk, b5 k hk]) ⟨_, _, _, _, d4⟩⟩
            unfold m_X4_unite
            rw [bnd_e (c_low b6 hp), bnd_e (c_low b6 hr), bnd_e (c_high b6 hp), bnd_e (c_high b6 hr), hs _ (by omega), hs _ (by omega), hs _ (by omega), hs _ (by omega), e1, e2, bnd_e (w_bounds (t := 0) (by omega) lo hi)]
            have hnum : m_X4_numberAt (g_w (g_w G2 (32 + 15 * 0) r lo) (34 + 15 * 0) r hi) 0 (nI p) = some (nI (u p)) := by
              rw [w_num (t := 0) (by omega), gw_ne (by omega), gw_ne (by omega), (b6.2.2.2.2 p hp).1]
            rw [bnd_e hnum, bnd_e d1]
          rw [bnd_e r1, bnd_e r2, moveAll_eq, bnd_e b1, bnd_e b2]
          unfold m_X7_merge_J170
          rcases e3 with ⟨rfl, z1, z2⟩ | ⟨hv, z1, z2⟩
          · obtain ⟨G, d1, d2⟩ := hfin (1325 + u r) hi (Or.inr ⟨rfl, rfl, z1⟩)
            rw [bnd_e d1, if_pos (show (0 : Int32) = 0 from rfl), if_pos vhp, if_pos vhr, if_pos vap, hp', hr', ap, hs _ (by omega), ← z2]
            exact ⟨_, _, _, rfl, rfl, d2⟩
          · obtain ⟨G, d1, d2⟩ := hfin (1265 + u r) lo (Or.inl ⟨rfl, rfl, z2⟩)
            rw [bnd_e d1, if_neg hv, if_pos vlp, if_pos vlr, if_pos vap, lp, lr, ap, hs _ (by omega), ← z1]
            exact ⟨_, _, _, rfl, rfl, d2⟩
        · rw [if_neg e4, if_neg e4]
          exact ⟨_, _, _, rfl, rfl, hR⟩
      by_cases w1 : h.1 1 (1325 + u p) = h.1 1 (1265 + u r)
      · have hrp := beside hT.1 hT.2.1 hp hr w1
        have w1' : (h.1 1 (1325 + u p)).toInt = (h.1 1 (1265 + u r)).toInt := congrArg Int32.toInt w1
        rw [if_pos (Or.inl w1), if_neg ne, if_pos (show h.1 1 ((1325 : Int32) + nI (u p)).toNatClampNeg = h.1 1 ((1265 : Int32) + nI (u r)).toNatClampNeg by rw [hp', lr]; exact w1)]
        unfold m_X7_merge_J48
        rw [if_neg (show ¬ nI (u p) = nI (u r) from fun e => by
          have := hinj p r hp hr ((nI_eq (by omega) (by omega)).mp e)
          omega), if_neg ne]
        exact tail 1 (h.1 1 (1265 + u p)) (h.1 1 (1325 + u r)) (by omega) ⟨hbp.1, by omega, hbr.2.2⟩ (fun j hj hjp => hso j p (by omega) hp) (fun j hj hjm hjp => hso r j hj hjm) (by rw [if_neg]; exact fun w => by have := Int32.lt_iff_toInt_lt.mp w; omega) (by rw [if_pos]; exact Int32.lt_iff_toInt_lt.mpr (by omega)) (Or.inr ⟨ne, rfl, rfl⟩)
      · rw [if_neg (show ¬ h.1 1 ((1325 : Int32) + nI (u p)).toNatClampNeg = h.1 1 ((1265 : Int32) + nI (u r)).toNatClampNeg by rw [hp', lr]; exact w1)]
        unfold m_X7_merge_J48
        by_cases w2 : h.1 1 (1325 + u r) = h.1 1 (1265 + u p)
        · have hrp := beside hT.1 hT.2.1 hr hp w2
          have w2' : (h.1 1 (1325 + u r)).toInt = (h.1 1 (1265 + u p)).toInt := congrArg Int32.toInt w2
          rw [if_pos (Or.inr w2), if_neg ne, if_neg (show ¬ nI (u p) = nI (u r) from fun e => by
            have := hinj p r hp hr ((nI_eq (by omega) (by omega)).mp e)
            omega), if_pos (show (0 : Int32) = 0 from rfl), if_pos vhr, if_pos vlp, if_pos (show h.1 1 ((1325 : Int32) + nI (u r)).toNatClampNeg = h.1 1 ((1265 : Int32) + nI (u p)).toNatClampNeg by rw [hr', lp]; exact w2)]
          exact tail 0 (h.1 1 (1265 + u r)) (h.1 1 (1325 + u p)) (by omega) ⟨hbr.1, by omega, hbp.2.2⟩ (fun j hj hjp => hso j r hj hr) (fun j hj hjm hjp => hso p j (by omega) hjm) (by rw [if_pos]; exact Int32.lt_iff_toInt_lt.mpr (by omega)) (by rw [if_neg]; exact fun w => by have := Int32.lt_iff_toInt_lt.mp w; omega) (Or.inl ⟨rfl, rfl, rfl⟩)
        · rw [if_neg (show ¬ (h.1 1 (1325 + u p) = h.1 1 (1265 + u r) ∨ h.1 1 (1325 + u r) = h.1 1 (1265 + u p)) by
            rintro (w | w)
            · exact w1 w
            · exact w2 w), if_pos (show (0 : Int32) = 0 from rfl)]
          by_cases w3 : nI (u p) = nI (u r)
          · rw [if_pos w3]
            exact ⟨_, _, _, rfl, rfl, hR⟩
          · rw [if_neg w3, if_pos (show (0 : Int32) = 0 from rfl), if_pos vhr, if_pos vlp, if_neg (show ¬ h.1 1 ((1325 : Int32) + nI (u r)).toNatClampNeg = h.1 1 ((1265 : Int32) + nI (u p)).toNatClampNeg by rw [hr', lp]; exact w2)]
            exact ⟨_, _, _, rfl, rfl, hR⟩
    · rw [bnd_e (c_pos_no hT ho), if_neg (nI_ne_m (by omega) (by decide)), if_pos rfl, bnd_e (r_isSlice_no hT.1 ho), if_pos rfl]
      exact ⟨_, _, _, rfl, rfl, hR⟩
  · have hpos : ∃ z, m_X4_positionOf g 0 y = some z := by
      rcases sl_or hT y with ⟨r, hr, rfl⟩ | ho
      · exact ⟨_, c_pos hT hr⟩
      · exact ⟨_, c_pos_no hT ho⟩
    obtain ⟨z, hz⟩ := hpos
    rw [bnd_e (c_pos_no hT ho), bnd_e hz, if_pos rfl, bnd_e (r_isSlice_no hT.1 ho), if_pos rfl]
    exact ⟨_, _, _, rfl, rfl, hR⟩
end
