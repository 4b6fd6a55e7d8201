/-! mend -/
/-- a loop without an exit before its end -/
theorem lpo_fin {σ ρ : Type} {body : (σ → Option ρ) → σ → Option ρ} (I : Nat → σ → Prop) (K : Nat) (Φ : σ → Option ρ) {x0 : σ} (hK : K < 10000) (h0 : I 0 x0) (hs : ∀ i x, i < K → I i x → ∃ x', I (i + 1) x' ∧ ∀ k, body k x = k x') (he : ∀ x, I K x → ∀ k, body k x = Φ x) : ∃ x, I K x ∧ lpo body fuelN x0 = Φ x := by
  have key : ∀ (j i : Nat) (x : σ) (f : Nat), i + j = K → I i x → j < f → ∃ y, I K y ∧ lpo body f x = Φ y := by
    intro j
    induction j with
    | zero =>
      intro i x f hi hx hf
      obtain ⟨f', rfl⟩ : ∃ f', f = f' + 1 := ⟨f - 1, by omega⟩
      have hiK : i = K := by omega
      subst hiK
      exact ⟨x, hx, he x hx _⟩
    | succ j ih =>
      intro i x f hi hx hf
      obtain ⟨f', rfl⟩ : ∃ f', f = f' + 1 := ⟨f - 1, by omega⟩
      obtain ⟨x', hx', h⟩ := hs i x (by omega) hx
      obtain ⟨y, h1, h2⟩ := ih (i + 1) x' f' (by omega) hx' (by omega)
      exact ⟨y, h1, (h _).trans h2⟩
  exact key K 0 x0 fuelN (by omega) h0 (by unfold fuelN; omega)
section
variable {QP : QT} {g h : MG} {n c m : Nat} {u : Nat → Nat} {N N' : Nat → Int32}
/-- a stray row without a home -/
def HoL (N : Nat → Int32) (c i : Nat) : Prop := StP N c i ∧ HomR N c (N (5 + i)) (-1005)
theorem own_cong (hc : c ≤ 60) (hN : ∀ i, 1205 ≤ i → N' i = N i) {k : Int32} {q : Nat} : Own N' c k q ↔ Own N c k q := by
  unfold Own
  rw [hN (1205 + q) (by omega), hN (1265 + q) (by omega), hN (1325 + q) (by omega)]
theorem hom_cong (hc : c ≤ 60) (h2 : N' 2 = N 2) (hN : ∀ i, 1205 ≤ i → N' i = N i) {k r : Int32} : HomR N' c k r ↔ HomR N c k r := by
  unfold HomR
  rw [h2]
  simp only [own_cong hc hN]
theorem st_cong (hc : c ≤ 60) (h2 : N' 2 = N 2) (hN : ∀ i, 1205 ≤ i → N' i = N i) {i : Nat} (h5 : N' (5 + i) = N (5 + i)) (h8 : N' (805 + i) = N (805 + i)) : StP N' c i ↔ StP N c i := by
  unfold StP
  rw [h5, h8, hom_cong hc h2 hN]
theorem st_iff {i : Nat} : stB N c i = true ↔ StP N c i := by
  constructor
  · intro h
    refine Classical.byContradiction (fun hn => ?_)
    rw [st_f hn] at h
    cases h
  · exact st_t
/-- strays are moved home on both sides -/
theorem both_moveStrays (hT : TB g 0 (h.1 1) n c m u) (hno : ∀ i, i < n → ¬ HoL (h.1 1) c i) (c1 : Int32) : ∃ G z, m_X5_moveStrays g 0 = some G ∧ lpo (b_X7_mend_L175 c1) fuelN ((0 : Int32), h) = some z ∧ z.1 = c1 ∧ G.2 = g.2 ∧ (∀ k, k ≠ 28 → G.1 k = g.1 k) ∧ (∀ k, k ≠ 1 → z.2.1 k = h.1 k) ∧ TB G 0 (z.2.1 1) n c m u := by
  have hn := hT.n4
  have hc6 := hT.c6
  have ne : ¬ (1 : Int32) = 0 := by decide
  unfold m_X5_moveStrays
  refine lpo_two (P := fun (G : MG) (z : Int32 × MG) => z.1 = c1 ∧ G.2 = g.2 ∧ (∀ k, k ≠ 28 → G.1 k = g.1 k) ∧ (∀ k, k ≠ 1 → z.2.1 k = h.1 k) ∧ TB G 0 (z.2.1 1) n c m u) (fun i x y => ∃ G H : MG, x = (nI i, G) ∧ y = (nI i, H) ∧ G.2 = g.2 ∧ (∀ k, k ≠ 28 → G.1 k = g.1 k) ∧ (∀ k, k ≠ 1 → H.1 k = h.1 k) ∧ TB G 0 (H.1 1) n c m u ∧ ∀ j, j < 805 ∨ 805 + i ≤ j → H.1 1 j = h.1 1 j) n (by omega) ⟨g, h, rfl, rfl, rfl, fun _ _ => rfl, fun _ _ => rfl, hT, fun _ _ => rfl⟩ ?_ ?_
  · rintro i x y hi ⟨G, H, rfl, rfl, b1, b2, b3, b4, b5⟩
    right
    have hcond : ¬ nI n ≤ nI i := by rw [nI_leI (by omega) (by omega)]; omega
    have hcond2 : ¬ H.1 1 (0 : Int32).toNatClampNeg ≤ nI i := by rw [ak0, b4.1.1.1]; exact hcond
    have hsl : ∀ j, 1205 ≤ j → H.1 1 j = h.1 1 j := fun j hj => b5 j (by omega)
    cases hb : stB (H.1 1) c i with
    | false =>
      refine ⟨(nI (i + 1), G), (nI (i + 1), H), ⟨G, H, rfl, rfl, b1, b2, b3, b4, fun j hj => b5 j (by omega)⟩, fun k => ?_, fun k => ?_⟩
      · simp only [b_X5_moveStrays_L2, m_X5_moveStrays_L2]
        rw [b4.came, if_neg hcond, bnd_e (c_stray b4 hi), hb, if_neg Bool.false_ne_true, if_pos rfl, nI_1]
      · simp only [b_X7_mend_L175, m_X7_mend_L175]
        rw [if_pos vk0, if_neg hcond2, bnd_e (r_stray b4.1 hi), hb, if_neg Bool.false_ne_true, if_pos rfl, nI_1]
    | true =>
      obtain ⟨r, r1, r2⟩ := c_home b4 (H.1 1 (5 + i))
      obtain ⟨r', r3, r4⟩ := r_home b4.1 (H.1 1 (5 + i))
      obtain rfl := homR_u b4.1 r2 r4
      have hst : StP (h.1 1) c i := (st_cong hc6 (b5 2 (by omega)) hsl (b5 _ (by omega)) (b5 _ (by omega))).mp (st_iff.mp hb)
      have hr : ¬ r = -1005 := fun e => by
        rw [e] at r2
        rw [b5 (5 + i) (by omega)] at r2
        exact hno i hi ⟨hst, (hom_cong hc6 (b5 2 (by omega)) hsl).mp r2⟩
      have hT2 := both_set b4 hi (hom_pl r2 hr) (Or.inl (hom_61 b4.1 r2))
      have ea : ((805 : Int32) + nI i).toNatClampNeg = 805 + i := a805 (by omega)
      have eb : ((5 : Int32) + nI i).toNatClampNeg = 5 + i := a5 (by omega)
      refine ⟨(nI (i + 1), g_w G 28 i r), (nI (i + 1), g_w H 1 (805 + i) r), ⟨_, _, rfl, rfl, b1, fun k hk => by rw [gw_ne hk, b2 k hk], fun k hk => by rw [gw_ne hk, b3 k hk], hT2, fun j hj => by rw [gw_at, if_neg (by omega), b5 j (by omega)]⟩, fun k => ?_, fun k => ?_⟩
      · simp only [b_X5_moveStrays_L2, m_X5_moveStrays_L2]
        rw [b4.came, if_neg hcond, bnd_e (c_stray b4 hi), hb, if_pos rfl, if_neg ne, bnd_e (c_key b4 hi), bnd_e r1, bnd_e (w_move (t := 0) (by omega) r), nI_1]
      · simp only [b_X7_mend_L175, m_X7_mend_L175]
        rw [if_pos vk0, if_neg hcond2, bnd_e (r_stray b4.1 hi), hb, if_pos rfl, if_neg ne, if_pos (v5 (by omega)), eb, bnd_e r3, if_pos (v805 (by omega)), ea, nI_1]
  · rintro x y ⟨G, H, rfl, rfl, b1, b2, b3, b4, b5⟩ k1 k2
    refine ⟨G, (c1, H), ?_, ?_, rfl, b1, b2, b3, b4⟩
    · simp only [b_X5_moveStrays_L2, m_X5_moveStrays_L2]
      rw [b4.came, if_pos (nI_le (Nat.le_refl n) (by omega))]
    · simp only [b_X7_mend_L175, m_X7_mend_L175]
      rw [if_pos vk0, if_pos (by rw [ak0, b4.1.1.1]; exact nI_le (Nat.le_refl n) (by omega))]
theorem c_homeless (hT : TB g 0 N n c m u) : (∃ i, i < n ∧ HoL N c i) ∧ m_X5_strayIsHomeless g 0 = some 1 ∨ (∀ i, i < n → ¬ HoL N c i) ∧ m_X5_strayIsHomeless g 0 = some 0 := by
  have hn := hT.n4
  have ne : ¬ (1 : Int32) = 0 := by decide
  have step : ∀ i, i < n → ¬ HoL N c i → ∀ k, b_X5_strayIsHomeless_L2 g 0 k (nI i) = k (nI (i + 1)) := fun i hi hno k => by
    have hcond : ¬ nI n ≤ nI i := by rw [nI_leI (by omega) (by omega)]; omega
    simp only [b_X5_strayIsHomeless_L2, m_X5_strayIsHomeless_L2]
    cases hb : stB N c i with
    | false => rw [hT.came, if_neg hcond, bnd_e (c_stray hT hi), hb, if_neg Bool.false_ne_true, if_pos rfl, nI_1]
    | true =>
      obtain ⟨r, r1, r2⟩ := c_home hT (N (5 + i))
      have hr : ¬ r = -1005 := fun e => hno ⟨st_iff.mp hb, by rw [← e]; exact r2⟩
      rw [hT.came, if_neg hcond, bnd_e (c_stray hT hi), hb, if_pos rfl, if_neg ne, bnd_e (c_key hT hi), bnd_e r1, if_neg hr, nI_1]
  by_cases hex : ∃ i, i < n ∧ HoL N c i
  · left
    refine ⟨hex, ?_⟩
    obtain ⟨i0, hi0, hH⟩ := hex
    unfold m_X5_strayIsHomeless
    refine lpo_eq (fun i x => x = nI i ∧ ∀ j, j < i → ¬ HoL N c j) n (by omega) ⟨rfl, fun j hj => absurd hj (Nat.not_lt_zero j)⟩ ?_ ?_
    · rintro i x hi ⟨rfl, hno⟩
      by_cases hw : HoL N c i
      · left
        intro k
        have hcond : ¬ nI n ≤ nI i := by rw [nI_leI (by omega) (by omega)]; omega
        obtain ⟨r, r1, r2⟩ := c_home hT (N (5 + i))
        have hr : r = -1005 := homR_u hT.1 r2 hw.2
        simp only [b_X5_strayIsHomeless_L2, m_X5_strayIsHomeless_L2]
        rw [hT.came, if_neg hcond, bnd_e (c_stray hT hi), st_iff.mpr hw.1, if_pos rfl, if_neg ne, bnd_e (c_key hT hi), bnd_e r1, if_pos hr]
      · right
        exact ⟨nI (i + 1), ⟨rfl, lt_up hno hw⟩, step i hi hw⟩
    · rintro x ⟨rfl, hno⟩ k
      exact absurd hH (hno i0 hi0)
  · right
    have hno : ∀ i, i < n → ¬ HoL N c i := fun i hi hw => hex ⟨i, hi, hw⟩
    refine ⟨hno, ?_⟩
    unfold m_X5_strayIsHomeless
    refine lpo_eq (fun i x => x = nI i) n (by omega) rfl ?_ ?_
    · rintro i x hi rfl
      exact Or.inr ⟨nI (i + 1), rfl, step i hi (hno i hi)⟩
    · rintro x rfl k
      simp only [b_X5_strayIsHomeless_L2, m_X5_strayIsHomeless_L2]
      rw [hT.came, if_pos (nI_le (Nat.le_refl n) (by omega))]
theorem r_homeless (hk : OkN (h.1 1) n c) (c1 : Int32) : ((∃ i, i < n ∧ HoL (h.1 1) c i) → lpo (b_X7_mend_L15 h c1) fuelN (0 : Int32) = some (-1004, h)) ∧ ((∀ i, i < n → ¬ HoL (h.1 1) c i) → lpo (b_X7_mend_L15 h c1) fuelN (0 : Int32) = lpo (b_X7_mend_L63 c1) fuelN ((0 : Int32), h)) := by
  have hn := hk.1.2.1
  have ne : ¬ (1 : Int32) = 0 := by decide
  have step : ∀ i, i < n → ¬ HoL (h.1 1) c i → ∀ k, b_X7_mend_L15 h c1 k (nI i) = k (nI (i + 1)) := fun i hi hno k => by
    have hcond : ¬ h.1 1 (0 : Int32).toNatClampNeg ≤ nI i := by rw [ak0, hk.1.1, nI_leI (by omega) (by omega)]; omega
    have eb : ((5 : Int32) + nI i).toNatClampNeg = 5 + i := a5 (by omega)
    simp only [b_X7_mend_L15, m_X7_mend_L15]
    cases hb : stB (h.1 1) c i with
    | false => rw [if_pos vk0, if_neg hcond, bnd_e (r_stray hk hi), hb, if_neg Bool.false_ne_true, if_pos rfl, nI_1]
    | true =>
      obtain ⟨r, r1, r2⟩ := r_home hk (h.1 1 (5 + i))
      have hr : ¬ r = -1005 := fun e => hno ⟨st_iff.mp hb, by rw [← e]; exact r2⟩
      rw [if_pos vk0, if_neg hcond, bnd_e (r_stray hk hi), hb, if_pos rfl, if_neg ne, if_pos (v5 (by omega)), eb, bnd_e r1, if_neg hr, nI_1]
  constructor
  · rintro ⟨i0, hi0, hH⟩
    refine lpo_eq (fun i x => x = nI i ∧ ∀ j, j < i → ¬ HoL (h.1 1) c j) n (by omega) ⟨rfl, fun j hj => absurd hj (Nat.not_lt_zero j)⟩ ?_ ?_
    · rintro i x hi ⟨rfl, hno⟩
      by_cases hw : HoL (h.1 1) c i
      · left
        intro k
        have hcond : ¬ h.1 1 (0 : Int32).toNatClampNeg ≤ nI i := by rw [ak0, hk.1.1, nI_leI (by omega) (by omega)]; omega
        have eb : ((5 : Int32) + nI i).toNatClampNeg = 5 + i := a5 (by omega)
        obtain ⟨r, r1, r2⟩ := r_home hk (h.1 1 (5 + i))
        have hr : r = -1005 := homR_u hk r2 hw.2
        simp only [b_X7_mend_L15, m_X7_mend_L15]
        rw [if_pos vk0, if_neg hcond, bnd_e (r_stray hk hi), st_iff.mpr hw.1, if_pos rfl, if_neg ne, if_pos (v5 (by omega)), eb, bnd_e r1, if_pos hr]
      · right
        exact ⟨nI (i + 1), ⟨rfl, lt_up hno hw⟩, step i hi hw⟩
    · rintro x ⟨rfl, hno⟩ k
      exact absurd hH (hno i0 hi0)
  · intro hno
    obtain ⟨x, -, hx⟩ := lpo_fin (body := b_X7_mend_L15 h c1) (x0 := (0 : Int32)) (fun i x => x = nI i) n (fun _ => lpo (b_X7_mend_L63 c1) fuelN ((0 : Int32), h)) (by omega) rfl (fun i x hi hx => by
      subst hx
      exact ⟨nI (i + 1), rfl, step i hi (hno i hi)⟩) (fun x hx k => by
      subst hx
      simp only [b_X7_mend_L15, m_X7_mend_L15]
      rw [if_pos vk0, if_pos (by rw [ak0, hk.1.1]; exact nI_le (Nat.le_refl n) (by omega))])
    exact hx
/-- the class counts its rows -/
theorem c_load (hT : TB g 0 N n c m u) : ∃ G : MG, m_X6_straysFit g = lpo b_X6_straysFit_L61 fuelN ((0 : Int32), G) ∧ G.2 = g.2 ∧ (∀ k, k ≠ 7 → G.1 k = g.1 k) ∧ ∀ q, q < 62 → G.1 7 q = nI (cn (RP N (nI q)) n) := by
  have hn := hT.n4
  have hcl : ∃ G : MG, m_X0_clear g 7 62 = some G ∧ G.2 = g.2 ∧ (∀ k, k ≠ 7 → G.1 k = g.1 k) ∧ ∀ q, q < 62 → G.1 7 q = 0 := by
    unfold m_X0_clear
    refine lpo_P (fun i z => ∃ G : MG, z = (nI i, G) ∧ G.2 = g.2 ∧ (∀ k, k ≠ 7 → G.1 k = g.1 k) ∧ ∀ q, q < i → G.1 7 q = 0) 62 _ 0 (by omega) (by omega) ⟨g, rfl, rfl, fun _ _ => rfl, fun j hj => absurd hj (Nat.not_lt_zero j)⟩ ?_ ?_
    · rintro i z hi ⟨G, rfl, b1, b2, b3⟩
      right
      refine ⟨(nI (i + 1), g_w G 7 i 0), ⟨_, rfl, b1, fun k hk => by rw [gw_ne hk, b2 k hk], lt_up (fun j hj => by rw [gw_at, if_neg (by omega), b3 j hj]) (by rw [gw_at, if_pos rfl])⟩, fun k => ?_⟩
      simp only [b_X0_clear_L2, m_X0_clear_L2]
      rw [if_neg (by rw [nI_leI (by omega) (by omega)]; omega), if_pos (vin_nI hi (by omega)), nI_clamp (by omega), nI_1]
    · rintro z ⟨G, rfl, b1, b2, b3⟩ k
      refine ⟨G, ?_, b1, b2, b3⟩
      simp only [b_X0_clear_L2, m_X0_clear_L2]
      rw [if_pos (nI_le (Nat.le_refl 62) (by omega))]
  obtain ⟨G0, a1, a2, a3, a4⟩ := hcl
  unfold m_X6_straysFit
  rw [bnd_e a1]
  obtain ⟨x, ⟨G, rfl, b1, b2, b3⟩, b4⟩ := lpo_fin (body := b_X6_straysFit_L9) (x0 := ((0 : Int32), G0)) (fun i z => ∃ G : MG, z = (nI i, G) ∧ G.2 = g.2 ∧ (∀ k, k ≠ 7 → G.1 k = g.1 k) ∧ ∀ q, q < 62 → G.1 7 q = nI (cn (RP N (nI q)) i)) n (fun x => lpo b_X6_straysFit_L61 fuelN ((0 : Int32), x.2)) (by omega) ⟨G0, rfl, a2, a3, fun q hq => a4 q hq⟩ (fun i x hi hx => by
    obtain ⟨G, rfl, b1, b2, b3⟩ := hx
    have hTG : TB G 0 N n c m u := hT.cong (fun k h1 h2 => b2 k (by omega))
    have hcond : ¬ nI n ≤ nI i := by rw [nI_leI (by omega) (by omega)]; omega
    have hpl := hT.1.pl hi
    by_cases e : ∃ q, q < 62 ∧ N (805 + i) = nI q
    · obtain ⟨q, hq, e⟩ := e
      have hcn := cn_le (RP N (nI q)) i
      refine ⟨(nI (i + 1), g_w G 7 q (G.1 7 q + (1 : Int32))), ⟨_, rfl, b1, fun k hk => by rw [gw_ne hk, b2 k hk], fun q' hq' => ?_⟩, fun k => ?_⟩
      · rw [gw_at]
        by_cases e2 : q' = q
        · rw [if_pos e2, b3 q hq, e2, cn_s (rp_iff.mpr e), nI_1]
        · rw [if_neg e2, b3 q' hq', cn_n]
          rw [Bool.eq_false_iff]
          intro w
          have w' := rp_iff.mp w
          rw [e] at w'
          exact e2 ((nI_eq (by omega) (by omega)).mp w').symm
      · simp only [b_X6_straysFit_L9, m_X6_straysFit_L9]
        rw [hTG.came, if_neg hcond, bnd_e (c_place hTG hi), e, bnd_e (e_at hq (by omega)), bnd_e (e_wr hq (by omega)), nI_1]
    · have hm1 : N (805 + i) = -1 := by
        rcases hpl with z | z | z | ⟨q, hq, z, -⟩
        · exact z
        · exact absurd ⟨60, by omega, z⟩ e
        · exact absurd ⟨61, by omega, z⟩ e
        · have := hT.c6
          exact absurd ⟨q, by omega, z⟩ e
      have hneg : ((-1 : Int32)).toInt < 0 ∨ ((62 : Nat) : Int) ≤ ((-1 : Int32)).toInt := Or.inl (by decide)
      refine ⟨(nI (i + 1), G), ⟨_, rfl, b1, b2, fun q' hq' => ?_⟩, fun k => ?_⟩
      · rw [b3 q' hq', cn_n]
        rw [Bool.eq_false_iff]
        intro w
        exact e ⟨q', hq', rp_iff.mp w⟩
      · simp only [b_X6_straysFit_L9, m_X6_straysFit_L9]
        rw [hTG.came, if_neg hcond, bnd_e (c_place hTG hi), hm1, bnd_e (e_at_out (n := 62) (by omega) hneg), bnd_e (e_wr_out (n := 62) (by omega) hneg), nI_1]) (fun x hx k => by
    obtain ⟨G, rfl, b1, b2, b3⟩ := hx
    simp only [b_X6_straysFit_L9, m_X6_straysFit_L9]
    rw [b2 _ (by omega), hT.came, if_pos (nI_le (Nat.le_refl n) (by omega))])
  exact ⟨G, b4, b1, b2, b3⟩
theorem r_load (hk : OkN (h.1 1) n c) (c1 : Int32) : ∃ H : MG, lpo (b_X7_mend_L63 c1) fuelN ((0 : Int32), h) = lpo (b_X7_mend_L88 c1) fuelN ((0 : Int32), H) ∧ (∀ k, k ≠ 11 → H.1 k = h.1 k) ∧ ∀ q, q < 61 → H.1 11 q = nI (cn (RP (h.1 1) (nI q)) n) := by
  have hn := hk.1.2.1
  obtain ⟨x, ⟨H, rfl, b2, b3⟩, b4⟩ := lpo_fin (body := b_X7_mend_L63 c1) (x0 := ((0 : Int32), h)) (fun i z => ∃ H : MG, z = (nI i, H) ∧ (∀ k, k ≠ 11 → H.1 k = h.1 k) ∧ ∀ q, q < i → H.1 11 q = nI (cn (RP (h.1 1) (nI q)) n)) 61 (fun x => lpo (b_X7_mend_L88 c1) fuelN ((0 : Int32), x.2)) (by omega) ⟨h, rfl, fun _ _ => rfl, fun q hq => absurd hq (Nat.not_lt_zero q)⟩ (fun i x hi hx => by
    obtain ⟨H, rfl, b2, b3⟩ := hx
    have hkH : OkN (H.1 1) n c := by rw [b2 1 (by omega)]; exact hk
    refine ⟨(nI (i + 1), g_w H 11 i (nI (cn (RP (H.1 1) (nI i)) n))), ⟨_, rfl, fun k hk => by rw [gw_ne hk, b2 k hk], lt_up (fun j hj => by rw [gw_at, if_neg (by omega), b3 j hj]) (by rw [gw_at, if_pos rfl, b2 1 (by omega)])⟩, fun k => ?_⟩
    simp only [b_X7_mend_L63, m_X7_mend_L63]
    rw [if_neg (by rw [show (60 : Int32) = nI 60 from rfl, nI_ltI (by omega) (by omega)]; omega), bnd_e (r_rowsIn hkH _), if_pos (vin_nI hi (by omega)), nI_clamp (by omega), nI_1]) (fun x hx k => by
    obtain ⟨H, rfl, b2, b3⟩ := hx
    simp only [b_X7_mend_L63, m_X7_mend_L63]
    rw [if_pos (show (60 : Int32) < nI 61 by decide)])
  exact ⟨H, b4, b2, b3⟩
/-- do the strays fit; then they are moved -/
theorem both_fit (hT : TB g 0 (h.1 1) n c m u) (hR : Rel QP g h) (hno : ∀ i, i < n → ¬ HoL (h.1 1) c i) (c1 : Int32) {G0 H0 : MG} (a1 : G0.2 = g.2) (a2 : ∀ k, k ≠ 7 → G0.1 k = g.1 k) (a3 : ∀ k, k ≠ 11 → H0.1 k = h.1 k) (a4 : ∀ q, q < 61 → G0.1 7 q = H0.1 11 q) : ∃ x z, lpo b_X6_straysFit_L61 fuelN ((0 : Int32), G0) = some x ∧ lpo (b_X7_mend_L88 c1) fuelN ((0 : Int32), H0) = some z ∧ ((x.1 = 0 ∧ z.1 = -1003 ∧ Rel QP x.2 z.2) ∨ (x.1 = 1 ∧ ∃ g', (bnd (m_X1_record x.2 0) fun (g49 : MG) => bnd (m_X5_moveStrays g49 0) fun (g56 : MG) => some (c1, g56)) = some (c1, g') ∧ z.1 = c1 ∧ Rel QP g' z.2)) := by
  have hn := hT.n4
  have hc6 := hT.c6
  have ne : ¬ (1 : Int32) = 0 := by decide
  have hscr : ∀ G H : MG, G.2 = g.2 → (∀ k, k ≠ 7 → G.1 k = g.1 k) → (∀ k, k ≠ 11 → H.1 k = h.1 k) → Rel QP G H := fun G H b1 b2 b3 => scr_rel hR b1 (fun k hk => b2 k (by omega)) (fun j _ => by rw [b3 0 (by omega)]) (fun k _ _ => b3 k (by omega))
  refine lpo_two (fun i x y => ∃ G H : MG, x = (nI i, G) ∧ y = (nI i, H) ∧ G.2 = g.2 ∧ (∀ k, k ≠ 7 → G.1 k = g.1 k) ∧ (∀ k, k ≠ 11 → H.1 k = h.1 k) ∧ ∀ q, q < 61 → G.1 7 q = H.1 11 q) n _ (by omega) ⟨G0, H0, rfl, rfl, a1, a2, a3, a4⟩ ?_ ?_
  · rintro i x y hi ⟨G, H, rfl, rfl, b1, b2, b3, b4⟩
    have hTG : TB G 0 (H.1 1) n c m u := by
      rw [b3 1 (by omega)]
      exact hT.cong (fun k h1 h2 => b2 k (by omega))
    have hcond : ¬ nI n ≤ nI i := by rw [nI_leI (by omega) (by omega)]; omega
    have hcond2 : ¬ H.1 1 (0 : Int32).toNatClampNeg ≤ nI i := by rw [ak0, hTG.1.1.1]; exact hcond
    cases hb : stB (H.1 1) c i with
    | false =>
      right
      refine ⟨(nI (i + 1), G), (nI (i + 1), H), ⟨G, H, rfl, rfl, b1, b2, b3, b4⟩, fun k => ?_, fun k => ?_⟩
      · simp only [b_X6_straysFit_L61, m_X6_straysFit_L61]
        rw [hTG.came, if_neg hcond, bnd_e (c_stray hTG hi), hb, if_neg Bool.false_ne_true, if_pos rfl, nI_1]
      · simp only [b_X7_mend_L88, m_X7_mend_L88]
        rw [if_pos vk0, if_neg hcond2, bnd_e (r_stray hTG.1 hi), hb, if_neg Bool.false_ne_true, if_pos rfl, nI_1]
    | true =>
      have hst := st_iff.mp hb
      obtain ⟨r, r1, r2⟩ := c_home hTG (H.1 1 (5 + i))
      obtain ⟨r', r3, r4⟩ := r_home hTG.1 (H.1 1 (5 + i))
      obtain rfl := homR_u hTG.1 r2 r4
      have hr : ¬ r = -1005 := fun e => by
        rw [e] at r2
        rw [b3 1 (by omega)] at r2 hst
        exact hno i hi ⟨hst, r2⟩
      obtain ⟨p, hp, ep⟩ : ∃ p, p < 61 ∧ H.1 1 (805 + i) = nI p := by
        rcases hTG.1.pl hi with z | z | z | ⟨q, hq, z, -⟩
        · exact absurd z hst.1
        · exact ⟨60, by omega, z⟩
        · exact absurd z hst.2.1
        · exact ⟨q, by omega, z⟩
      obtain ⟨o, ho, eo⟩ : ∃ o, o < 61 ∧ r = nI o := by
        rcases hom_pl r2 hr with z | z | z | ⟨q, hq, z, -⟩
        · exfalso
          rcases r2 with ⟨q, hq, w⟩ | ⟨-, ⟨-, w⟩ | ⟨-, w⟩⟩
          · have h1 := hq.1
            have h2 := nI_toInt (n := q) (by omega)
            rw [← w, z] at h2
            have h3 : ((-1 : Int32)).toInt = -1 := by decide
            omega
          · rw [z] at w; exact absurd w (by decide)
          · exact hr w
        · exact ⟨60, by omega, z⟩
        · exact absurd z (hom_61 hTG.1 r2)
        · exact ⟨q, by omega, z⟩
      subst eo
      have hpo : p ≠ o := fun e => hst.2.2 (by rw [ep, e]; exact r2)
      have ea : ((805 : Int32) + nI i).toNatClampNeg = 805 + i := a805 (by omega)
      have eb : ((5 : Int32) + nI i).toNatClampNeg = 5 + i := a5 (by omega)
      have eo : (nI o).toNatClampNeg = o := nI_clamp (by omega)
      have epp : (nI p).toNatClampNeg = p := nI_clamp (by omega)
      have vo : vin (nI o) 61 := vin_nI ho (by omega)
      have vp : vin (nI p) 61 := vin_nI hp (by omega)
      by_cases e30 : G.1 7 o < (30 : Int32)
      · right
        have q1 : (g_w H 11 o (H.1 11 o + (1 : Int32))).1 1 (805 + i) = nI p := by rw [gw_ne (by omega), ep]
        have q2 : (g_w H 11 o (H.1 11 o + (1 : Int32))).1 11 p = H.1 11 p := by rw [gw_at, if_neg hpo]
        have q3 : (g_w G 7 p (G.1 7 p - (1 : Int32))).1 7 o = G.1 7 o := by rw [gw_at, if_neg (Ne.symm hpo)]
        refine ⟨(nI (i + 1), g_w (g_w G 7 p (G.1 7 p - (1 : Int32))) 7 o (G.1 7 o + (1 : Int32))), (nI (i + 1), g_w (g_w H 11 o (H.1 11 o + (1 : Int32))) 11 p (H.1 11 p - (1 : Int32))), ⟨_, _, rfl, rfl, b1, fun k hk => by rw [gw_ne hk, gw_ne hk, b2 k hk], fun k hk => by rw [gw_ne hk, gw_ne hk, b3 k hk], fun q hq => ?_⟩, fun k => ?_, fun k => ?_⟩
        · rw [gw_at, gw_at, gw_at, gw_at, b4 o ho, b4 p hp, b4 q hq]
          by_cases w1 : q = o
          · rw [if_pos w1, if_neg (by omega), if_pos w1]
          · rw [if_neg w1, if_neg w1]
        · simp only [b_X6_straysFit_L61, m_X6_straysFit_L61]
          rw [hTG.came, if_neg hcond, bnd_e (c_stray hTG hi), hb, if_pos rfl, if_neg ne, bnd_e (c_place hTG hi), bnd_e (c_key hTG hi), bnd_e r1, bnd_e (e_at (by omega) (by omega)), if_pos e30, ep, bnd_e (e_at (by omega) (by omega)), bnd_e (e_wr (by omega) (by omega)), bnd_e (e_at (by omega) (by omega)), bnd_e (e_wr (by omega) (by omega)), q3, nI_1]
        · simp only [b_X7_mend_L88, m_X7_mend_L88]
          rw [if_pos vk0, if_neg hcond2, bnd_e (r_stray hTG.1 hi), hb, if_pos rfl, if_neg ne, if_pos (v5 (by omega)), eb, bnd_e r3, if_pos vo, if_pos (show H.1 11 (nI o).toNatClampNeg < (30 : Int32) by rw [eo, ← b4 o ho]; exact e30), if_pos vo, if_pos vo, if_pos (v805 (by omega)), eo, ea, q1, if_pos vp, if_pos vp, epp, q2, nI_1]
      · left
        intro k1 k2
        refine ⟨(0, G), (-1003, H), ?_, ?_, Or.inl ⟨rfl, rfl, hscr G H b1 b2 b3⟩⟩
        · simp only [b_X6_straysFit_L61, m_X6_straysFit_L61]
          rw [hTG.came, if_neg hcond, bnd_e (c_stray hTG hi), hb, if_pos rfl, if_neg ne, bnd_e (c_place hTG hi), bnd_e (c_key hTG hi), bnd_e r1, bnd_e (e_at (by omega) (by omega)), if_neg e30]
        · simp only [b_X7_mend_L88, m_X7_mend_L88]
          rw [if_pos vk0, if_neg hcond2, bnd_e (r_stray hTG.1 hi), hb, if_pos rfl, if_neg ne, if_pos (v5 (by omega)), eb, bnd_e r3, if_pos vo, if_neg (show ¬ H.1 11 (nI o).toNatClampNeg < (30 : Int32) by rw [eo, ← b4 o ho]; exact e30)]
  · rintro x y ⟨G, H, rfl, rfl, b1, b2, b3, b4⟩ k1 k2
    have hTG : TB G 0 (H.1 1) n c m u := by
      rw [b3 1 (by omega)]
      exact hT.cong (fun k h1 h2 => b2 k (by omega))
    obtain ⟨g1, h1, r1, r2, hT1, hf, hf2, hH1, hend⟩ := act_rel hTG (hscr G H b1 b2 b3)
    obtain ⟨G2, z, d1, d2, d3, d4, d5, d6, d7⟩ := both_moveStrays hT1 (by rw [hf2, b3 1 (by omega)]; exact hno) c1
    refine ⟨(1, G), z, ?_, ?_, Or.inr ⟨rfl, G2, ?_, d3, hend G2 z.2 d4 (fun k hk => d5 k (by omega)) d6 ⟨_, _, _, _, d7⟩⟩⟩
    · simp only [b_X6_straysFit_L61, m_X6_straysFit_L61]
      rw [hTG.came, if_pos (nI_le (Nat.le_refl n) (by omega))]
    · simp only [b_X7_mend_L88, m_X7_mend_L88]
      rw [if_pos vk0, if_pos (by rw [ak0, hTG.1.1.1]; exact nI_le (Nat.le_refl n) (by omega)), bnd_e r2, d2]
    · rw [bnd_e r1, bnd_e d1]
theorem s_mend (hR : Rel QP g h) : ∃ r g' h', m_X6_mend g = some (r, g') ∧ m_X7_mend h = some (r, h') ∧ Rel QP g' h' := by
  obtain ⟨⟨n, c, m, u, hT⟩, hH, hQ⟩ := id hR
  have ne : ¬ (1 : Int32) = 0 := by decide
  unfold m_X6_mend m_X7_mend
  rw [bnd_e (c_strays hT), bnd_e (r_strays hT.1)]
  generalize nI (cn (stB (h.1 1) c) n) = c1
  by_cases e0 : c1 = 0
  · rw [if_pos e0, if_pos e0]
    exact ⟨_, _, _, rfl, rfl, hR⟩
  · rw [if_neg e0, if_neg e0]
    obtain ⟨q1, q2⟩ := r_homeless hT.1 c1
    rcases c_homeless hT with ⟨w, e1⟩ | ⟨w, e1⟩
    · rw [bnd_e e1, if_neg ne, q1 w]
      exact ⟨_, _, _, rfl, rfl, hR⟩
    · obtain ⟨G, d1, d2, d3, d4⟩ := c_load hT
      obtain ⟨H, f1, f2, f3⟩ := r_load hT.1 c1
      obtain ⟨x, z, k1, k2, k3⟩ := both_fit hT hR w c1 d2 d3 f2 (fun q hq => (d4 q (by omega)).trans (f3 q hq).symm)
      rw [bnd_e e1, if_pos (show (0 : Int32) = 0 from rfl), d1, q2 w, f1, k2]
      obtain ⟨x1, x2⟩ := x
      obtain ⟨z1, z2⟩ := z
      rw [bnd2_e k1]
      rcases k3 with ⟨y1, y2, y3⟩ | ⟨y1, g', y2, y3, y4⟩
      · simp only at y1 y2 y3
        subst y1
        subst y2
        rw [if_pos rfl]
        exact ⟨_, _, _, rfl, rfl, y3⟩
      · simp only at y1 y2 y3 y4
        subst y1
        subst y3
        rw [if_neg ne]
        exact ⟨_, _, _, y2, rfl, y4⟩
end
