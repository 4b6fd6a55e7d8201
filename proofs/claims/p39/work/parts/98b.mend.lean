/-! mend -/
noncomputable def hmF (N : Nat → Int32) (c : Nat) (k : Int32) : Int32 := @dite Int32 (∃ r, HomR N c k r) (Classical.propDecidable _) (fun h => h.choose) (fun _ => 0)
noncomputable def mdK (N : Nat → Int32) (c K : Nat) : Nat → Int32 := fun i => if 805 ≤ i ∧ i < 805 + K then (if stB N c (i - 805) = true then hmF N c (N (5 + (i - 805))) else N i) else N i
noncomputable def fitA (N : Nat → Int32) (c : Nat) : Nat → Nat → (Nat → Int32) → Bool
  | 0, _, _ => true
  | d + 1, i, L => if stB N c i = true then (if L (hmF N c (N (5 + i))).toNatClampNeg < 30 then fitA N c d (i + 1) (upd (upd L (N (805 + i)).toNatClampNeg (L (N (805 + i)).toNatClampNeg - 1)) (hmF N c (N (5 + i))).toNatClampNeg (L (hmF N c (N (5 + i))).toNatClampNeg + 1)) else false) else fitA N c d (i + 1) L
theorem fit_f {N : Nat → Int32} {c d i : Nat} {L : Nat → Int32} (hb : stB N c i = false) : fitA N c (d + 1) i L = fitA N c d (i + 1) L := by
  show (if stB N c i = true then _ else _) = _
  rw [hb, if_neg Bool.false_ne_true]
section
variable {g g' g1 G : MG} {N N' : Nat → Int32} {n c m n' c' m' : Nat} {u u' : Nat → Nat}
theorem hmF_sp (h2 : N 2 = 0 ∨ N 2 = 1) (k : Int32) : HomR N c k (hmF N c k) := by
  have h := hom_ex N c h2 k
  unfold hmF
  rw [dif_pos h]
  exact h.choose_spec
theorem hmF_e (hk : OkN N n c) {k r : Int32} (h : HomR N c k r) : hmF N c k = r := homR_u hk (hmF_sp hk.2.1.1 k) h
theorem md_in {K i : Nat} (h : i < K) : mdK N c K (805 + i) = if stB N c i = true then hmF N c (N (5 + i)) else N (805 + i) := by
  unfold mdK
  rw [if_pos (by omega), show 805 + i - 805 = i by omega]
theorem md_out {K i : Nat} (h : i < 805 ∨ 805 + K ≤ i) : mdK N c K i = N i := by
  unfold mdK
  rw [if_neg (by omega)]
theorem md_s {K : Nat} : mdK N c (K + 1) = if stB N c K = true then w1 (mdK N c K) (805 + K) (hmF N c (N (5 + K))) else mdK N c K := by
  funext i
  by_cases e : i = 805 + K
  · subst e
    rw [md_in (Nat.lt_succ_self K)]
    by_cases hs : stB N c K = true
    · rw [if_pos hs, if_pos hs, w1_eq]
    · rw [if_neg hs, if_neg hs, md_out (by omega)]
  · have h1 : mdK N c (K + 1) i = mdK N c K i := by
      unfold mdK
      by_cases h : 805 ≤ i ∧ i < 805 + K
      · rw [if_pos (by omega), if_pos h]
      · rw [if_neg (by omega), if_neg h]
    rw [h1]
    split
    · rw [w1_ne e]
    · rfl
theorem md_hom (hk : OkN N n c) {K : Nat} (hK : K ≤ 400) {k r : Int32} : HomR (mdK N c K) c k r ↔ HomR N c k r := hom_cong hk.1.2.2.2 (md_out (by omega)) (fun i hi => md_out (by omega))
theorem md_st (hk : OkN N n c) {K i : Nat} (hK : K ≤ 400) (hi : K ≤ i) (hi4 : i < 400) : stB (mdK N c K) c i = stB N c i := by
  rw [Bool.eq_iff_iff, st_iff, st_iff]
  exact st_cong hk.1.2.2.2 (md_out (by omega)) (fun j hj => md_out (by omega)) (md_out (by omega)) (md_out (by omega))
theorem md_ok (hT : TB g 0 N n c m u) (hno : ∀ i, i < n → ¬ HoL N c i) : ∃ G, m_X5_moveStrays g 0 = some G ∧ G.2 = g.2 ∧ (∀ k, k ≠ 28 → G.1 k = g.1 k) ∧ TB G 0 (mdK N c n) n c m u := by
  have hn := hT.n4
  have ne : ¬ (1 : Int32) = 0 := by decide
  unfold m_X5_moveStrays
  refine lpo_P (fun i z => ∃ G : MG, z = (nI i, G) ∧ G.2 = g.2 ∧ (∀ k, k ≠ 28 → G.1 k = g.1 k) ∧ TB G 0 (mdK N c i) n c m u) n _ 0 (Nat.zero_le n) (by omega) ⟨g, rfl, rfl, fun _ _ => rfl, ?_⟩ ?_ ?_
  · have e : mdK N c 0 = N := funext (fun i => md_out (by omega))
    rw [e]
    exact hT
  · rintro i z hi ⟨G, rfl, b1, b2, b3⟩
    right
    have hcond : ¬ nI n ≤ nI i := by rw [nI_leI (by omega) (by omega)]; omega
    have hsti := md_st hT.1 (K := i) (by omega) (Nat.le_refl i) (by omega)
    cases hb : stB N c i with
    | false =>
      refine ⟨(nI (i + 1), G), ⟨G, rfl, b1, b2, by rw [md_s, hb, if_neg Bool.false_ne_true]; exact b3⟩, fun k => ?_⟩
      simp only [b_X5_moveStrays_L2, m_X5_moveStrays_L2]
      rw [b3.came, if_neg hcond, bnd_e (c_stray b3 hi), hsti, hb, if_neg Bool.false_ne_true, if_pos rfl, nI_1]
    | true =>
      have hr := hmF_sp (c := c) hT.1.2.1.1 (N (5 + i))
      have hst := st_iff.mp hb
      have hr5 : ¬ hmF N c (N (5 + i)) = -1005 := fun e => hno i hi ⟨hst, by rw [e] at hr; exact hr⟩
      have hkey : mdK N c i (5 + i) = N (5 + i) := md_out (by omega)
      have hT2 := tb_set b3 hi (q := hmF N c (N (5 + i))) (hom_pl ((md_hom hT.1 (by omega)).mpr hr) hr5) (Or.inl (hom_61 hT.1 hr))
      refine ⟨(nI (i + 1), g_w G 28 i (hmF N c (N (5 + i)))), ⟨_, rfl, b1, fun k hk => by rw [gw_ne hk, b2 k hk], by rw [md_s, hb, if_pos rfl]; exact hT2⟩, fun k => ?_⟩
      simp only [b_X5_moveStrays_L2, m_X5_moveStrays_L2]
      rw [b3.came, if_neg hcond, bnd_e (c_stray b3 hi), hsti, hb, if_pos rfl, if_neg ne, bnd_e (c_key b3 hi), hkey, bnd_e (home_e b3 ((md_hom hT.1 (by omega)).mpr hr)), bnd_e (w_move (t := 0) (by omega) _), nI_1]
  · rintro z ⟨G, rfl, b1, b2, b3⟩ k
    refine ⟨G, ?_, b1, b2, b3⟩
    simp only [b_X5_moveStrays_L2, m_X5_moveStrays_L2]
    rw [b3.came, if_pos (nI_le (Nat.le_refl n) (by omega))]
noncomputable def fitB (N : Nat → Int32) (n c : Nat) : Bool := fitA N c n 0 (fun q => nI (cn (RP N (nI q)) n))
theorem fit_ok (hT : TB g 0 N n c m u) (hno : ∀ i, i < n → ¬ HoL N c i) : ∃ G, m_X6_straysFit g = some (if fitB N n c = true then 1 else 0, G) ∧ Un g G := by
  have hn := hT.n4
  have hc6 := hT.c6
  have ne : ¬ (1 : Int32) = 0 := by decide
  obtain ⟨G0, d1, d2, d3, d4⟩ := c_load hT
  rw [d1]
  have key : ∃ r, lpo b_X6_straysFit_L61 fuelN ((0 : Int32), G0) = some r ∧ r.1 = (if fitB N n c = true then 1 else 0) ∧ Un g r.2 := by
    refine lpo_P (fun i z => ∃ (G : MG) (L : Nat → Int32), z = (nI i, G) ∧ Un g G ∧ (∀ q, q < 62 → G.1 7 q = L q) ∧ fitA N c (n - i) i L = fitB N n c) n _ 0 (Nat.zero_le n) (by omega) ⟨G0, _, rfl, ⟨d2, d3⟩, d4, rfl⟩ ?_ ?_
    · rintro i z hi ⟨G, L, rfl, b1, b2, b3⟩
      have hTG := b1.T hT
      have hcond : ¬ nI n ≤ nI i := by rw [nI_leI (by omega) (by omega)]; omega
      obtain ⟨d, hd⟩ : ∃ d, n - i = d + 1 := ⟨n - i - 1, by omega⟩
      have hd' : n - (i + 1) = d := by omega
      rw [hd] at b3
      cases hb : stB N c i with
      | false =>
        right
        refine ⟨(nI (i + 1), G), ⟨G, L, rfl, b1, b2, ?_⟩, fun k => ?_⟩
        · rw [hd', ← b3]
          exact (fit_f hb).symm
        · simp only [b_X6_straysFit_L61, m_X6_straysFit_L61]
          rw [hTG.came, if_neg hcond, bnd_e (c_stray hTG hi), hb, if_neg Bool.false_ne_true, if_pos rfl, nI_1]
      | true =>
        have hst := st_iff.mp hb
        have hr := hmF_sp (c := c) hT.1.2.1.1 (N (5 + i))
        have hr5 : ¬ hmF N c (N (5 + i)) = -1005 := fun e => hno i hi ⟨hst, by rw [e] at hr; exact hr⟩
        obtain ⟨p, hp, ep⟩ : ∃ p, p < 61 ∧ N (805 + i) = nI p := by
          rcases hT.1.pl hi with z | z | z | ⟨q, hq, z, -⟩
          · exact absurd z hst.1
          · exact ⟨60, by omega, z⟩
          · exact absurd z hst.2.1
          · exact ⟨q, by omega, z⟩
        obtain ⟨o, ho, eo⟩ : ∃ o, o < 61 ∧ hmF N c (N (5 + i)) = nI o := by
          rcases hr with ⟨q, hq, e⟩ | ⟨-, ⟨-, e⟩ | ⟨-, e⟩⟩
          · exact ⟨q, by have := hq.1; omega, e⟩
          · exact ⟨60, by omega, e⟩
          · exact absurd e hr5
        have hpo : p ≠ o := fun e => hst.2.2 (by rw [ep, e, ← eo]; exact hr)
        have eo' : (nI o).toNatClampNeg = o := nI_clamp (by omega)
        have ep' : (nI p).toNatClampNeg = p := nI_clamp (by omega)
        unfold fitA at b3
        rw [hb, if_pos rfl, eo, ep, eo', ep'] at b3
        by_cases e30 : L o < 30
        · right
          rw [if_pos e30] at b3
          have q3 : (g_w G 7 p (G.1 7 p - (1 : Int32))).1 7 o = G.1 7 o := by rw [gw_at, if_neg (Ne.symm hpo)]
          refine ⟨(nI (i + 1), g_w (g_w G 7 p (G.1 7 p - (1 : Int32))) 7 o (G.1 7 o + (1 : Int32))), ⟨_, _, rfl, ⟨b1.1, fun k hk => by rw [gw_ne hk, gw_ne hk, b1.2 k hk]⟩, fun q hq => ?_, by rw [hd']; exact b3⟩, fun k => ?_⟩
          · rw [gw_at, gw_at, b2 o (by omega), b2 p (by omega), b2 q hq]
            rfl
          · simp only [b_X6_straysFit_L61, m_X6_straysFit_L61]
            rw [hTG.came, if_neg hcond, bnd_e (c_stray hTG hi), hb, if_pos rfl, if_neg ne, bnd_e (c_place hTG hi), bnd_e (c_key hTG hi), bnd_e (home_e hTG hr), eo, bnd_e (e_at (by omega) (by omega)), b2 o (by omega), if_pos e30, ep, bnd_e (e_at (by omega) (by omega)), bnd_e (e_wr (by omega) (by omega)), bnd_e (e_at (by omega) (by omega)), bnd_e (e_wr (by omega) (by omega)), q3, b2 o (by omega), nI_1]
        · left
          rw [if_neg e30] at b3
          intro k
          refine ⟨(0, G), ?_, ?_, b1⟩
          · simp only [b_X6_straysFit_L61, m_X6_straysFit_L61]
            rw [hTG.came, if_neg hcond, bnd_e (c_stray hTG hi), hb, if_pos rfl, if_neg ne, bnd_e (c_place hTG hi), bnd_e (c_key hTG hi), bnd_e (home_e hTG hr), eo, bnd_e (e_at (by omega) (by omega)), b2 o (by omega), if_neg e30]
          · rw [← b3, if_neg Bool.false_ne_true]
    · rintro z ⟨G, L, rfl, b1, b2, b3⟩ k
      have hTG := b1.T hT
      rw [Nat.sub_self] at b3
      refine ⟨(1, G), ?_, ?_, b1⟩
      · simp only [b_X6_straysFit_L61, m_X6_straysFit_L61]
        rw [hTG.came, if_pos (nI_le (Nat.le_refl n) (by omega))]
      · rw [← b3]
        rfl
  obtain ⟨⟨r1, r2⟩, k1, k2, k3⟩ := key
  simp only at k2 k3
  subst k2
  exact ⟨r2, k1, k3⟩
theorem md_none (hk : OkN N n c) (hno : ∀ i, i < n → ¬ HoL N c i) : cn (stB (mdK N c n) c) n = 0 := cn_0 (fun i hi => by
  have hn := hk.1.2.1
  rw [Bool.eq_false_iff]
  intro h
  obtain ⟨h1, h2, h3⟩ := st_iff.mp h
  rw [md_in hi] at h1 h2 h3
  rw [md_out (by omega)] at h3
  have h3' : ¬ HomR N c (N (5 + i)) (if stB N c i = true then hmF N c (N (5 + i)) else N (805 + i)) := fun w => h3 ((md_hom hk hn).mpr w)
  cases hb : stB N c i with
  | true =>
    rw [hb, if_pos rfl] at h3'
    exact h3' (hmF_sp hk.2.1.1 _)
  | false =>
    rw [hb, if_neg Bool.false_ne_true] at h1 h2 h3'
    have : stB N c i = true := st_iff.mpr ⟨h1, h2, h3'⟩
    rw [hb] at this
    exact absurd this Bool.false_ne_true)
theorem dfo_md (hk : OkN N n c) (hD : DfO N n c) : DfO (mdK N c n) n c := by
  have hn := hk.1.2.1
  refine dfo_rows hD hk.1.2.2.2 (fun i hi => md_out (by omega)) (fun i hi hp => ?_)
  rw [md_in hi] at hp
  rw [md_out (i := 5 + i) (by omega)]
  cases hb : stB N c i with
  | true =>
    rw [hb, if_pos rfl] at hp
    right
    rw [← hp]
    exact hmF_sp hk.2.1.1 _
  | false =>
    rw [hb, if_neg Bool.false_ne_true] at hp
    exact Or.inl ⟨hi, hp, rfl⟩
theorem cn_up {p q : Nat → Bool} {i : Nat} (hi : i < n) (hpi : p i = false) (hqi : q i = true) (h : ∀ j, j ≠ i → q j = p j) : cn q n = cn p n + 1 := cn_ins hi (fun j _ => by
  by_cases e : j = i
  · subst e
    exact ⟨fun _ => Or.inr rfl, fun _ => hqi⟩
  · rw [h j e]
    exact ⟨Or.inl, fun w => w.elim id (fun w => absurd w e)⟩) hpi
theorem p30_fit (hk : OkN N n c) (hno : ∀ i, i < n → ¬ HoL N c i) : ∀ (d i : Nat) (L : Nat → Int32), i + d = n → fitA N c d i L = true → (∀ q, q < 62 → L q = nI (cn (RP (mdK N c i) (nI q)) n)) → P30 (mdK N c i) n → P30 (mdK N c n) n
  | 0, i, L, hd, _, _, h => by
    have : i = n := by omega
    subst this
    exact h
  | d + 1, i, L, hd, hf, hL, h => by
    have hn := hk.1.2.1
    have hc6 := hk.1.2.2.2
    have hi : i < n := by omega
    cases hb : stB N c i with
    | false =>
      rw [fit_f hb] at hf
      have e : mdK N c (i + 1) = mdK N c i := by rw [md_s, hb, if_neg Bool.false_ne_true]
      exact p30_fit hk hno d (i + 1) L (by omega) hf (by rw [e]; exact hL) (by rw [e]; exact h)
    | true =>
      have hst := st_iff.mp hb
      have hr := hmF_sp (c := c) hk.2.1.1 (N (5 + i))
      have hr5 : ¬ hmF N c (N (5 + i)) = -1005 := fun e => hno i hi ⟨hst, by rw [e] at hr; exact hr⟩
      obtain ⟨p, hp, ep⟩ : ∃ p, p < 61 ∧ N (805 + i) = nI p := by
        rcases hk.pl hi with z | z | z | ⟨q, hq, z, -⟩
        · exact absurd z hst.1
        · exact ⟨60, by omega, z⟩
        · exact absurd z hst.2.1
        · exact ⟨q, by omega, z⟩
      obtain ⟨o, ho, eo⟩ : ∃ o, o < 61 ∧ hmF N c (N (5 + i)) = nI o := by
        rcases hr with ⟨q, hq, e⟩ | ⟨-, ⟨-, e⟩ | ⟨-, e⟩⟩
        · exact ⟨q, by have := hq.1; omega, e⟩
        · exact ⟨60, by omega, e⟩
        · exact absurd e hr5
      have hpo : p ≠ o := fun e => hst.2.2 (by rw [ep, e, ← eo]; exact hr)
      have eo' : (nI o).toNatClampNeg = o := nI_clamp (by omega)
      have ep' : (nI p).toNatClampNeg = p := nI_clamp (by omega)
      unfold fitA at hf
      rw [hb, if_pos rfl, eo, ep, eo', ep'] at hf
      by_cases e30 : L o < 30
      · rw [if_pos e30] at hf
        have e : mdK N c (i + 1) = w1 (mdK N c i) (805 + i) (nI o) := by rw [md_s, hb, if_pos rfl, eo]
        have hcur : mdK N c i (805 + i) = nI p := by rw [md_out (by omega), ep]
        have hother : ∀ z j, j ≠ i → RP (mdK N c (i + 1)) z j = RP (mdK N c i) z j := fun z j hj => by
          unfold RP
          rw [e, w1_ne (by omega)]
        have hnew : mdK N c (i + 1) (805 + i) = nI o := by rw [e, w1_eq]
        have hco : cn (RP (mdK N c (i + 1)) (nI o)) n = cn (RP (mdK N c i) (nI o)) n + 1 := cn_up hi (rp_f (by rw [hcur, nI_eq (by omega) (by omega)]; exact hpo)) (rp_iff.mpr hnew) (fun j hj => hother _ j hj)
        have hcp : cn (RP (mdK N c i) (nI p)) n = cn (RP (mdK N c (i + 1)) (nI p)) n + 1 := cn_up hi (rp_f (by rw [hnew, nI_eq (by omega) (by omega)]; exact fun w => hpo w.symm)) (rp_iff.mpr hcur) (fun j hj => (hother _ j hj).symm)
        have hcq : ∀ q, q < 62 → q ≠ o → q ≠ p → cn (RP (mdK N c (i + 1)) (nI q)) n = cn (RP (mdK N c i) (nI q)) n := fun q hq h1 h2 => cn_congr (fun j hj => by
          by_cases ej : j = i
          · subst ej
            rw [rp_f (by rw [hnew, nI_eq (by omega) (by omega)]; exact fun w => h1 w.symm), rp_f (by rw [hcur, nI_eq (by omega) (by omega)]; exact fun w => h2 w.symm)]
          · exact hother _ j ej)
        have hLo := hL o (by omega)
        have hbo := cn_le (RP (mdK N c i) (nI o)) n
        have hlt : cn (RP (mdK N c i) (nI o)) n < 30 := by
          rw [hLo] at e30
          exact (t30 (by omega)).mp e30
        refine p30_fit hk hno d (i + 1) _ (by omega) hf (fun q hq => ?_) (fun q hq => ?_)
        · unfold upd
          by_cases h1 : q = o
          · subst h1
            rw [if_pos rfl, hL q hq, hco, nI_1]
          · rw [if_neg h1]
            by_cases h2 : q = p
            · subst h2
              rw [if_pos rfl, hL q hq, hcp, nI_pred]
            · rw [if_neg h2, hL q hq, hcq q hq h1 h2]
        · by_cases h1 : q = o
          · subst h1
            rw [hco]
            omega
          · by_cases h2 : q = p
            · subst h2
              have := h q hq
              omega
            · rw [hcq q hq h1 h2]
              exact h q hq
      · rw [if_neg e30] at hf
        exact absurd hf Bool.false_ne_true
theorem p30_md (hk : OkN N n c) (h : P30 N n) (hno : ∀ i, i < n → ¬ HoL N c i) (hf : fitB N n c = true) : P30 (mdK N c n) n := by
  have e : mdK N c 0 = N := funext (fun i => md_out (by omega))
  exact p30_fit hk hno n 0 _ (by omega) hf (fun q hq => by rw [e]) (by rw [e]; exact h)
/-- mend: refused, or no strays are left -/
theorem k_mend (hk : OkN N n c) (hG : Gd N n c) : (∃ r, r < 0 ∧ ∀ g m u, TB g 0 N n c m u → HO g → ∃ g', m_X6_mend g = some (r, g') ∧ Un g g') ∨ ∃ r N' n' c', ¬ r < 0 ∧ Gd N' n' c' ∧ cn (stB N' c') n' = 0 ∧ ∀ g m u, TB g 0 N n c m u → HO g → ∃ g', m_X6_mend g = some (r, g') ∧ Dn g N n c g' N' n' c' := by
  obtain ⟨hD, hP30⟩ := hG
  have ne : ¬ (1 : Int32) = 0 := by decide
  have hn := hk.1.2.1
  have hcn := cn_le (stB N c) n
  by_cases e1 : cn (stB N c) n = 0
  · refine Or.inl ⟨-1005, by decide, fun g m u hT _ => ⟨g, ?_, Un.rf⟩⟩
    unfold m_X6_mend
    rw [bnd_e (c_strays hT), if_pos (by rw [e1]; rfl)]
  · by_cases e2 : ∃ i, i < n ∧ HoL N c i
    · refine Or.inl ⟨-1004, by decide, fun g m u hT _ => ⟨g, ?_, Un.rf⟩⟩
      unfold m_X6_mend
      rcases c_homeless hT with ⟨-, w⟩ | ⟨w, -⟩
      · rw [bnd_e (c_strays hT), if_neg (nI_ne0 (by omega) (by omega)), bnd_e w, if_neg ne]
      · obtain ⟨i, hi, hh⟩ := e2
        exact absurd hh (w i hi)
    · have hno : ∀ i, i < n → ¬ HoL N c i := fun i hi hw => e2 ⟨i, hi, hw⟩
      have hpre : ∀ g m u, TB g 0 N n c m u → m_X5_strayIsHomeless g 0 = some 0 := fun g m u hT => by
        rcases c_homeless hT with ⟨w, -⟩ | ⟨-, w⟩
        · exact absurd w e2
        · exact w
      cases e3 : fitB N n c with
      | false =>
        refine Or.inl ⟨-1003, by decide, fun g m u hT _ => ?_⟩
        obtain ⟨G, f1, f2⟩ := fit_ok hT hno
        rw [e3, if_neg Bool.false_ne_true] at f1
        refine ⟨G, ?_, f2⟩
        unfold m_X6_mend
        rw [bnd_e (c_strays hT), if_neg (nI_ne0 (by omega) (by omega)), bnd_e (hpre g m u hT), if_pos rfl, bnd2_e f1, if_pos rfl]
      | true =>
        refine Or.inr ⟨nI (cn (stB N c) n), mdK N c n, n, c, nI_pos (by omega), ⟨dfo_md hk hD, p30_md hk hP30 hno e3⟩, md_none hk hno, fun g m u hT hH => ?_⟩
        obtain ⟨G, f1, f2⟩ := fit_ok hT hno
        rw [e3, if_pos rfl] at f1
        obtain ⟨g1, r1, r2, -⟩ := rec_u (f2.T hT) (f2.H hH)
        obtain ⟨G2, d1, d2, d3, d4⟩ := md_ok r2 hno
        refine ⟨G2, ?_, did hT hH f2 r1 d2 (fun x hx => d3 x (by omega)) d4⟩
        unfold m_X6_mend
        rw [bnd_e (c_strays hT), if_neg (nI_ne0 (by omega) (by omega)), bnd_e (hpre g m u hT), if_pos rfl, bnd2_e f1, if_neg ne, bnd_e r1, bnd_e d1]
theorem e_mend (hk : OkN N n c) (hG : Gd N n c) : ActX (fun g => m_X6_mend g) N n c := by
  rcases k_mend hk hG with h | ⟨r, N', n', c', h1, h2, -, h3⟩
  · exact Or.inl h
  · exact Or.inr ⟨r, N', n', c', h1, h2, h3⟩
end
