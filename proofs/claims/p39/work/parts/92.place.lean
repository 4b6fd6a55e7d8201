/-! the rows of a place, one behind the other -/
theorem cn_inj {f : Nat → Nat} {n : Nat} : ∀ (K : Nat) (p : Nat → Bool), (∀ i, i < n → p i = true → f i < K) → (∀ i j, i < n → j < n → p i = true → p j = true → f i = f j → i = j) → cn p n ≤ K
  | 0, p, h, _ => by
    rw [cn_0 (fun i hi => by
      rw [Bool.eq_false_iff]
      intro hp
      exact absurd (h i hi hp) (Nat.not_lt_zero _))]
    exact Nat.le_refl 0
  | K + 1, p, h, hj => by
    by_cases e : ∃ i0, i0 < n ∧ p i0 = true ∧ f i0 = K
    · obtain ⟨i0, h0, hp0, hf0⟩ := e
      have hq : ∀ j, (p j && !decide (j = i0)) = true ↔ p j = true ∧ ¬ j = i0 := fun j => by
        simp only [Bool.and_eq_true, Bool.not_eq_true', decide_eq_false_iff_not]
      have h1 := cn_inj K (fun j => p j && !decide (j = i0)) (fun i hi hp => by
        obtain ⟨a, b⟩ := (hq i).mp hp
        have h2 := h i hi a
        have h3 : ¬ f i = K := fun e => b (hj i i0 hi h0 a hp0 (e.trans hf0.symm))
        omega) (fun i j hi hj' a b e => hj i j hi hj' ((hq i).mp a).1 ((hq j).mp b).1 e)
      have h2 : cn p n = cn (fun j => p j && !decide (j = i0)) n + 1 := cn_ins h0 (fun j _ => by
        rw [hq j]
        constructor
        · intro hp
          by_cases e : j = i0
          · exact Or.inr e
          · exact Or.inl ⟨hp, e⟩
        · rintro (hp | rfl)
          · exact hp.1
          · exact hp0) (by simp only [decide_true, Bool.not_true, Bool.and_false])
      omega
    · have h1 := cn_inj K p (fun i hi hp => by
        have h2 := h i hi hp
        have h3 : ¬ f i = K := fun e' => e ⟨i, hi, hp, e'⟩
        omega) hj
      omega
section
variable {N : Nat → Int32} {p : Int32} {n : Nat}
/-- i is ahead of j -/
def Ahd (N : Nat → Int32) (i j : Nat) : Prop := (N (5 + i)).toInt < (N (5 + j)).toInt ∨ ((N (5 + i)).toInt = (N (5 + j)).toInt ∧ i < j)
theorem ahd_or {i j : Nat} (h : i ≠ j) : Ahd N i j ∨ Ahd N j i := by unfold Ahd; omega
theorem rk_lt {i j : Nat} (hi : i < n) (hpi : N (805 + i) = p) (h : Ahd N i j) : cn (AhB N p i) n < cn (AhB N p j) n := by
  refine cn_ssub (j := i) (fun k hk hp => ?_) hi (ah_iff.mpr ⟨hpi, h⟩) ?_
  · obtain ⟨a, b⟩ := ah_iff.mp hp
    refine ah_iff.mpr ⟨a, ?_⟩
    unfold Ahd at h
    omega
  · rw [Bool.eq_false_iff]
    intro hh
    have := (ah_iff.mp hh).2
    omega
theorem rk_M {i : Nat} (hi : i < n) (hpi : N (805 + i) = p) : cn (AhB N p i) n < cn (RP N p) n := by
  refine cn_ssub (j := i) (fun k hk hp => rp_iff.mpr (ah_iff.mp hp).1) hi (rp_iff.mpr hpi) ?_
  rw [Bool.eq_false_iff]
  intro hh
  have := (ah_iff.mp hh).2
  omega
theorem rk_inj {i j : Nat} (hi : i < n) (hj : j < n) (hpi : N (805 + i) = p) (hpj : N (805 + j) = p) (e : cn (AhB N p i) n = cn (AhB N p j) n) : i = j := by
  by_cases h : i = j
  · exact h
  · rcases ahd_or (N := N) h with a | a
    · have := rk_lt hi hpi a; omega
    · have := rk_lt hj hpj a; omega
theorem rk_ahd {i j : Nat} (hi : i < n) (hj : j < n) (hpi : N (805 + i) = p) (hpj : N (805 + j) = p) (e : cn (AhB N p i) n < cn (AhB N p j) n) : Ahd N i j := by
  have h : i ≠ j := fun q => by subst q; omega
  rcases ahd_or (N := N) h with a | a
  · exact a
  · have := rk_lt hj hpj a; omega
theorem rk_ex1 {k : Nat} : ∀ (d i : Nat), i < n → N (805 + i) = p → cn (AhB N p i) n ≤ d → k ≤ cn (AhB N p i) n → ∃ j, j < n ∧ N (805 + j) = p ∧ cn (AhB N p j) n = k
  | 0, i, hi, hp, hd, hk => ⟨i, hi, hp, by omega⟩
  | d + 1, i, hi, hp, hd, hk => by
    by_cases e : cn (AhB N p i) n = k
    · exact ⟨i, hi, hp, e⟩
    · by_cases h : ∃ j, j < n ∧ AhB N p i j = true ∧ k ≤ cn (AhB N p j) n
      · obtain ⟨j, hj, ha, hk2⟩ := h
        obtain ⟨a, b⟩ := ah_iff.mp ha
        have h2 := rk_lt (n := n) hj a (show Ahd N j i from b)
        exact rk_ex1 d j hj a (by omega) hk2
      · exfalso
        have h2 := cn_inj (f := fun j => cn (AhB N p j) n) (n := n) k (AhB N p i) (fun j hj ha => by
          rcases Nat.lt_or_ge (cn (AhB N p j) n) k with z | z
          · exact z
          · exact absurd ⟨j, hj, ha, z⟩ h) (fun a b ha hb h1 h2 e => rk_inj ha hb (ah_iff.mp h1).1 (ah_iff.mp h2).1 e)
        omega
theorem rk_ex {k : Nat} (hk : k < cn (RP N p) n) : ∃ j, j < n ∧ N (805 + j) = p ∧ cn (AhB N p j) n = k := by
  by_cases h : ∃ i, i < n ∧ N (805 + i) = p ∧ k ≤ cn (AhB N p i) n
  · obtain ⟨i, hi, hp, h1⟩ := h
    exact rk_ex1 _ i hi hp (Nat.le_refl _) h1
  · exfalso
    have h2 := cn_inj (f := fun j => cn (AhB N p j) n) (n := n) k (RP N p) (fun j hj ha => by
      rcases Nat.lt_or_ge (cn (AhB N p j) n) k with z | z
      · exact z
      · exact absurd ⟨j, hj, rp_iff.mp ha, z⟩ h) (fun a b ha hb h1 h2 e => rk_inj ha hb (rp_iff.mp h1) (rp_iff.mp h2) e)
    omega
/-- the rows of the place p by rank -/
def RW (N : Nat → Int32) (p : Int32) (n : Nat) (w : Nat → Nat) : Prop := ∀ k, k < cn (RP N p) n → w k < n ∧ N (805 + w k) = p ∧ cn (AhB N p (w k)) n = k
theorem rw_ex (N : Nat → Int32) (p : Int32) (n : Nat) : ∃ w, RW N p n w := by
  refine ⟨fun k => if h : k < cn (RP N p) n then (rk_ex h).choose else 0, fun k hk => ?_⟩
  have := (rk_ex (N := N) (p := p) (n := n) hk).choose_spec
  simp only [dif_pos hk]
  exact this
theorem rw_sum {w : Nat → Nat} (hw : RW N p n w) (f : Nat → Int32) : smI (RP N p) f n = smU f w (cn (RP N p) n) := by
  refine (bij (u := w) (c := n) (f := f) (cn (RP N p) n) (RP N p) (fun j hj => ⟨(hw j hj).1, rp_iff.mpr (hw j hj).2.1⟩) (fun q hq hp => ?_) (fun i j hi hj e => ?_)).2
  · have hp' := rp_iff.mp hp
    have h1 := rk_M hq hp'
    obtain ⟨a, b, d⟩ := hw _ h1
    exact ⟨_, h1, rk_inj a hq b hp' d⟩
  · have h1 := (hw i hi).2.2
    have h2 := (hw j hj).2.2
    rw [e] at h1
    omega
theorem smI_ind (q b : Nat → Bool) : ∀ n, smI q (fun i => if b i = true then 1 else 0) n = nI (cn (fun i => q i && b i) n)
  | 0 => rfl
  | n + 1 => by
    cases hq : q n with
    | false => rw [sm_n hq, cn_n (by simp only [hq, Bool.false_and]), smI_ind q b n]
    | true =>
      cases hb : b n with
      | false =>
        rw [sm_s hq, cn_n (by simp only [hb, Bool.and_false]), smI_ind q b n, hb, if_neg Bool.false_ne_true]
        exact nI_z _
      | true =>
        rw [sm_s hq, cn_s (by simp only [hq, hb, Bool.and_self]), smI_ind q b n, hb, if_pos rfl, nI_1]
end
section
variable {g : MG} {N : Nat → Int32} {n c m : Nat} {u : Nat → Nat}
theorem lies_w (hT : TB g 0 N n c m u) {x : Int32} (hx : PlS m u x) {w : Nat → Nat} (hw : RW N x n w) {k : Nat} (hk : k < cn (RP N x) n) : m_X6_lies g x (nI k) = some (nI (w k)) := by
  have hn := hT.n4
  have hM := cn_le (RP N x) n
  obtain ⟨r, h1, h2⟩ := z_lies hT hx (k := k) (by omega)
  obtain ⟨a, b, d⟩ := hw k hk
  rw [h1]
  rcases h2 with ⟨i, hi, ⟨hp, hr⟩, -, rfl⟩ | ⟨hno, -⟩
  · have hc := cn_le (AhB N x i) n
    rw [nI_eq (by omega) (by omega)] at hr
    rw [rk_inj hi a hp b (by omega)]
  · exact absurd ⟨b, by rw [d]⟩ (hno (w k) a)
theorem lies_E (hT : TB g 0 N n c m u) {x : Int32} (hx : PlS m u x) : m_X6_lies g x (nI (cn (RP N x) n)) = some (-1005) := by
  have hn := hT.n4
  have hM := cn_le (RP N x) n
  obtain ⟨r, h1, h2⟩ := z_lies hT hx (k := cn (RP N x) n) (by omega)
  rw [h1]
  rcases h2 with ⟨i, hi, ⟨hp, hr⟩, -, rfl⟩ | ⟨-, rfl⟩
  · have hc := rk_M hi hp
    rw [nI_eq (by omega) (by omega)] at hr
    omega
  · rfl
theorem le_first {x : Int32} {w : Nat → Nat} (hw : RW N x n w) (h0 : 0 < cn (RP N x) n) : LeR N x n (N (5 + w 0)) := by
  obtain ⟨a, b, d⟩ := hw 0 h0
  refine Or.inr ⟨w 0, a, b, rfl, fun j hj hp => ?_⟩
  by_cases e : w 0 = j
  · rw [e]; exact Int.le_refl _
  · rcases ahd_or (N := N) e with h | h
    · unfold Ahd at h; omega
    · have := rk_lt hj hp h; omega
theorem gr_last {x : Int32} {w : Nat → Nat} (hw : RW N x n w) {k : Nat} (hk : cn (RP N x) n = k + 1) : GrR N x n (N (5 + w k)) := by
  obtain ⟨a, b, d⟩ := hw k (by omega)
  refine Or.inr ⟨w k, a, b, rfl, fun j hj hp => ?_⟩
  by_cases e : w k = j
  · rw [e]; exact Int.le_refl _
  · rcases ahd_or (N := N) e with h | h
    · have h1 := rk_lt a b h
      have h2 := rk_M hj hp
      omega
    · unfold Ahd at h; omega
theorem le_none {x : Int32} (h0 : cn (RP N x) n = 0) : LeR N x n (-1005) ∧ GrR N x n (-1005) := by
  have : ∀ i, i < n → ¬ N (805 + i) = x := fun i hi hp => by
    have := cn_pos hi (rp_iff.mpr hp)
    omega
  exact ⟨Or.inl ⟨this, rfl⟩, Or.inl ⟨this, rfl⟩⟩
def plK (N : Nat → Int32) (w : Nat → Nat) (k : Nat) : Int32 := if k = 0 then -1 else N (5 + w (k - 1))
def plR (w : Nat → Nat) (k : Nat) : Int32 := if k = 0 then -1 else nI (w (k - 1))
theorem st_dec (hT : TB g 0 N n c m u) {i : Nat} (hi : i < n) {x r : Int32} (hx : PlS m u x) (hp : N (805 + i) = x) (hr : HomR N c (N (5 + i)) r) : (x < 61 → (stB N c i = true ↔ ¬ r = x)) ∧ (¬ x < 61 → stB N c i = false) := by
  constructor
  · intro h61
    rw [st_iff]
    unfold StP
    rw [hp]
    have n1 : ¬ x = -1 ∧ ¬ x = 61 := by
      rcases hx with rfl | rfl | ⟨j, hj, rfl⟩
      · exact ⟨by decide, by decide⟩
      · exact absurd h61 (by decide)
      · exact ⟨(u_60 hT hj).2.2.1, (u_60 hT hj).2.1⟩
    constructor
    · rintro ⟨-, -, h⟩ e
      exact h (e ▸ hr)
    · intro h
      exact ⟨n1.1, n1.2, fun h2 => h (homR_u hT.1 hr h2)⟩
  · intro h61
    have hx61 : x = 61 := by
      rcases hx with rfl | rfl | ⟨j, hj, rfl⟩
      · exact absurd (by decide) h61
      · rfl
      · exfalso
        apply h61
        have := (u_60 hT hj).2.2.2
        rw [show (61 : Int32) = nI 61 from rfl, nI_ltI (by omega) (by omega)]
        omega
    rw [Bool.eq_false_iff]
    intro h
    exact (st_iff.mp h).2.1 (hp.trans hx61)
theorem z_place (hT : TB g 0 N n c m u) {x : Int32} (hx : PlS m u x) : m_L_place g x = some 1 := by
  have hn := hT.n4
  have hM := cn_le (RP N x) n
  obtain ⟨w, hw⟩ := rw_ex N x n
  obtain ⟨s2, ⟨l3, s3, hl3⟩, ⟨l4, s4, hl4⟩, s5, s6⟩ := z_slice hT hx
  have hxm : ¬ x = -1 := by
    rcases hx with rfl | rfl | ⟨j, hj, rfl⟩
    · decide
    · decide
    · exact (u_60 hT hj).2.2.1
  unfold m_L_place
  rw [bnd_e s2]
  generalize hMe : cn (RP N x) n = M at *
  refine lpo_eq (fun k y => y = (plK N w k, plR w k, smU (fun i => N (405 + i)) w k, smU (fun i => if stB N c i = true then 1 else 0) w k, nI k)) M (by omega) rfl ?_ ?_
  · rintro k y hk rfl
    right
    obtain ⟨a, b, d⟩ := hw k (by omega)
    obtain ⟨r0, r1, r2, ⟨h3, r3, hh3⟩, r4⟩ := z_row hT a (by rw [b]; exact hxm)
    have hkey := (hT.1.2.2.1 (w k) a).1
    obtain ⟨hb3, rb, hhb⟩ := z_bel hT hkey
    obtain rfl := homR_u hT.1 hh3 hhb
    obtain ⟨d1, d2⟩ := st_dec hT a hx b hh3
    refine ⟨_, rfl, fun kk => ?_⟩
    simp only [b_L_place_L21, m_L_place_L21]
    rw [if_neg (by rw [nI_leI (by omega) (by omega)]; omega), bnd_e (lies_w hT hx hw (by omega)), bnd_e r0, bnd_e r2, if_pos b]
    have hj77 : ∀ A B : Int32, A = smU (fun i => N (405 + i)) w k → B = smU (fun i => if stB N c i = true then 1 else 0) w k → m_L_place_J77 kk x g (nI M) A B (nI k) (nI (w k)) (N (5 + w k)) = kk (plK N w (k + 1), plR w (k + 1), smU (fun i => N (405 + i)) w (k + 1), smU (fun i => if stB N c i = true then 1 else 0) w (k + 1), nI (k + 1)) := by
      intro A B hA hB
      subst hA; subst hB
      have hend : ∀ F : Int32, F = (if stB N c (w k) = true then 1 else 0) → m_L_place_J151 kk x g (nI M) (smU (fun i => N (405 + i)) w k) (nI k) (nI (w k)) (N (5 + w k)) (smU (fun i => if stB N c i = true then 1 else 0) w k) F = kk (plK N w (k + 1), plR w (k + 1), smU (fun i => N (405 + i)) w (k + 1), smU (fun i => if stB N c i = true then 1 else 0) w (k + 1), nI (k + 1)) := by
        intro F hF
        unfold m_L_place_J151
        rw [bnd_e r1, hF, nI_1]
        unfold plK plR
        rw [if_neg (Nat.succ_ne_zero k), if_neg (Nat.succ_ne_zero k), Nat.add_sub_cancel]
        rfl
      have h118 : ∀ (W0 F : Int32), F = (if stB N c (w k) = true then 1 else 0) → (W0 = 0 ↔ F = 0) → m_L_place_J118 kk x g (nI M) (smU (fun i => N (405 + i)) w k) (smU (fun i => if stB N c i = true then 1 else 0) w k) (nI k) (nI (w k)) (N (5 + w k)) W0 (if stB N c (w k) = true then 1 else 0) F = kk (plK N w (k + 1), plR w (k + 1), smU (fun i => N (405 + i)) w (k + 1), smU (fun i => if stB N c i = true then 1 else 0) w (k + 1), nI (k + 1)) := by
        intro W0 F hF hW
        unfold m_L_place_J118
        rw [if_pos hF.symm, bnd_e r3, bnd_e rb, if_pos rfl]
        by_cases e : W0 = 0
        · rw [if_pos e]
          exact hend 0 ((hW.mp e).symm.trans hF)
        · rw [if_neg e]
          refine hend 1 ?_
          have hF0 : ¬ F = 0 := fun q => e (hW.mpr q)
          rw [hF] at hF0
          by_cases hs : stB N c (w k) = true
          · rw [if_pos hs]
          · rw [if_neg hs] at hF0
            exact absurd rfl hF0
      have h99 : ∀ W0 : Int32, W0 = (if stB N c (w k) = true then 1 else 0) → m_L_place_J99 kk x g (nI M) (smU (fun i => N (405 + i)) w k) (smU (fun i => if stB N c i = true then 1 else 0) w k) (nI k) (nI (w k)) (N (5 + w k)) W0 = kk (plK N w (k + 1), plR w (k + 1), smU (fun i => N (405 + i)) w (k + 1), smU (fun i => if stB N c i = true then 1 else 0) w (k + 1), nI (k + 1)) := by
        intro W0 hW0
        unfold m_L_place_J99
        rw [bnd_e r4]
        by_cases e : W0 = 0
        · rw [if_pos e]
          exact h118 W0 0 (e.symm.trans hW0) (by rw [e])
        · rw [if_neg e]
          have h1 : W0 = 1 := by
            rw [hW0] at e ⊢
            by_cases hs : stB N c (w k) = true
            · rw [if_pos hs]
            · rw [if_neg hs] at e
              exact absurd rfl e
          exact h118 W0 1 (h1.symm.trans hW0) (by rw [h1])
      unfold m_L_place_J77
      by_cases e61 : (61 : Int32) ≤ x
      · rw [if_pos e61]
        refine h99 0 ?_
        rw [d2 (Int32.not_lt.mpr e61), if_neg Bool.false_ne_true]
      · rw [if_neg e61, bnd_e r3]
        have d1' := d1 (Int32.not_le.mp e61)
        by_cases e : h3 = x
        · rw [if_pos e]
          refine h99 0 ?_
          rw [if_neg (fun q => d1'.mp q e)]
        · rw [if_neg e]
          refine h99 1 ?_
          rw [if_pos (d1'.mpr e)]
    have hord : ¬ N (5 + w k) < plK N w k ∧ (N (5 + w k) = plK N w k → plR w k ≤ nI (w k)) := by
      unfold plK plR
      by_cases e : k = 0
      · rw [if_pos e, if_pos e]
        have h1 : (-1 : Int32).toInt = -1 := by decide
        refine ⟨fun h => ?_, fun h => ?_⟩
        · have := Int32.lt_iff_toInt_lt.mp h
          rw [h1] at this
          omega
        · have : (N (5 + w k)).toInt = -1 := by rw [h, h1]
          omega
      · rw [if_neg e, if_neg e]
        obtain ⟨a', b', d'⟩ := hw (k - 1) (by omega)
        have h1 := rk_ahd a' a b' b (by omega)
        unfold Ahd at h1
        refine ⟨fun h => ?_, fun h => ?_⟩
        · have := Int32.lt_iff_toInt_lt.mp h
          omega
        · rw [h] at h1
          exact nI_le (by omega) (by omega)
    rw [if_neg hord.1]
    by_cases ek : N (5 + w k) = plK N w k
    · rw [if_pos ek, if_pos (hord.2 ek)]
      exact hj77 _ _ rfl rfl
    · rw [if_neg ek]
      exact hj77 _ _ rfl rfl
  · rintro y rfl kk
    have hs5 : smI (RP N x) (fun i => N (405 + i)) n = smU (fun i => N (405 + i)) w M := by rw [rw_sum hw, hMe]
    have hs6 : nI (cn (spB N c x) n) = smU (fun i => if stB N c i = true then 1 else 0) w M := by
      rw [← hMe, ← rw_sum hw, smI_ind]
      rfl
    have h242 : ∀ W : Int32, l4 = W → m_L_place_J242 x g (smU (fun i => N (405 + i)) w M) (smU (fun i => if stB N c i = true then 1 else 0) w M) l4 W = some 1 := by
      intro W hW
      unfold m_L_place_J242
      rw [if_pos hW, bnd_e s5, if_pos hs5, bnd_e s6, if_pos hs6]
    have hE := lies_E hT hx
    rw [hMe] at hE
    simp only [b_L_place_L21, m_L_place_L21]
    rw [if_pos (nI_le (Nat.le_refl M) (by omega))]
    by_cases e : M = 0
    · obtain ⟨n1, n2⟩ := le_none (N := N) (x := x) (n := n) (by omega)
      rw [if_pos (show nI M = 0 by rw [e]; rfl)]
      unfold m_L_place_J200
      rw [bnd_e hE, if_pos rfl, bnd_e s3, if_pos (le_u hl3 n1), bnd_e s4, if_pos (show nI M = 0 by rw [e]; rfl)]
      exact h242 _ (gr_u hl4 n2)
    · obtain ⟨a, b, d⟩ := hw 0 (by omega)
      obtain ⟨r0, -⟩ := z_row hT a (by rw [b]; exact hxm)
      have hn0 : ¬ nI M = 0 := nI_ne0 (by omega) (by omega)
      have hl0 := lies_w hT hx hw (k := 0) (by omega)
      rw [if_neg hn0, bnd_e (show m_X6_lies g x (0 : Int32) = some (nI (w 0)) from hl0), bnd_e r0]
      unfold m_L_place_J200
      rw [bnd_e hE, if_pos rfl, bnd_e s3, if_pos (le_u hl3 (le_first hw (by omega))), bnd_e s4, if_neg hn0]
      refine h242 _ (gr_u hl4 ?_)
      unfold plK
      rw [if_neg e]
      exact gr_last hw (by omega)
end
