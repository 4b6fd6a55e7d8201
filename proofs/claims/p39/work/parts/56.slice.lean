/-! slice: least and greatest key, sums -/
theorem cn_ssub {p q : Nat → Bool} : ∀ {n j : Nat}, (∀ i, i < n → p i = true → q i = true) → j < n → q j = true → p j = false → cn p n < cn q n
  | 0, j, _, hj, _, _ => absurd hj (Nat.not_lt_zero j)
  | n + 1, j, h, hj, hq, hp => by
    rcases Nat.lt_or_ge j n with a | a
    · have := cn_ssub (n := n) (fun i hi => h i (by omega)) a hq hp
      cases hpn : p n with
      | false => rw [cn_n hpn]; simp only [cn]; omega
      | true => rw [cn_s hpn, cn_s (h n (Nat.lt_succ_self n) hpn)]; omega
    · have e : j = n := by omega
      subst e
      have := cn_mono (n := j) (fun i hi => h i (by omega))
      rw [cn_n hp, cn_s hq]
      omega
theorem cn_ins {p q : Nat → Bool} {i : Nat} : ∀ {n : Nat}, i < n → (∀ j, j < n → (q j = true ↔ p j = true ∨ j = i)) → p i = false → cn q n = cn p n + 1
  | 0, hi, _, _ => absurd hi (Nat.not_lt_zero i)
  | n + 1, hi, h, hp => by
    rcases Nat.lt_or_ge i n with a | a
    · have ih := cn_ins (n := n) a (fun j hj => h j (by omega)) hp
      cases hpn : p n with
      | false =>
        have hqn : q n = false := by
          rw [Bool.eq_false_iff]
          intro hq
          rcases (h n (Nat.lt_succ_self n)).mp hq with z | z
          · rw [hpn] at z; cases z
          · omega
        rw [cn_n hpn, cn_n hqn, ih]
      | true =>
        rw [cn_s hpn, cn_s ((h n (Nat.lt_succ_self n)).mpr (Or.inl hpn)), ih]
    · have e : i = n := by omega
      subst e
      rw [cn_n hp, cn_s ((h i (Nat.lt_succ_self i)).mpr (Or.inr rfl))]
      have : cn q i = cn p i := cn_congr (fun j hj => by
        have hj' := h j (by omega)
        cases hpj : p j with
        | true => exact hj'.mpr (Or.inl hpj)
        | false =>
          rw [Bool.eq_false_iff]
          intro hq
          rcases hj'.mp hq with z | z
          · rw [hpj] at z; cases z
          · omega)
      rw [this]
theorem cn_ex {p : Nat → Bool} : ∀ {n : Nat}, 0 < cn p n → ∃ i, i < n ∧ p i = true
  | 0, h => absurd h (Nat.lt_irrefl 0)
  | n + 1, h => by
    cases hpn : p n with
    | true => exact ⟨n, Nat.lt_succ_self n, hpn⟩
    | false =>
      rw [cn_n hpn] at h
      obtain ⟨i, hi, hp⟩ := cn_ex h
      exact ⟨i, by omega, hp⟩
theorem rp_iff {N : Nat → Int32} {p : Int32} {i : Nat} : RP N p i = true ↔ N (805 + i) = p := by simp only [RP, decide_eq_true_eq]
theorem ah_iff {N : Nat → Int32} {p : Int32} {i j : Nat} : AhB N p i j = true ↔ (N (805 + j) = p ∧ ((N (5 + j)).toInt < (N (5 + i)).toInt ∨ ((N (5 + j)).toInt = (N (5 + i)).toInt ∧ j < i))) := by
  simp only [AhB, Bool.and_eq_true, Bool.or_eq_true, decide_eq_true_eq, Int32.lt_iff_toInt_lt, ← Int32.toInt_inj]
def LeR (N : Nat → Int32) (p : Int32) (n : Nat) (x : Int32) : Prop := ((∀ i, i < n → ¬ N (805 + i) = p) ∧ x = -1005) ∨ (∃ i, i < n ∧ N (805 + i) = p ∧ x = N (5 + i) ∧ ∀ j, j < n → N (805 + j) = p → (N (5 + i)).toInt ≤ (N (5 + j)).toInt)
def GrR (N : Nat → Int32) (p : Int32) (n : Nat) (x : Int32) : Prop := ((∀ i, i < n → ¬ N (805 + i) = p) ∧ x = -1005) ∨ (∃ i, i < n ∧ N (805 + i) = p ∧ x = N (5 + i) ∧ ∀ j, j < n → N (805 + j) = p → (N (5 + j)).toInt ≤ (N (5 + i)).toInt)
theorem le_u {N : Nat → Int32} {p : Int32} {n : Nat} {x y : Int32} (h : LeR N p n x) (h' : LeR N p n y) : x = y := by
  rcases h with ⟨hno, rfl⟩ | ⟨i, hi, hp, rfl, hl⟩
  · rcases h' with ⟨-, rfl⟩ | ⟨i, hi, hp, -, -⟩
    · rfl
    · exact absurd hp (hno i hi)
  · rcases h' with ⟨hno, rfl⟩ | ⟨j, hj, hp', rfl, hl'⟩
    · exact absurd hp (hno i hi)
    · have := hl j hj hp'
      have := hl' i hi hp
      exact Int32.toInt_inj.mp (by omega)
theorem gr_u {N : Nat → Int32} {p : Int32} {n : Nat} {x y : Int32} (h : GrR N p n x) (h' : GrR N p n y) : x = y := by
  rcases h with ⟨hno, rfl⟩ | ⟨i, hi, hp, rfl, hl⟩
  · rcases h' with ⟨-, rfl⟩ | ⟨i, hi, hp, -, -⟩
    · rfl
    · exact absurd hp (hno i hi)
  · rcases h' with ⟨hno, rfl⟩ | ⟨j, hj, hp', rfl, hl'⟩
    · exact absurd hp (hno i hi)
    · have := hl j hj hp'
      have := hl' i hi hp
      exact Int32.toInt_inj.mp (by omega)
/-- in a place with rows one has none ahead -/
theorem ah_min {N : Nat → Int32} {p : Int32} {n : Nat} : ∀ (d i : Nat), i < n → N (805 + i) = p → cn (AhB N p i) n ≤ d → ∃ j, j < n ∧ N (805 + j) = p ∧ cn (AhB N p j) n = 0 := by
  intro d
  induction d with
  | zero => intro i hi hp h; exact ⟨i, hi, hp, by omega⟩
  | succ d ih =>
    intro i hi hp h
    rcases Nat.eq_zero_or_pos (cn (AhB N p i) n) with h0 | h0
    · exact ⟨i, hi, hp, h0⟩
    · obtain ⟨j, hj, hah⟩ := cn_ex h0
      have hji := ah_iff.mp hah
      refine ih j hj hji.1 ?_
      have := cn_ssub (p := AhB N p j) (q := AhB N p i) (n := n) (j := j) (fun k _ hk => by
        have hk' := ah_iff.mp hk
        exact ah_iff.mpr ⟨hk'.1, by omega⟩) hj hah (by
        rw [Bool.eq_false_iff]
        intro hz
        have := (ah_iff.mp hz).2
        omega)
      omega
/-- and one has all others ahead -/
theorem ah_max {N : Nat → Int32} {p : Int32} {n : Nat} : ∀ (d i : Nat), i < n → N (805 + i) = p → cn (RP N p) n ≤ cn (AhB N p i) n + 1 + d → ∃ j, j < n ∧ N (805 + j) = p ∧ cn (RP N p) n = cn (AhB N p j) n + 1 := by
  intro d
  induction d with
  | zero =>
    intro i hi hp h
    refine ⟨i, hi, hp, ?_⟩
    have := cn_ssub (p := AhB N p i) (q := RP N p) (n := n) (j := i) (fun k _ hk => rp_iff.mpr (ah_iff.mp hk).1) hi (rp_iff.mpr hp) (by
      rw [Bool.eq_false_iff]
      intro hz
      have := (ah_iff.mp hz).2
      omega)
    omega
  | succ d ih =>
    intro i hi hp h
    by_cases e : ∃ j, j < n ∧ N (805 + j) = p ∧ j ≠ i ∧ AhB N p i j = false
    · obtain ⟨j, hj, hpj, hne, haf⟩ := e
      have hij : AhB N p j i = true := by
        have hz : ¬ (N (805 + j) = p ∧ ((N (5 + j)).toInt < (N (5 + i)).toInt ∨ ((N (5 + j)).toInt = (N (5 + i)).toInt ∧ j < i))) := fun q => by
          rw [ah_iff.mpr q] at haf
          cases haf
        exact ah_iff.mpr ⟨hp, by
          have hz' : ¬ ((N (5 + j)).toInt < (N (5 + i)).toInt ∨ ((N (5 + j)).toInt = (N (5 + i)).toInt ∧ j < i)) := fun q => hz ⟨hpj, q⟩
          omega⟩
      refine ih j hj hpj ?_
      have := cn_ssub (p := AhB N p i) (q := AhB N p j) (n := n) (j := i) (fun k _ hk => by
        have hk' := ah_iff.mp hk
        have hh := ah_iff.mp hij
        exact ah_iff.mpr ⟨hk'.1, by omega⟩) hi hij (by
        rw [Bool.eq_false_iff]
        intro hz
        have := (ah_iff.mp hz).2
        omega)
      omega
    · refine ⟨i, hi, hp, ?_⟩
      refine cn_ins hi (fun j hj => ⟨fun hr => ?_, fun hr => ?_⟩) (by
        rw [Bool.eq_false_iff]
        intro hz
        have := (ah_iff.mp hz).2
        omega)
      · by_cases hji : j = i
        · exact Or.inr hji
        · left
          cases hb : AhB N p i j with
          | true => rfl
          | false => exact absurd ⟨j, hj, rp_iff.mp hr, hji, hb⟩ e
      · rcases hr with hr | rfl
        · exact rp_iff.mpr (ah_iff.mp hr).1
        · exact rp_iff.mpr hp
def smI (q : Nat → Bool) (v : Nat → Int32) : Nat → Int32
  | 0 => 0
  | n + 1 => if q n = true then smI q v n + v n else smI q v n
theorem sm_s {q : Nat → Bool} {v : Nat → Int32} {n : Nat} (h : q n = true) : smI q v (n + 1) = smI q v n + v n := by simp only [smI]; rw [if_pos h]
theorem sm_n {q : Nat → Bool} {v : Nat → Int32} {n : Nat} (h : q n = false) : smI q v (n + 1) = smI q v n := by simp only [smI]; rw [if_neg (by rw [h]; exact Bool.false_ne_true)]
noncomputable def spB (N : Nat → Int32) (c : Nat) (p : Int32) (i : Nat) : Bool := RP N p i && stB N c i
section
variable {g : MG} {t : Nat} {N : Nat → Int32} {n c m : Nat} {u : Nat → Nat}
theorem c_sumAt (h : TB g t N n c m u) (p : Int32) : m_X3_sumAt g t p = some (smI (RP N p) (fun i => N (405 + i)) n) := by
  have hn := h.n4
  unfold m_X3_sumAt
  refine lpo_eq (fun i x => x = (smI (RP N p) (fun i => N (405 + i)) i, nI i)) n (by omega) rfl ?_ ?_
  · rintro i x hi rfl
    have hcond : ¬ nI n ≤ nI i := by rw [nI_leI (by omega) (by omega)]; omega
    right
    by_cases h1 : N (805 + i) = p
    · refine ⟨_, rfl, fun k => ?_⟩
      simp only [b_X3_sumAt_L4, m_X3_sumAt_L4]
      rw [h.came, if_neg hcond, bnd_e (c_place h hi), if_pos h1, bnd_e (c_val h hi), sm_s (rp_iff.mpr h1), nI_1]
    · refine ⟨_, rfl, fun k => ?_⟩
      simp only [b_X3_sumAt_L4, m_X3_sumAt_L4]
      rw [h.came, if_neg hcond, bnd_e (c_place h hi), if_neg h1, sm_n (by rw [Bool.eq_false_iff]; exact fun q => h1 (rp_iff.mp q)), nI_1]
  · rintro x rfl k
    simp only [b_X3_sumAt_L4, m_X3_sumAt_L4]
    rw [h.came, if_pos (nI_le (Nat.le_refl n) (by omega))]
theorem c_straysAt (h : TB g t N n c m u) (p : Int32) : m_X5_straysAt g t p = some (nI (cn (spB N c p) n)) := by
  have hn := h.n4
  have ne : ¬ (1 : Int32) = 0 := by decide
  unfold m_X5_straysAt
  refine lpo_eq (fun i x => x = (nI (cn (spB N c p) i), nI i)) n (by omega) rfl ?_ ?_
  · rintro i x hi rfl
    have hcond : ¬ nI n ≤ nI i := by rw [nI_leI (by omega) (by omega)]; omega
    right
    by_cases h1 : N (805 + i) = p
    · cases hb : stB N c i with
      | true =>
        refine ⟨_, rfl, fun k => ?_⟩
        simp only [b_X5_straysAt_L4, m_X5_straysAt_L4]
        rw [h.came, if_neg hcond, bnd_e (c_place h hi), if_pos h1, bnd_e (c_stray h hi), hb, if_pos rfl, if_neg ne, cn_s (by simp only [spB, rp_iff.mpr h1, hb, Bool.and_self]), nI_1, nI_1]
      | false =>
        refine ⟨_, rfl, fun k => ?_⟩
        simp only [b_X5_straysAt_L4, m_X5_straysAt_L4]
        rw [h.came, if_neg hcond, bnd_e (c_place h hi), if_pos h1, bnd_e (c_stray h hi), hb, if_neg Bool.false_ne_true, if_pos rfl, cn_n (by simp only [spB, hb, Bool.and_false]), nI_1]
    · refine ⟨_, rfl, fun k => ?_⟩
      simp only [b_X5_straysAt_L4, m_X5_straysAt_L4]
      have hr : RP N p i = false := by rw [Bool.eq_false_iff]; exact fun q => h1 (rp_iff.mp q)
      rw [h.came, if_neg hcond, bnd_e (c_place h hi), if_neg h1, cn_n (by simp only [spB, hr, Bool.false_and]), nI_1]
  · rintro x rfl k
    simp only [b_X5_straysAt_L4, m_X5_straysAt_L4]
    rw [h.came, if_pos (nI_le (Nat.le_refl n) (by omega))]
end
section
variable {g : MG} {N : Nat → Int32} {n c m : Nat} {u : Nat → Nat}
theorem c_least (h : TB g 0 N n c m u) (p : Int32) : ∃ r, m_X6_keyOfRanked g p 0 = some r ∧ LeR N p n r := by
  have hn := h.n4
  obtain ⟨r, hr, hf⟩ := c_ranked h p 0
  unfold m_X6_keyOfRanked
  rw [bnd_e hr]
  rcases hf with ⟨i, hi, hq, -, rfl⟩ | ⟨hno, rfl⟩
  · rw [if_neg (nI_ne_m (by omega) (by decide)), bnd_e (c_key h hi)]
    refine ⟨_, rfl, Or.inr ⟨i, hi, hq.1, rfl, fun j hj hpj => ?_⟩⟩
    have hcn := cn_le (AhB N p i) n
    have h0 : cn (AhB N p i) n = 0 := (nI_eq (b := 0) (by omega) (by omega)).mp hq.2
    rcases Int.lt_or_le (N (5 + j)).toInt (N (5 + i)).toInt with a | a
    · have := cn_pos (p := AhB N p i) hj (ah_iff.mpr ⟨hpj, Or.inl a⟩)
      omega
    · exact a
  · rw [if_pos rfl]
    refine ⟨_, rfl, Or.inl ⟨fun i hi hp => ?_, rfl⟩⟩
    obtain ⟨j, hj, hpj, h0⟩ := ah_min _ i hi hp (Nat.le_refl _)
    exact hno j hj ⟨hpj, by rw [h0]; rfl⟩
theorem c_greatest (h : TB g 0 N n c m u) (p : Int32) : ∃ r, m_X6_keyOfRanked g p (nI (cn (RP N p) n) - 1) = some r ∧ GrR N p n r := by
  have hn := h.n4
  have hA := cn_le (RP N p) n
  obtain ⟨r, hr, hf⟩ := c_ranked h p (nI (cn (RP N p) n) - 1)
  unfold m_X6_keyOfRanked
  rw [bnd_e hr]
  rcases Nat.eq_zero_or_pos (cn (RP N p) n) with hz | hz
  · have hnone : ∀ i, i < n → ¬ N (805 + i) = p := fun i hi hp => by
      have := cn_pos (p := RP N p) hi (rp_iff.mpr hp)
      omega
    rcases hf with ⟨i, hi, hq, -, rfl⟩ | ⟨hno, rfl⟩
    · exact absurd hq.1 (hnone i hi)
    · rw [if_pos rfl]
      exact ⟨_, rfl, Or.inl ⟨hnone, rfl⟩⟩
  · have hx : nI (cn (RP N p) n) - 1 = nI (cn (RP N p) n - 1) := by
      obtain ⟨a, ha⟩ : ∃ a, cn (RP N p) n = a + 1 := ⟨cn (RP N p) n - 1, by omega⟩
      rw [ha, Nat.add_sub_cancel]
      exact nI_pred a
    rw [hx] at hf
    rcases hf with ⟨i, hi, hq, -, rfl⟩ | ⟨hno, rfl⟩
    · rw [if_neg (nI_ne_m (by omega) (by decide)), bnd_e (c_key h hi)]
      refine ⟨_, rfl, Or.inr ⟨i, hi, hq.1, rfl, fun j hj hpj => ?_⟩⟩
      have hcn := cn_le (AhB N p i) n
      have h0 : cn (AhB N p i) n = cn (RP N p) n - 1 := (nI_eq (by omega) (by omega)).mp hq.2
      by_cases hji : j = i
      · rw [hji]; exact Int.le_refl _
      · cases hb : AhB N p i j with
        | true =>
          have := (ah_iff.mp hb).2
          omega
        | false =>
          exfalso
          have h1 := cn_ssub (p := AhB N p i) (q := fun k => AhB N p i k || decide (k = j)) (n := n) (j := j) (fun k _ hk => by simp only [hk, Bool.true_or]) hj (by simp only [decide_true, Bool.or_true]) hb
          have h2 := cn_ssub (p := fun k => AhB N p i k || decide (k = j)) (q := RP N p) (n := n) (j := i) (fun k _ hk => by
            simp only [Bool.or_eq_true, decide_eq_true_eq] at hk
            rcases hk with hk | rfl
            · exact rp_iff.mpr (ah_iff.mp hk).1
            · exact rp_iff.mpr hpj) hi (rp_iff.mpr hq.1) (by
            rw [Bool.eq_false_iff]
            intro hz2
            simp only [Bool.or_eq_true, decide_eq_true_eq] at hz2
            rcases hz2 with hz2 | hz2
            · have := (ah_iff.mp hz2).2
              omega
            · exact hji hz2.symm)
          omega
    · exfalso
      obtain ⟨i, hi, hp⟩ := cn_ex hz
      obtain ⟨j, hj, hpj, h0⟩ := ah_max _ i hi (rp_iff.mp hp) (by omega : cn (RP N p) n ≤ cn (AhB N p i) n + 1 + cn (RP N p) n)
      exact hno j hj ⟨hpj, by rw [h0, Nat.add_sub_cancel]⟩
end
