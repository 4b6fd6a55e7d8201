/-! keys that no slice has, gaps, the order of bounds -/
theorem cn_seg0 {p : Nat → Bool} {s : Nat} : ∀ {e : Nat}, s ≤ e → (∀ k, s ≤ k → k < e → p k = false) → cn p e = cn p s
  | 0, hs, _ => by rw [show s = 0 by omega]
  | e + 1, hs, h => by
    rcases Nat.lt_or_ge s (e + 1) with a | a
    · rw [cn_n (h e (by omega) (Nat.lt_succ_self e)), cn_seg0 (by omega) (fun k h1 h2 => h k h1 (by omega))]
    · rw [show s = e + 1 by omega]
theorem cn_hit {p : Nat → Bool} : ∀ {n X : Nat}, X < cn p n → ∃ i, i < n ∧ p i = true ∧ cn p i = X
  | 0, _, h => absurd h (Nat.not_lt_zero _)
  | n + 1, X, h => by
    rcases Nat.lt_or_ge X (cn p n) with a | a
    · obtain ⟨i, hi, h1, h2⟩ := cn_hit a
      exact ⟨i, by omega, h1, h2⟩
    · cases hp : p n with
      | false => rw [cn_n hp] at h; omega
      | true =>
        rw [cn_s hp] at h
        exact ⟨n, Nat.lt_succ_self n, hp, by omega⟩
noncomputable def frB (N : Nat → Int32) (c k : Nat) : Bool := @decide (∀ q, ¬ Own N c (nI k) q) (Classical.propDecidable _)
theorem fr_t {N : Nat → Int32} {c k : Nat} : frB N c k = true ↔ ∀ q, ¬ Own N c (nI k) q := by
  unfold frB
  exact @decide_eq_true_iff _ (Classical.propDecidable _)
theorem fr_f {N : Nat → Int32} {c k : Nat} : frB N c k = false ↔ ∃ q, Own N c (nI k) q := by
  constructor
  · intro h
    refine Classical.byContradiction (fun hn => ?_)
    rw [fr_t.mpr (fun q hq => hn ⟨q, hq⟩)] at h
    cases h
  · rintro ⟨q, hq⟩
    rw [Bool.eq_false_iff]
    exact fun h => fr_t.mp h q hq
noncomputable def sgB (N : Nat → Int32) (c k : Nat) : Bool := frB N c k && (decide (k = 0) || !frB N c (k - 1))
def glN (N : Nat → Int32) (u : Nat → Nat) (a : Nat) : Nat := (gLo N u a).toInt.toNat
def ghN (N : Nat → Int32) (u : Nat → Nat) (m a : Nat) : Nat := (gHi N u m a).toInt.toNat
def gB (N : Nat → Int32) (u : Nat → Nat) (m a : Nat) : Bool := decide (glN N u a < ghN N u m a)
section
variable {N : Nat → Int32} {n c m : Nat} {u : Nat → Nat}
theorem u_b (hk : OkN N n c) (hs : SO N c m u) {j : Nat} (hj : j < m) : 0 ≤ (N (1265 + u j)).toInt ∧ (N (1265 + u j)).toInt < (N (1325 + u j)).toInt ∧ (N (1325 + u j)).toInt ≤ 1000 := (hk.2.2.2.1 (u j) (hs.2.1 j hj).1).2 (hs.2.1 j hj).2
theorem gl_b (hk : OkN N n c) (hs : SO N c m u) {a : Nat} (ha : a ≤ m) : 0 ≤ (gLo N u a).toInt ∧ (gLo N u a).toInt ≤ 1000 := by
  unfold gLo
  by_cases e : a = 0
  · rw [if_pos e]; decide
  · rw [if_neg e]
    have := u_b hk hs (j := a - 1) (by omega)
    omega
theorem gh_b (hk : OkN N n c) (hs : SO N c m u) {a : Nat} (ha : a ≤ m) : 0 ≤ (gHi N u m a).toInt ∧ (gHi N u m a).toInt ≤ 1000 := by
  unfold gHi
  by_cases e : a = m
  · rw [if_pos e]; decide
  · rw [if_neg e]
    have := u_b hk hs (j := a) (by omega)
    omega
theorem gl_gh (hk : OkN N n c) (hs : SO N c m u) {a : Nat} (ha : a ≤ m) : (gLo N u a).toInt ≤ (gHi N u m a).toInt := by
  have h1 := gl_b hk hs ha
  have h2 := gh_b hk hs ha
  by_cases e : a = 0
  · have : (gLo N u a).toInt = 0 := by simp only [gLo, if_pos e]; decide
    omega
  · by_cases e2 : a = m
    · have : (gHi N u m a).toInt = 1000 := by simp only [gHi, if_pos e2]; decide
      omega
    · simp only [gLo, gHi, if_neg e, if_neg e2]
      exact hs.2.2.2 (a - 1) a (by omega) (by omega)
theorem gl_eq (hk : OkN N n c) (hs : SO N c m u) {a : Nat} (ha : a ≤ m) : gLo N u a = nI (glN N u a) := by
  have := gl_b hk hs ha
  refine Int32.toInt_inj.mp ?_
  unfold glN
  rw [nI_toInt (by omega)]
  omega
theorem gh_eq (hk : OkN N n c) (hs : SO N c m u) {a : Nat} (ha : a ≤ m) : gHi N u m a = nI (ghN N u m a) := by
  have := gh_b hk hs ha
  refine Int32.toInt_inj.mp ?_
  unfold ghN
  rw [nI_toInt (by omega)]
  omega
theorem free_in (hk : OkN N n c) (hs : SO N c m u) {a k : Nat} (ha : a ≤ m) (h1 : glN N u a ≤ k) (h2 : k < ghN N u m a) : frB N c k = true := by
  refine fr_t.mpr (fun q hq => ?_)
  obtain ⟨j, hj, rfl⟩ := hs.2.2.1 q hq.1 hq.2.1
  have b1 := gl_b hk hs ha
  have b2 := gh_b hk hs ha
  have hk0 := hq.2.2
  unfold glN at h1
  unfold ghN at h2
  rw [nI_toInt (by omega)] at hk0
  have bj := u_b hk hs hj
  rcases Nat.lt_or_ge j a with z | z
  · have e1 : (N (1325 + u j)).toInt ≤ (gLo N u a).toInt := by
      simp only [gLo, if_neg (show ¬ a = 0 by omega)]
      rcases Nat.lt_or_ge j (a - 1) with y | y
      · have := hs.2.2.2 j (a - 1) y (by omega)
        have := u_b hk hs (j := a - 1) (by omega)
        omega
      · rw [show a - 1 = j by omega]
        exact Int.le_refl _
    omega
  · have e1 : (gHi N u m a).toInt ≤ (N (1265 + u j)).toInt := by
      simp only [gHi, if_neg (show ¬ a = m by omega)]
      rcases Nat.lt_or_ge a j with y | y
      · have := hs.2.2.2 a j y hj
        have := u_b hk hs (j := a) (by omega)
        omega
      · rw [show j = a by omega]
        exact Int.le_refl _
    omega
theorem own_in (hk : OkN N n c) (hs : SO N c m u) {a k : Nat} (ha : a < m) (h1 : ghN N u m a ≤ k) (h2 : k < glN N u (a + 1)) : Own N c (nI k) (u a) := by
  have bj := u_b hk hs ha
  have e1 : gHi N u m a = N (1265 + u a) := by simp only [gHi, if_neg (show ¬ a = m by omega)]
  have e2 : gLo N u (a + 1) = N (1325 + u a) := by simp only [gLo, if_neg (show ¬ a + 1 = 0 by omega), Nat.add_sub_cancel]
  unfold ghN at h1
  unfold glN at h2
  rw [e1] at h1
  rw [e2] at h2
  refine ⟨(hs.2.1 a ha).1, (hs.2.1 a ha).2, ?_⟩
  rw [nI_toInt (by omega)]
  omega
theorem gap_cn (hk : OkN N n c) (hs : SO N c m u) : ∀ a, a ≤ m → cn (sgB N c) (glN N u a) = cn (gB N u m) a ∧ cn (sgB N c) (ghN N u m a) = cn (gB N u m) (a + 1) ∧ (glN N u a < ghN N u m a → sgB N c (glN N u a) = true) := by
  intro a
  have fin : ∀ a, a ≤ m → cn (sgB N c) (glN N u a) = cn (gB N u m) a → cn (sgB N c) (glN N u a) = cn (gB N u m) a ∧ cn (sgB N c) (ghN N u m a) = cn (gB N u m) (a + 1) ∧ (glN N u a < ghN N u m a → sgB N c (glN N u a) = true) := by
    intro a ha h
    have hle := gl_gh hk hs ha
    have b1 := gl_b hk hs ha
    have b2 := gh_b hk hs ha
    have hle' : glN N u a ≤ ghN N u m a := by unfold glN ghN; omega
    have hst : glN N u a < ghN N u m a → sgB N c (glN N u a) = true := fun hlt => by
      have hf := free_in hk hs ha (Nat.le_refl _) hlt
      unfold sgB
      rw [hf, Bool.true_and]
      by_cases e : glN N u a = 0
      · rw [decide_eq_true e, Bool.true_or]
      · have ha0 : a ≠ 0 := fun e0 => e (by unfold glN; rw [e0]; rfl)
        obtain ⟨b, rfl⟩ : ∃ b, a = b + 1 := ⟨a - 1, by omega⟩
        have b3 := u_b hk hs (j := b) (by omega)
        have e1 : gHi N u m b = N (1265 + u b) := by simp only [gHi, if_neg (show ¬ b = m by omega)]
        have e2 : gLo N u (b + 1) = N (1325 + u b) := by simp only [gLo, if_neg (show ¬ b + 1 = 0 by omega), Nat.add_sub_cancel]
        have hown := own_in hk hs (a := b) (k := glN N u (b + 1) - 1) (by omega) (by unfold ghN glN; rw [e1, e2]; omega) (by omega)
        rw [fr_f.mpr ⟨_, hown⟩, Bool.not_false, Bool.or_true]
    refine ⟨h, ?_, hst⟩
    rcases Nat.lt_or_ge (glN N u a) (ghN N u m a) with hlt | hge
    · rw [cn_s (p := gB N u m) (n := a) (by simp only [gB, decide_eq_true_eq]; exact hlt), ← h, ← cn_s (hst hlt)]
      refine cn_seg0 (by omega) (fun k h1 h2 => ?_)
      have f1 := free_in hk hs ha (k := k - 1) (by omega) (by omega)
      unfold sgB
      rw [f1, decide_eq_false (show ¬ k = 0 by omega), Bool.not_true, Bool.or_self, Bool.and_false]
    · rw [cn_n (p := gB N u m) (n := a) (by simp only [gB, decide_eq_false_iff_not]; omega), ← h, show ghN N u m a = glN N u a by omega]
  induction a with
  | zero =>
    intro ha
    exact fin 0 ha (by
      have : glN N u 0 = 0 := by unfold glN; rfl
      rw [this]; rfl)
  | succ a ih =>
    intro ha
    have h := ih (by omega)
    refine fin (a + 1) ha ?_
    rw [← h.2.1]
    have bj := u_b hk hs (j := a) (by omega)
    have e1 : gHi N u m a = N (1265 + u a) := by simp only [gHi, if_neg (show ¬ a = m by omega)]
    have e2 : gLo N u (a + 1) = N (1325 + u a) := by simp only [gLo, if_neg (show ¬ a + 1 = 0 by omega), Nat.add_sub_cancel]
    refine cn_seg0 (by unfold ghN glN; rw [e1, e2]; omega) (fun k h1 h2 => ?_)
    have := own_in hk hs (a := a) (k := k) (by omega) h1 h2
    unfold sgB
    rw [fr_f.mpr ⟨_, this⟩, Bool.false_and]
theorem gap_all (hk : OkN N n c) (hs : SO N c m u) : cn (sgB N c) 1000 = cn (gB N u m) (m + 1) := by
  have h := (gap_cn hk hs m (Nat.le_refl m)).2.1
  have e : ghN N u m m = 1000 := by
    unfold ghN gHi
    rw [if_pos rfl]
    decide
  rw [e] at h
  exact h
end
section
variable {g : MG} {t : Nat} {N : Nat → Int32} {n c m : Nat} {u : Nat → Nat}
theorem g_cmp (h : TB g t N n c m u) {a : Nat} (ha : a ≤ m) : gHi N u m a ≤ gLo N u a ↔ gB N u m a = false := by
  have b1 := gl_b h.1 h.2.1 ha
  have b2 := gh_b h.1 h.2.1 ha
  simp only [gB, decide_eq_false_iff_not]
  unfold glN ghN
  rw [Int32.le_iff_toInt_le]
  omega
theorem c_gaps (h : TB g t N n c m u) : m_X4_gaps g t = some (nI (cn (gB N u m) (m + 1))) := by
  have hm := h.m12
  unfold m_X4_gaps
  refine lpo_eq (fun a x => x = (nI (cn (gB N u m) a), nI a)) (m + 1) (by omega) rfl ?_ ?_
  · rintro a x ha rfl
    have hcond : ¬ nI m < nI a := by rw [nI_ltI (by omega) (by omega)]; omega
    right
    cases hb : gB N u m a with
    | false =>
      refine ⟨_, rfl, fun k => ?_⟩
      simp only [b_X4_gaps_L4, m_X4_gaps_L4]
      rw [h.am, if_neg hcond, bnd_e (c_gapLow h (by omega)), bnd_e (c_gapHigh h (by omega)), if_pos ((g_cmp h (by omega)).mpr hb), cn_n hb, nI_1]
    | true =>
      refine ⟨_, rfl, fun k => ?_⟩
      simp only [b_X4_gaps_L4, m_X4_gaps_L4]
      rw [h.am, if_neg hcond, bnd_e (c_gapLow h (by omega)), bnd_e (c_gapHigh h (by omega)), if_neg (fun q => by rw [(g_cmp h (by omega)).mp q] at hb; cases hb), cn_s hb, nI_1, nI_1]
  · rintro x rfl k
    simp only [b_X4_gaps_L4, m_X4_gaps_L4]
    rw [h.am, if_pos (nI_lt (by omega) (by omega))]
theorem c_gapRanked (h : TB g t N n c m u) (x : Int32) : ∃ r, m_X4_gapRanked g t x = some r ∧ RkR (gB N u m) (m + 1) x r := by
  have hm := h.m12
  unfold m_X4_gapRanked
  refine lpo_P (fun a y => y = (nI (cn (gB N u m) a), nI a) ∧ ∀ j, j < a → gB N u m j = true → x ≠ nI (cn (gB N u m) j)) (m + 1) _ 0 (Nat.zero_le _) (by omega) ⟨rfl, fun j hj => absurd hj (Nat.not_lt_zero j)⟩ ?_ ?_
  · rintro a y ha ⟨rfl, hno⟩
    have hcond : ¬ nI m < nI a := by rw [nI_ltI (by omega) (by omega)]; omega
    cases hb : gB N u m a with
    | false =>
      right
      refine ⟨_, ⟨rfl, lt_up hno (fun q => absurd (hb.symm.trans q) Bool.false_ne_true)⟩, fun k => ?_⟩
      simp only [b_X4_gapRanked_L4, m_X4_gapRanked_L4]
      rw [h.am, if_neg hcond, bnd_e (c_gapLow h (by omega)), bnd_e (c_gapHigh h (by omega)), if_pos ((g_cmp h (by omega)).mpr hb), cn_n hb, nI_1]
    | true =>
      have hc : ¬ gHi N u m a ≤ gLo N u a := fun q => by rw [(g_cmp h (by omega)).mp q] at hb; cases hb
      by_cases e : nI (cn (gB N u m) a) = x
      · left
        intro k
        refine ⟨nI a, ?_, Or.inl ⟨a, ha, hb, e.symm, rfl⟩⟩
        simp only [b_X4_gapRanked_L4, m_X4_gapRanked_L4]
        rw [h.am, if_neg hcond, bnd_e (c_gapLow h (by omega)), bnd_e (c_gapHigh h (by omega)), if_neg hc, if_pos e]
      · right
        refine ⟨_, ⟨rfl, lt_up hno (fun _ q => e q.symm)⟩, fun k => ?_⟩
        simp only [b_X4_gapRanked_L4, m_X4_gapRanked_L4]
        rw [h.am, if_neg hcond, bnd_e (c_gapLow h (by omega)), bnd_e (c_gapHigh h (by omega)), if_neg hc, if_neg e, cn_s hb, nI_1, nI_1]
  · rintro y ⟨rfl, hno⟩ k
    refine ⟨-1005, ?_, Or.inr ⟨hno, rfl⟩⟩
    simp only [b_X4_gapRanked_L4, m_X4_gapRanked_L4]
    rw [h.am, if_pos (nI_lt (by omega) (by omega))]
end
section
variable {g h : MG} {n c m : Nat} {u : Nat → Nat}
/-- the reference's owner of a key below 1000: none, or one -/
theorem r_own (hk : OkN (h.1 1) n c) (k : Nat) : (frB (h.1 1) c k = true ∧ m_X7_owner h (nI k) = some (-1005)) ∨ (frB (h.1 1) c k = false ∧ ∃ q, Own (h.1 1) c (nI k) q ∧ m_X7_owner h (nI k) = some (nI q) ∧ ¬ nI q = -1005) := by
  have hc := hk.1.2.2.2
  obtain ⟨r, h1, h2⟩ := r_owner hk (nI k)
  rcases h2 with ⟨q, hq, rfl⟩ | ⟨hn, rfl⟩
  · have := hq.1
    exact Or.inr ⟨fr_f.mpr ⟨q, hq⟩, q, hq, h1, nI_ne_m (by omega) (by decide)⟩
  · exact Or.inl ⟨fr_t.mpr hn, h1⟩
theorem r_gaps (hk : OkN (h.1 1) n c) : m_X7_gaps h = some (nI (cn (sgB (h.1 1) c) 1000)) := by
  unfold m_X7_gaps
  refine lpo_eq (fun i x => x = (nI (cn (sgB (h.1 1) c) i), nI i)) 1000 (by omega) rfl ?_ ?_
  · rintro i x hi rfl
    have hcond : ¬ (1000 : Int32) ≤ nI i := by rw [show (1000 : Int32) = nI 1000 from rfl, nI_leI (by omega) (by omega)]; omega
    right
    rcases r_own hk i with ⟨f1, o1⟩ | ⟨f1, q, -, o1, nq⟩
    · by_cases e : i = 0
      · subst e
        have hb : sgB (h.1 1) c 0 = true := by unfold sgB; rw [f1, decide_eq_true rfl]; rfl
        refine ⟨_, rfl, fun k => ?_⟩
        simp only [b_X7_gaps_L4, m_X7_gaps_L4]
        rw [if_neg hcond, bnd_e o1, if_pos rfl, if_pos (show nI 0 = 0 from rfl), cn_s hb, nI_1, nI_1]
      · have e0 : ¬ nI i = 0 := nI_ne0 (by omega) (by omega)
        have ei : nI i - (1 : Int32) = nI (i - 1) := by
          obtain ⟨b, rfl⟩ : ∃ b, i = b + 1 := ⟨i - 1, by omega⟩
          rw [nI_pred, Nat.add_sub_cancel]
        rcases r_own hk (i - 1) with ⟨f2, o2⟩ | ⟨f2, q, -, o2, nq⟩
        · have hb : sgB (h.1 1) c i = false := by unfold sgB; rw [f1, f2, decide_eq_false e]; rfl
          refine ⟨_, rfl, fun k => ?_⟩
          simp only [b_X7_gaps_L4, m_X7_gaps_L4]
          rw [if_neg hcond, bnd_e o1, if_pos rfl, if_neg e0, ei, bnd_e o2, if_pos rfl, cn_n hb, nI_z, nI_1]
        · have hb : sgB (h.1 1) c i = true := by unfold sgB; rw [f1, f2]; simp only [Bool.not_false, Bool.or_true, Bool.and_self]
          refine ⟨_, rfl, fun k => ?_⟩
          simp only [b_X7_gaps_L4, m_X7_gaps_L4]
          rw [if_neg hcond, bnd_e o1, if_pos rfl, if_neg e0, ei, bnd_e o2, if_neg nq, cn_s hb, nI_1, nI_1]
    · have hb : sgB (h.1 1) c i = false := by unfold sgB; rw [f1, Bool.false_and]
      refine ⟨_, rfl, fun k => ?_⟩
      simp only [b_X7_gaps_L4, m_X7_gaps_L4]
      rw [if_neg hcond, bnd_e o1, if_neg nq, cn_n hb, nI_z, nI_1]
  · rintro x rfl k
    simp only [b_X7_gaps_L4, m_X7_gaps_L4]
    rw [if_pos (show (1000 : Int32) ≤ nI 1000 by decide)]
end
