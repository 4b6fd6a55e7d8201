/-! TABLES. N: a table as one row of ints, as the reference lays it: 0 rows that came, 1 slices that came, 2 default, 3 4 settings, 5.. keys, 405.. values, 805.. places, 1205.. whether a slice is there, 1265.. 1325.. bounds. -/
def OkN (N : Nat → Int32) (n c : Nat) : Prop :=
  (N 0 = nI n ∧ n ≤ 400 ∧ N 1 = nI c ∧ c ≤ 60) ∧ ((N 2 = 0 ∨ N 2 = 1) ∧ (0 ≤ (N 3).toInt ∧ (N 3).toInt ≤ 2) ∧ (N 4 = 0 ∨ N 4 = 1)) ∧
  (∀ i, i < n → (0 ≤ (N (5 + i)).toInt ∧ (N (5 + i)).toInt < 1000) ∧ (-999 ≤ (N (405 + i)).toInt ∧ (N (405 + i)).toInt ≤ 999) ∧ (N (805 + i) = -1 ∨ N (805 + i) = 60 ∨ N (805 + i) = 61 ∨ ∃ q, q < c ∧ N (805 + i) = nI q ∧ N (1205 + q) = 1)) ∧
  (∀ q, q < c → (N (1205 + q) = 0 ∨ N (1205 + q) = 1) ∧ (N (1205 + q) = 1 → 0 ≤ (N (1265 + q)).toInt ∧ (N (1265 + q)).toInt < (N (1325 + q)).toInt ∧ (N (1325 + q)).toInt ≤ 1000)) ∧
  (∀ q r, q < c → r < c → N (1205 + q) = 1 → N (1205 + r) = 1 → q ≠ r → (N (1325 + q)).toInt ≤ (N (1265 + r)).toInt ∨ (N (1325 + r)).toInt ≤ (N (1265 + q)).toInt) ∧
  cn (fun i => N (805 + i) == 61) n ≤ 20
/-- the slices that are there by the order of their bounds: u 0, u 1 .. u (m - 1) -/
def SO (N : Nat → Int32) (c m : Nat) (u : Nat → Nat) : Prop :=
  m ≤ 12 ∧ (∀ j, j < m → u j < c ∧ N (1205 + u j) = 1) ∧ (∀ q, q < c → N (1205 + q) = 1 → ∃ j, j < m ∧ u j = q) ∧ (∀ i j, i < j → j < m → (N (1325 + u i)).toInt ≤ (N (1265 + u j)).toInt)
/-- the class's table t holds N -/
def CT (g : MG) (t : Nat) (N : Nat → Int32) (n m : Nat) (u : Nat → Nat) : Prop :=
  (g.1 (21 + 15 * t) 3 = N 0 ∧ g.1 (22 + 15 * t) 3 = nI m ∧ g.1 (22 + 15 * t) 4 = N 1 ∧ g.1 (20 + 15 * t) 2 = N 2 ∧ g.1 (20 + 15 * t) 3 = N 3 ∧ g.1 (20 + 15 * t) 4 = N 4) ∧
  (∀ i, i < n → g.1 (24 + 15 * t) i = N (5 + i) ∧ g.1 (26 + 15 * t) i = N (405 + i) ∧ g.1 (28 + 15 * t) i = N (805 + i)) ∧
  (∀ j, j < m → g.1 (30 + 15 * t) j = nI (u j) ∧ g.1 (32 + 15 * t) j = N (1265 + u j) ∧ g.1 (34 + 15 * t) j = N (1325 + u j))
def TB (g : MG) (t : Nat) (N : Nat → Int32) (n c m : Nat) (u : Nat → Nat) : Prop := OkN N n c ∧ SO N c m u ∧ CT g t N n m u
/-! what is read off N -/
def Own (N : Nat → Int32) (c : Nat) (k : Int32) (q : Nat) : Prop := q < c ∧ N (1205 + q) = 1 ∧ (N (1265 + q)).toInt ≤ k.toInt ∧ k.toInt < (N (1325 + q)).toInt
def OwnR (N : Nat → Int32) (c : Nat) (k r : Int32) : Prop := (∃ q, Own N c k q ∧ r = nI q) ∨ ((∀ q, ¬ Own N c k q) ∧ r = -1005)
def HomR (N : Nat → Int32) (c : Nat) (k r : Int32) : Prop := (∃ q, Own N c k q ∧ r = nI q) ∨ ((∀ q, ¬ Own N c k q) ∧ ((N 2 = 1 ∧ r = 60) ∨ (N 2 = 0 ∧ r = -1005)))
theorem own_u {N : Nat → Int32} {n c : Nat} {k : Int32} {q r : Nat} (h : OkN N n c) (hq : Own N c k q) (hr : Own N c k r) : q = r := by
  obtain ⟨-, -, -, h3, h4, -⟩ := h
  by_cases e : q = r
  · exact e
  · have := h4 q r hq.1 hr.1 hq.2.1 hr.2.1 e
    have a1 := hq.2.2
    have a2 := hr.2.2
    omega
theorem homR_u {N : Nat → Int32} {n c : Nat} {k r r' : Int32} (h : OkN N n c) (h1 : HomR N c k r) (h2 : HomR N c k r') : r = r' := by
  rcases h1 with ⟨q, hq, rfl⟩ | ⟨hn, h1⟩
  · rcases h2 with ⟨q', hq', rfl⟩ | ⟨hn, h2⟩
    · rw [own_u h hq hq']
    · exact absurd hq (hn q)
  · rcases h2 with ⟨q', hq', rfl⟩ | ⟨-, h2⟩
    · exact absurd hq' (hn q')
    · rcases h1 with ⟨a, rfl⟩ | ⟨a, rfl⟩ <;> rcases h2 with ⟨b, rfl⟩ | ⟨b, rfl⟩
      · rfl
      · rw [a] at b; exact absurd b (by decide)
      · rw [a] at b; exact absurd b (by decide)
      · rfl
/-! the class's reads of a table -/
section
variable {g : MG} {t : Nat} {N : Nat → Int32} {n c m : Nat} {u : Nat → Nat}
theorem TB.n4 (h : TB g t N n c m u) : n ≤ 400 := h.1.1.2.1
theorem TB.c6 (h : TB g t N n c m u) : c ≤ 60 := h.1.1.2.2.2
theorem TB.m12 (h : TB g t N n c m u) : m ≤ 12 := h.2.1.1
theorem TB.came (h : TB g t N n c m u) : g.1 (21 + 15 * t) 3 = nI n := h.2.2.1.1.trans h.1.1.1
theorem TB.am (h : TB g t N n c m u) : g.1 (22 + 15 * t) 3 = nI m := h.2.2.1.2.1
theorem c_place (h : TB g t N n c m u) {i : Nat} (hi : i < n) : m_X3_placeOf g t (nI i) = some (N (805 + i)) := by
  have hn := h.n4
  unfold m_X3_placeOf
  rw [if_neg (nI_pos (by omega)), if_neg (by rw [h.came, nI_leI (by omega) (by omega)]; omega), bnd_e (e_at (by omega) (by omega)), (h.2.2.2.1 i hi).2.2]
theorem c_place_out (h : TB g t N n c m u) {x : Int32} (hx : x.toInt < 0 ∨ (n : Int) ≤ x.toInt) : m_X3_placeOf g t x = some (-1) := by
  have hn := h.n4
  unfold m_X3_placeOf
  by_cases h0 : x < 0
  · rw [if_pos h0]
  · rw [if_neg h0, if_pos]
    rw [h.came]
    have h1 : 0 ≤ x.toInt := Int32.le_iff_toInt_le.mp (Int32.not_lt.mp h0)
    exact Int32.le_iff_toInt_le.mpr (by rw [nI_toInt (by omega)]; omega)
theorem c_key (h : TB g t N n c m u) {i : Nat} (hi : i < n) : m_X3_keyOf g t (nI i) = some (N (5 + i)) := by
  have hn := h.n4
  unfold m_X3_keyOf
  rw [bnd_e (e_at (by omega) (by omega)), (h.2.2.2.1 i hi).1]
theorem c_val (h : TB g t N n c m u) {i : Nat} (hi : i < n) : m_X3_valueOf g t (nI i) = some (N (405 + i)) := by
  have hn := h.n4
  unfold m_X3_valueOf
  rw [bnd_e (e_at (by omega) (by omega)), (h.2.2.2.1 i hi).2.1]
/-- a row of a place with a key between -/
def RB (N : Nat → Int32) (p lo hi : Int32) (i : Nat) : Bool := decide (N (805 + i) = p) && (decide (lo.toInt ≤ (N (5 + i)).toInt) && decide ((N (5 + i)).toInt < hi.toInt))
theorem c_lies (h : TB g t N n c m u) {i : Nat} (hi : i < n) {p lo hi' : Int32} : m_X3_liesWithKey g t (nI i) p lo hi' = some (if RB N p lo hi' i = true then 1 else 0) := by
  unfold m_X3_liesWithKey
  rw [bnd_e (c_place h hi)]
  by_cases h1 : N (805 + i) = p
  · rw [if_pos h1, bnd_e (c_key h hi)]
    by_cases h2 : N (5 + i) < lo
    · rw [if_pos h2, if_neg]
      have := Int32.lt_iff_toInt_lt.mp h2
      simp only [RB, Bool.and_eq_true, decide_eq_true_eq]
      omega
    · rw [if_neg h2, bnd_e (c_key h hi)]
      have h2' := Int32.le_iff_toInt_le.mp (Int32.not_lt.mp h2)
      by_cases h3 : hi' ≤ N (5 + i)
      · rw [if_pos h3, if_neg]
        have := Int32.le_iff_toInt_le.mp h3
        simp only [RB, Bool.and_eq_true, decide_eq_true_eq]
        omega
      · rw [if_neg h3, if_pos]
        have := Int32.lt_iff_toInt_lt.mp (Int32.not_le.mp h3)
        simp only [RB, Bool.and_eq_true, decide_eq_true_eq]
        exact ⟨h1, h2', this⟩
  · rw [if_neg h1, if_neg]
    simp only [RB, Bool.and_eq_true, decide_eq_true_eq]
    exact fun h => h1 h.1
theorem c_amountK (h : TB g t N n c m u) (p lo hh : Int32) : m_X3_amountWithKeys g t p lo hh = some (nI (cn (RB N p lo hh) n)) := by
  have hn := h.n4
  unfold m_X3_amountWithKeys
  refine lpo_eq (fun i x => x = (nI (cn (RB N p lo hh) i), nI i)) n (by omega) rfl ?_ ?_
  · rintro i x hi rfl
    right
    cases hb : RB N p lo hh i with
    | true =>
      refine ⟨_, rfl, fun k => ?_⟩
      simp only [b_X3_amountWithKeys_L6, m_X3_amountWithKeys_L6]
      rw [h.came, if_neg (by rw [nI_leI (by omega) (by omega)]; omega), bnd_e (c_lies h hi), hb, if_pos rfl, if_neg (by decide), cn_s hb, nI_1, nI_1]
    | false =>
      refine ⟨_, rfl, fun k => ?_⟩
      simp only [b_X3_amountWithKeys_L6, m_X3_amountWithKeys_L6]
      rw [h.came, if_neg (by rw [nI_leI (by omega) (by omega)]; omega), bnd_e (c_lies h hi), hb, if_neg Bool.false_ne_true, if_pos rfl, cn_n hb, nI_1]
  · rintro x rfl k
    simp only [b_X3_amountWithKeys_L6, m_X3_amountWithKeys_L6]
    rw [h.came, if_pos (nI_le (Nat.le_refl n) (by omega))]
/-- a row of a place -/
def RP (N : Nat → Int32) (p : Int32) (i : Nat) : Bool := decide (N (805 + i) = p)
theorem rb_all (h : OkN N n c) (p : Int32) : cn (RB N p 0 1000) n = cn (RP N p) n := cn_congr (fun i hi => by
  have hk := (h.2.2.1 i hi).1
  have h1 : ((0 : Int32)).toInt ≤ (N (5 + i)).toInt := hk.1
  have h2 : (N (5 + i)).toInt < ((1000 : Int32)).toInt := hk.2
  simp only [RB, RP, decide_eq_true h1, decide_eq_true h2, Bool.and_true])
theorem c_amount (h : TB g t N n c m u) (p : Int32) : m_X3_amountAt g t p = some (nI (cn (RP N p) n)) := by
  unfold m_X3_amountAt
  rw [bnd_e (c_amountK h p 0 1000), rb_all h.1]
theorem c_has (h : TB g t N n c m u) {i : Nat} (hi : i < n) : m_X3_has g t (nI i) = some (if N (805 + i) = -1 then 0 else 1) := by
  unfold m_X3_has
  rw [bnd_e (c_place h hi)]
  split <;> rfl
theorem c_has_out (h : TB g t N n c m u) {x : Int32} (hx : x.toInt < 0 ∨ (n : Int) ≤ x.toInt) : m_X3_has g t x = some 0 := by
  unfold m_X3_has
  rw [bnd_e (c_place_out h hx), if_pos rfl]
theorem c_number (h : TB g t N n c m u) {j : Nat} (hj : j < m) : m_X4_numberAt g t (nI j) = some (nI (u j)) := by
  have := h.m12
  unfold m_X4_numberAt
  rw [bnd_e (e_at (by omega) (by omega)), (h.2.2.2.2 j hj).1]
theorem c_low (h : TB g t N n c m u) {j : Nat} (hj : j < m) : m_X4_lowAt g t (nI j) = some (N (1265 + u j)) := by
  have := h.m12
  unfold m_X4_lowAt
  rw [bnd_e (e_at (by omega) (by omega)), (h.2.2.2.2 j hj).2.1]
theorem c_high (h : TB g t N n c m u) {j : Nat} (hj : j < m) : m_X4_highAt g t (nI j) = some (N (1325 + u j)) := by
  have := h.m12
  unfold m_X4_highAt
  rw [bnd_e (e_at (by omega) (by omega)), (h.2.2.2.2 j hj).2.2]
/-- where a slice stands: its place, or none -/
theorem c_pos (h : TB g t N n c m u) {j : Nat} (hj : j < m) : m_X4_positionOf g t (nI (u j)) = some (nI j) := by
  have hm := h.m12
  have hinj : ∀ i, i < m → u i = u j → i = j := fun i hi e => by
    have hs := h.2.1.2.2.2
    have ho := h.1.2.2.2.1
    have h1 := h.2.1.2.1
    rcases Nat.lt_trichotomy i j with a | a | a
    · have := hs i j a hj
      have := (ho (u j) (h1 j hj).1).2 (h1 j hj).2
      rw [e] at *
      omega
    · exact a
    · have := hs j i a hi
      have := (ho (u j) (h1 j hj).1).2 (h1 j hj).2
      rw [e] at *
      omega
  unfold m_X4_positionOf
  refine lpo_eq (fun i x => x = nI i ∧ i ≤ j) m (by omega) ⟨rfl, Nat.zero_le j⟩ ?_ ?_
  · rintro i x hi ⟨rfl, hij⟩
    by_cases e : i = j
    · subst e
      left
      intro k
      simp only [b_X4_positionOf_L2, m_X4_positionOf_L2]
      rw [h.am, if_neg (by rw [nI_leI (by omega) (by omega)]; omega), bnd_e (c_number h hi), if_pos rfl]
    · right
      refine ⟨nI (i + 1), ⟨rfl, by omega⟩, fun k => ?_⟩
      have hc := h.c6
      have h1 := (h.2.1.2.1 i hi).1
      have h2 := (h.2.1.2.1 j hj).1
      simp only [b_X4_positionOf_L2, m_X4_positionOf_L2]
      rw [h.am, if_neg (by rw [nI_leI (by omega) (by omega)]; omega), bnd_e (c_number h hi), if_neg (by rw [nI_eq (by omega) (by omega)]; exact fun q => e (hinj i hi q)), nI_1]
  · rintro x ⟨rfl, hij⟩ k
    omega
theorem c_pos_no (h : TB g t N n c m u) {x : Int32} (hx : ∀ q, q < c → N (1205 + q) = 1 → x ≠ nI q) : m_X4_positionOf g t x = some (-1005) := by
  have hm := h.m12
  unfold m_X4_positionOf
  refine lpo_eq (fun i x => x = nI i) m (by omega) rfl ?_ ?_
  · rintro i y hi rfl
    right
    refine ⟨nI (i + 1), rfl, fun k => ?_⟩
    have h1 := h.2.1.2.1 i hi
    simp only [b_X4_positionOf_L2, m_X4_positionOf_L2]
    rw [h.am, if_neg (by rw [nI_leI (by omega) (by omega)]; omega), bnd_e (c_number h hi), if_neg (fun e => hx (u i) h1.1 h1.2 e.symm), nI_1]
  · rintro y rfl k
    simp only [b_X4_positionOf_L2, m_X4_positionOf_L2]
    rw [h.am, if_pos (nI_le (Nat.le_refl m) (by omega))]
theorem c_having (h : TB g t N n c m u) (x : Int32) : ∃ r, m_X4_having g t x = some r ∧ OwnR N c x r := by
  have hm := h.m12
  unfold m_X4_having
  refine lpo_P (fun i y => y = nI i ∧ ∀ j, j < i → ¬ Own N c x (u j)) m (OwnR N c x) 0 (Nat.zero_le m) (by omega) ⟨rfl, fun j hj => absurd hj (Nat.not_lt_zero j)⟩ ?_ ?_
  · rintro i y hi ⟨rfl, hno⟩
    have h1 := h.2.1.2.1 i hi
    by_cases h2 : x < N (1265 + u i)
    · right
      refine ⟨nI (i + 1), ⟨rfl, fun j hj => ?_⟩, fun k => ?_⟩
      · rcases Nat.lt_or_ge j i with a | a
        · exact hno j a
        · have : j = i := by omega
          subst this
          intro ho
          have := Int32.lt_iff_toInt_lt.mp h2
          have := ho.2.2
          omega
      · simp only [b_X4_having_L2, m_X4_having_L2]
        rw [h.am, if_neg (by rw [nI_leI (by omega) (by omega)]; omega), bnd_e (c_low h hi), if_pos h2, nI_1]
    · by_cases h3 : N (1325 + u i) ≤ x
      · right
        refine ⟨nI (i + 1), ⟨rfl, fun j hj => ?_⟩, fun k => ?_⟩
        · rcases Nat.lt_or_ge j i with a | a
          · exact hno j a
          · have : j = i := by omega
            subst this
            intro ho
            have := Int32.le_iff_toInt_le.mp h3
            have := ho.2.2
            omega
        · simp only [b_X4_having_L2, m_X4_having_L2]
          rw [h.am, if_neg (by rw [nI_leI (by omega) (by omega)]; omega), bnd_e (c_low h hi), if_neg h2, bnd_e (c_high h hi), if_pos h3, nI_1]
      · left
        intro k
        refine ⟨nI (u i), ?_, Or.inl ⟨u i, ⟨h1.1, h1.2, Int32.le_iff_toInt_le.mp (Int32.not_lt.mp h2), Int32.lt_iff_toInt_lt.mp (Int32.not_le.mp h3)⟩, rfl⟩⟩
        simp only [b_X4_having_L2, m_X4_having_L2]
        rw [h.am, if_neg (by rw [nI_leI (by omega) (by omega)]; omega), bnd_e (c_low h hi), if_neg h2, bnd_e (c_high h hi), if_neg h3, bnd_e (c_number h hi)]
  · rintro y ⟨rfl, hno⟩ k
    refine ⟨-1005, ?_, Or.inr ⟨fun q hq => ?_, rfl⟩⟩
    · simp only [b_X4_having_L2, m_X4_having_L2]
      rw [h.am, if_pos (nI_le (Nat.le_refl m) (by omega))]
    · obtain ⟨j, hj, rfl⟩ := h.2.1.2.2.1 q hq.1 hq.2.1
      exact hno j hj hq
theorem nI_ne_m {q : Nat} (hq : q < 2 ^ 31) {x : Int32} (hx : x.toInt < 0) : nI q ≠ x := fun e => by
  rw [← e, nI_toInt hq] at hx
  omega
theorem c_home (h : TB g t N n c m u) (x : Int32) : ∃ r, m_X5_home g t x = some r ∧ HomR N c x r := by
  obtain ⟨r, h1, h2⟩ := c_having h x
  have hc := h.c6
  have hon : g.1 (20 + 15 * t) 2 = N 2 := h.2.2.1.2.2.2.1
  unfold m_X5_home
  rw [bnd_e h1]
  rcases h2 with ⟨q, hq, rfl⟩ | ⟨hn, rfl⟩
  · have := hq.1
    rw [if_neg (nI_ne_m (by omega) (by decide))]
    exact ⟨_, rfl, Or.inl ⟨q, hq, rfl⟩⟩
  · rw [if_pos rfl, hon]
    rcases h.1.2.1.1 with e | e
    · rw [e, if_pos rfl]
      exact ⟨_, rfl, Or.inr ⟨hn, Or.inr ⟨e, rfl⟩⟩⟩
    · rw [e, if_neg (by decide)]
      exact ⟨_, rfl, Or.inr ⟨hn, Or.inl ⟨e, rfl⟩⟩⟩
end
