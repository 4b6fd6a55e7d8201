/-! strays, ranks; reads that both sides answer alike -/
theorem cn_lt {p : Nat → Bool} {i j : Nat} (h : i < j) (hp : p i = true) : cn p i < cn p j := by
  induction j with
  | zero => omega
  | succ j ih =>
    rcases Nat.lt_or_ge i j with a | a
    · have := ih a
      simp only [cn]
      omega
    · have : i = j := by omega
      subst this
      rw [cn_s hp]
      omega
/-- the row of a rank among those with p -/
def RkR (p : Nat → Bool) (n : Nat) (x r : Int32) : Prop := (∃ i, i < n ∧ p i = true ∧ x = nI (cn p i) ∧ r = nI i) ∨ ((∀ i, i < n → p i = true → x ≠ nI (cn p i)) ∧ r = -1005)
theorem rk_u {p : Nat → Bool} {n : Nat} (hn : n ≤ 2000) {x r r' : Int32} (h : RkR p n x r) (h' : RkR p n x r') : r = r' := by
  rcases h with ⟨i, hi, hp, hx, rfl⟩ | ⟨hno, rfl⟩
  · rcases h' with ⟨j, hj, hp', hx', rfl⟩ | ⟨hno, -⟩
    · have e : cn p i = cn p j := by
        have h1 := cn_le p i
        have h2 := cn_le p j
        exact (nI_eq (by omega) (by omega)).mp (hx.symm.trans hx')
      rcases Nat.lt_trichotomy i j with a | a | a
      · have := cn_lt a hp
        omega
      · rw [a]
      · have := cn_lt a hp'
        omega
    · exact absurd hx (hno i hi hp)
  · rcases h' with ⟨j, hj, hp', hx', rfl⟩ | ⟨-, rfl⟩
    · exact absurd hx' (hno j hj hp')
    · rfl
theorem lt_up {P : Nat → Prop} {i : Nat} (h : ∀ j, j < i → P j) (hi : P i) : ∀ j, j < i + 1 → P j := fun j hj => by
  rcases Nat.lt_or_ge j i with a | a
  · exact h j a
  · have : j = i := by omega
    subst this
    exact hi
def StP (N : Nat → Int32) (c i : Nat) : Prop := N (805 + i) ≠ -1 ∧ N (805 + i) ≠ 61 ∧ ¬ HomR N c (N (5 + i)) (N (805 + i))
noncomputable def stB (N : Nat → Int32) (c i : Nat) : Bool := @decide (StP N c i) (Classical.propDecidable _)
theorem st_t {N : Nat → Int32} {c i : Nat} (h : StP N c i) : stB N c i = true := by
  unfold stB
  exact @decide_eq_true _ (Classical.propDecidable _) h
theorem st_f {N : Nat → Int32} {c i : Nat} (h : ¬ StP N c i) : stB N c i = false := by
  unfold stB
  exact @decide_eq_false _ (Classical.propDecidable _) h
section
variable {g : MG} {t : Nat} {N : Nat → Int32} {n c m : Nat} {u : Nat → Nat}
theorem c_inTable (h : TB g t N n c m u) {i : Nat} (hi : i < n) : m_X3_isInTable g t (nI i) = some (if N (805 + i) = -1 then 0 else if N (805 + i) = 61 then 0 else 1) := by
  unfold m_X3_isInTable
  rw [bnd_e (c_place h hi)]
  split
  · rfl
  · split <;> rfl
theorem c_stray (h : TB g t N n c m u) {i : Nat} (hi : i < n) : m_X5_isStray g t (nI i) = some (if stB N c i = true then 1 else 0) := by
  unfold m_X5_isStray
  rw [bnd_e (c_inTable h hi)]
  by_cases h1 : N (805 + i) = -1
  · rw [if_pos h1, if_pos rfl, st_f (fun q => q.1 h1)]; rfl
  · by_cases h2 : N (805 + i) = 61
    · rw [if_neg h1, if_pos h2, if_pos rfl, st_f (fun q => q.2.1 h2)]; rfl
    · rw [if_neg h1, if_neg h2, if_neg (by decide), bnd_e (c_key h hi)]
      obtain ⟨r, hr, hR⟩ := c_home h (N (5 + i))
      rw [bnd_e hr, bnd_e (c_place h hi)]
      by_cases e : r = N (805 + i)
      · rw [if_pos e, st_f (fun q => q.2.2 (e ▸ hR))]; rfl
      · rw [if_neg e, st_t ⟨h1, h2, fun q => e (homR_u h.1 hR q)⟩]; rfl
theorem c_strays (h : TB g t N n c m u) : m_X5_strays g t = some (nI (cn (stB N c) n)) := by
  have hn := h.n4
  unfold m_X5_strays
  refine lpo_eq (fun i x => x = (nI (cn (stB N c) i), nI i)) n (by omega) rfl ?_ ?_
  · rintro i x hi rfl
    right
    cases hb : stB N c i with
    | true =>
      refine ⟨_, rfl, fun k => ?_⟩
      simp only [b_X5_strays_L4, m_X5_strays_L4]
      rw [h.came, if_neg (by rw [nI_leI (by omega) (by omega)]; omega), bnd_e (c_stray h hi), hb, if_pos rfl, if_neg (by decide), cn_s hb, nI_1, nI_1]
    | false =>
      refine ⟨_, rfl, fun k => ?_⟩
      simp only [b_X5_strays_L4, m_X5_strays_L4]
      rw [h.came, if_neg (by rw [nI_leI (by omega) (by omega)]; omega), bnd_e (c_stray h hi), hb, if_neg Bool.false_ne_true, if_pos rfl, cn_n hb, nI_1]
  · rintro x rfl k
    simp only [b_X5_strays_L4, m_X5_strays_L4]
    rw [h.came, if_pos (nI_le (Nat.le_refl n) (by omega))]
theorem c_unfitRows (h : TB g t N n c m u) (lo hh : Int32) : m_X5_unfitRows g t lo hh = some (nI (cn (RP N 61) n) - nI (cn (RB N 61 lo hh) n)) := by
  unfold m_X5_unfitRows
  rw [bnd_e (c_amount h 61), bnd_e (c_amountK h 61 lo hh)]
theorem c_hasS (h : TB g t N n c m u) {j : Nat} (hj : j < m) : m_X4_has g t (nI (u j)) = some 1 := by
  have := h.m12
  unfold m_X4_has
  rw [bnd_e (c_pos h hj), if_neg (nI_ne_m (by omega) (by decide))]
theorem c_hasS_no (h : TB g t N n c m u) {x : Int32} (hx : ∀ q, q < c → N (1205 + q) = 1 → x ≠ nI q) : m_X4_has g t x = some 0 := by
  unfold m_X4_has
  rw [bnd_e (c_pos_no h hx), if_pos rfl]
/-- a number is that of a slice that is there, or of none -/
theorem sl_or (h : TB g t N n c m u) (x : Int32) : (∃ j, j < m ∧ x = nI (u j)) ∨ (∀ q, q < c → N (1205 + q) = 1 → x ≠ nI q) := by
  by_cases e : ∃ q, q < c ∧ N (1205 + q) = 1 ∧ x = nI q
  · obtain ⟨q, hq, ha, rfl⟩ := e
    obtain ⟨j, hj, rfl⟩ := h.2.1.2.2.1 q hq ha
    exact Or.inl ⟨j, hj, rfl⟩
  · exact Or.inr (fun q hq ha hx => e ⟨q, hq, ha, hx⟩)
theorem row_or (n : Nat) (hn : n ≤ 2000) (x : Int32) : (∃ i, i < n ∧ x = nI i) ∨ (x.toInt < 0 ∨ (n : Int) ≤ x.toInt) := by
  rcases pk_ix x (n := n) (by omega) with h | h | ⟨j, hj, rfl⟩
  · exact Or.inr (Or.inl (Int32.lt_iff_toInt_lt.mp h))
  · have := Int32.le_iff_toInt_le.mp h
    rw [nI_toInt (by omega)] at this
    exact Or.inr (Or.inr this)
  · exact Or.inl ⟨j, hj, rfl⟩
theorem c_isKey (x : Int32) : m_X6_isKey g x = some (if 0 ≤ x.toInt ∧ x.toInt < 1000 then 1 else 0) := by
  unfold m_X6_isKey
  by_cases h1 : x < 0
  · rw [if_pos h1, if_neg]
    have : x.toInt < 0 := Int32.lt_iff_toInt_lt.mp h1
    omega
  · have h1' : 0 ≤ x.toInt := Int32.le_iff_toInt_le.mp (Int32.not_lt.mp h1)
    rw [if_neg h1]
    by_cases h2 : (1000 : Int32) ≤ x
    · rw [if_pos h2, if_neg]
      have : 1000 ≤ x.toInt := Int32.le_iff_toInt_le.mp h2
      omega
    · rw [if_neg h2, if_pos]
      have : x.toInt < 1000 := Int32.lt_iff_toInt_lt.mp (Int32.not_le.mp h2)
      omega
end
section
variable {g h : MG} {n c m : Nat} {u : Nat → Nat}
theorem r_isSlice_no (hk : OkN (h.1 1) n c) {x : Int32} (hx : ∀ q, q < c → h.1 1 (1205 + q) = 1 → x ≠ nI q) : m_X7_isSlice h x = some 0 := by
  have hc := hk.1.2.2.2
  rcases row_or c (by omega) x with ⟨q, hq, rfl⟩ | ho
  · rw [r_isSlice hk hq, if_neg (fun ha => hx q hq ha rfl)]
  · exact r_isSlice_out hk ho
theorem r_stray (hk : OkN (h.1 1) n c) {i : Nat} (hi : i < n) : m_X7_isStray h (nI i) = some (if stB (h.1 1) c i = true then 1 else 0) := by
  have hn := hk.1.2.1
  unfold m_X7_isStray
  rw [if_pos (v805 (by omega)), a805 (by omega)]
  by_cases h1 : h.1 1 (805 + i) = -1
  · rw [if_pos h1, st_f (fun q => q.1 h1)]; rfl
  · rw [if_neg h1]
    by_cases h2 : h.1 1 (805 + i) = 61
    · rw [if_pos h2, st_f (fun q => q.2.1 h2)]; rfl
    · rw [if_neg h2, if_pos (v5 (by omega)), a5 (by omega)]
      obtain ⟨r, hr, hR⟩ := r_home hk (h.1 1 (5 + i))
      rw [bnd_e hr]
      by_cases e : h.1 1 (805 + i) = r
      · rw [if_pos e, st_f (fun q => q.2.2 (e.symm ▸ hR))]; rfl
      · rw [if_neg e, st_t ⟨h1, h2, fun q => e (homR_u hk q hR)⟩]; rfl
theorem r_strays (hk : OkN (h.1 1) n c) : m_X7_strays h = some (nI (cn (stB (h.1 1) c) n)) := by
  have hn := hk.1.2.1
  unfold m_X7_strays
  refine lpo_eq (fun i x => x = (nI (cn (stB (h.1 1) c) i), nI i)) n (by omega) rfl ?_ ?_
  · rintro i x hi rfl
    have hcond : ¬ h.1 1 0 ≤ nI i := by rw [hk.1.1, nI_leI (by omega) (by omega)]; omega
    right
    cases hb : stB (h.1 1) c i with
    | true =>
      refine ⟨_, rfl, fun k => ?_⟩
      simp only [b_X7_strays_L4, m_X7_strays_L4]
      rw [if_pos vk0, ak0, if_neg hcond, bnd_e (r_stray hk hi), hb, if_pos rfl, if_neg (by decide), cn_s hb, nI_1, nI_1]
    | false =>
      refine ⟨_, rfl, fun k => ?_⟩
      simp only [b_X7_strays_L4, m_X7_strays_L4]
      rw [if_pos vk0, ak0, if_neg hcond, bnd_e (r_stray hk hi), hb, if_neg Bool.false_ne_true, if_pos rfl, cn_n hb, nI_z, nI_1]
  · rintro x rfl k
    simp only [b_X7_strays_L4, m_X7_strays_L4]
    rw [if_pos vk0, ak0, hk.1.1, if_pos (nI_le (Nat.le_refl n) (by omega))]
theorem p_belongs (hT : TB g 0 (h.1 1) n c m u) (x : Int32) : ∃ r, m_X6_belongs g x = some r ∧ m_X7_belongs h x = some r := by
  unfold m_X6_belongs m_X7_belongs
  rw [bnd_e (c_isKey x)]
  by_cases e : 0 ≤ x.toInt ∧ x.toInt < 1000
  · rw [if_pos e, bnd_e (r_in1 (by show (0 : Int) ≤ x.toInt ∧ x.toInt ≤ (999 : Int); omega))]
    obtain ⟨r, hr, hR⟩ := c_home hT x
    obtain ⟨r', hr', hR'⟩ := r_home hT.1 x
    rw [if_neg (by decide), if_neg (by decide), bnd_e hr, bnd_e hr', homR_u hT.1 hR hR']
    exact ⟨_, rfl, rfl⟩
  · rw [if_neg e, bnd_e (r_in0 (by show ¬ ((0 : Int) ≤ x.toInt ∧ x.toInt ≤ (999 : Int)); omega)), if_pos rfl, if_pos rfl]
    exact ⟨_, rfl, rfl⟩
theorem p_row (hT : TB g 0 (h.1 1) n c m u) (x y : Int32) : ∃ r, m_X6_row g x y = some r ∧ m_X7_row h x y = some r := by
  have hn := hT.n4
  unfold m_X6_row m_X7_row
  rcases row_or n (by omega) x with ⟨i, hi, rfl⟩ | ho
  · rw [bnd_e (c_has hT hi), bnd_e (r_isRow hT.1 hi)]
    by_cases h1 : h.1 1 (805 + i) = -1
    · rw [if_pos h1, if_pos rfl, if_pos rfl]
      exact ⟨_, rfl, rfl⟩
    · have ne : ¬ (1 : Int32) = 0 := by decide
      have hi4 : i < 400 := by omega
      rw [if_neg h1, if_neg ne, if_neg ne]
      by_cases e0 : y = 0
      · rw [if_pos e0, if_pos e0, bnd_e (c_key hT hi), if_pos (v5 hi4), a5 hi4]
        exact ⟨_, rfl, rfl⟩
      rw [if_neg e0, if_neg e0]
      by_cases e1 : y = 1
      · rw [if_pos e1, if_pos e1, bnd_e (c_val hT hi), if_pos (v405 hi4), a405 hi4]
        exact ⟨_, rfl, rfl⟩
      rw [if_neg e1, if_neg e1]
      by_cases e2 : y = 2
      · rw [if_pos e2, if_pos e2, bnd_e (c_place hT hi), if_pos (v805 hi4), a805 hi4]
        exact ⟨_, rfl, rfl⟩
      rw [if_neg e2, if_neg e2]
      by_cases e3 : y = 3
      · obtain ⟨r, hr, hR⟩ := c_home hT (h.1 1 (5 + i))
        obtain ⟨r', hr', hR'⟩ := r_home hT.1 (h.1 1 (5 + i))
        rw [if_pos e3, if_pos e3, bnd_e (c_key hT hi), bnd_e hr, if_pos (v5 hi4), a5 hi4, bnd_e hr', homR_u hT.1 hR hR']
        exact ⟨_, rfl, rfl⟩
      rw [if_neg e3, if_neg e3]
      by_cases e4 : y = 4
      · rw [if_pos e4, if_pos e4, bnd_e (c_stray hT hi), bnd_e (r_stray hT.1 hi)]
        split
        · exact ⟨_, rfl, rfl⟩
        · exact ⟨_, rfl, rfl⟩
      rw [if_neg e4, if_neg e4]
      exact ⟨_, rfl, rfl⟩
  · rw [bnd_e (c_has_out hT ho), bnd_e (r_isRow_out hT.1 ho), if_pos rfl, if_pos rfl]
    exact ⟨_, rfl, rfl⟩
theorem p_unfit (hT : TB g 0 (h.1 1) n c m u) (x : Int32) : ∃ r, m_X6_unfit g x = some r ∧ m_X7_unfit h x = some r := by
  have hm := hT.m12
  have hc := hT.c6
  unfold m_X6_unfit m_X7_unfit
  rcases sl_or hT x with ⟨j, hj, rfl⟩ | ho
  · obtain ⟨h1, h2⟩ := hT.2.1.2.1 j hj
    have hb := (hT.1.2.2.2.1 (u j) h1).2 h2
    rw [bnd_e (c_pos hT hj), if_neg (nI_ne_m (by omega) (by decide)), bnd_e (c_low hT hj), bnd_e (c_high hT hj), bnd_e (c_unfitRows hT _ _)]
    rw [bnd_e (r_isSlice hT.1 h1), if_pos h2, if_neg (by decide), bnd_e (r_rowsIn hT.1 61), if_pos (v1265 (by omega)), if_pos (v1325 (by omega)), a1265 (by omega), a1325 (by omega), bnd_e (r_rowsBetween hT.1 61 _ _ (by omega))]
    exact ⟨_, rfl, rfl⟩
  · rw [bnd_e (c_pos_no hT ho), if_pos rfl, bnd_e (r_isSlice_no hT.1 ho), if_pos rfl]
    exact ⟨_, rfl, rfl⟩
theorem p_stray (hT : TB g 0 (h.1 1) n c m u) (x : Int32) : ∃ r, m_X6_stray g x = some r ∧ m_X7_stray h x = some r := by
  have hn := hT.n4
  unfold m_X6_stray m_X7_stray
  by_cases h0 : (0 : Int32) ≤ x
  · rw [if_pos h0, if_pos h0]
    have h1 : ∃ r, lpo (b_X6_stray_L12 g x) fuelN (0, 0) = some r ∧ RkR (stB (h.1 1) c) n x r := by
      refine lpo_P (fun i y => y = (nI (cn (stB (h.1 1) c) i), nI i) ∧ ∀ j, j < i → stB (h.1 1) c j = true → x ≠ nI (cn (stB (h.1 1) c) j)) n _ 0 (Nat.zero_le n) (by omega) ⟨rfl, fun j hj => absurd hj (Nat.not_lt_zero j)⟩ ?_ ?_
      · rintro i y hi ⟨rfl, hno⟩
        have hcond : ¬ nI n ≤ nI i := by rw [nI_leI (by omega) (by omega)]; omega
        cases hb : stB (h.1 1) c i with
        | false =>
          right
          refine ⟨_, ⟨rfl, lt_up hno (fun q => absurd (hb.symm.trans q) Bool.false_ne_true)⟩, fun k => ?_⟩
          simp only [b_X6_stray_L12, m_X6_stray_L12]
          rw [hT.came, if_neg hcond, bnd_e (c_stray hT hi), hb, if_neg Bool.false_ne_true, if_pos rfl, cn_n hb, nI_1]
        | true =>
          by_cases e : nI (cn (stB (h.1 1) c) i) = x
          · left
            intro k
            refine ⟨nI i, ?_, Or.inl ⟨i, hi, hb, e.symm, rfl⟩⟩
            simp only [b_X6_stray_L12, m_X6_stray_L12]
            rw [hT.came, if_neg hcond, bnd_e (c_stray hT hi), hb, if_pos rfl, if_neg (by decide), if_pos e]
          · right
            refine ⟨_, ⟨rfl, lt_up hno (fun _ q => e q.symm)⟩, fun k => ?_⟩
            simp only [b_X6_stray_L12, m_X6_stray_L12]
            rw [hT.came, if_neg hcond, bnd_e (c_stray hT hi), hb, if_pos rfl, if_neg (by decide), if_neg e, cn_s hb, nI_1, nI_1]
      · rintro y ⟨rfl, hno⟩ k
        refine ⟨-1005, ?_, Or.inr ⟨hno, rfl⟩⟩
        simp only [b_X6_stray_L12, m_X6_stray_L12]
        rw [hT.came, if_pos (nI_le (Nat.le_refl n) (by omega))]
    have h2 : ∃ r, lpo (b_X7_stray_L12 h x) fuelN (x, 0) = some r ∧ RkR (stB (h.1 1) c) n x r := by
      obtain ⟨X, hX, rfl⟩ := nI_of (Int32.not_lt.mpr h0)
      refine lpo_P (fun i y => y = (nI (X - cn (stB (h.1 1) c) i), nI i) ∧ cn (stB (h.1 1) c) i ≤ X ∧ ∀ j, j < i → stB (h.1 1) c j = true → nI X ≠ nI (cn (stB (h.1 1) c) j)) n _ 0 (Nat.zero_le n) (by omega) ⟨rfl, Nat.zero_le X, fun j hj => absurd hj (Nat.not_lt_zero j)⟩ ?_ ?_
      · rintro i y hi ⟨rfl, hle, hno⟩
        have hcond : ¬ h.1 1 0 ≤ nI i := by rw [hT.1.1.1, nI_leI (by omega) (by omega)]; omega
        have hci := cn_le (stB (h.1 1) c) i
        cases hb : stB (h.1 1) c i with
        | false =>
          right
          refine ⟨_, ⟨rfl, by rw [cn_n hb]; exact hle, lt_up hno (fun q => absurd (hb.symm.trans q) Bool.false_ne_true)⟩, fun k => ?_⟩
          simp only [b_X7_stray_L12, m_X7_stray_L12]
          rw [if_pos vk0, ak0, if_neg hcond, bnd_e (r_stray hT.1 hi), hb, if_neg Bool.false_ne_true, if_pos rfl, cn_n hb, nI_1]
        | true =>
          by_cases e : X = cn (stB (h.1 1) c) i
          · left
            intro k
            refine ⟨nI i, ?_, Or.inl ⟨i, hi, hb, by rw [← e], rfl⟩⟩
            simp only [b_X7_stray_L12, m_X7_stray_L12]
            rw [if_pos vk0, ak0, if_neg hcond, bnd_e (r_stray hT.1 hi), hb, if_pos rfl, if_neg (by decide), if_pos (by rw [← e, Nat.sub_self]; rfl)]
          · right
            refine ⟨(nI (X - cn (stB (h.1 1) c) (i + 1)), nI (i + 1)), ⟨rfl, by rw [cn_s hb]; omega, lt_up hno (fun _ q => e ((nI_eq hX (by omega)).mp q))⟩, fun k => ?_⟩
            simp only [b_X7_stray_L12, m_X7_stray_L12]
            rw [if_pos vk0, ak0, if_neg hcond, bnd_e (r_stray hT.1 hi), hb, if_pos rfl, if_neg (by decide), if_neg (nI_ne0 (by omega) (by omega)), cn_s hb, nI_1, show X - cn (stB (h.1 1) c) i = (X - (cn (stB (h.1 1) c) i + 1)) + 1 by omega, pk_m1]
      · rintro y ⟨rfl, hle, hno⟩ k
        refine ⟨-1005, ?_, Or.inr ⟨hno, rfl⟩⟩
        simp only [b_X7_stray_L12, m_X7_stray_L12]
        rw [if_pos vk0, ak0, hT.1.1.1, if_pos (nI_le (Nat.le_refl n) (by omega))]
    obtain ⟨r, e1, e2⟩ := h1
    obtain ⟨r', e3, e4⟩ := h2
    exact ⟨r, e1, by rw [rk_u (by omega) e2 e4]; exact e3⟩
  · rw [if_neg h0, if_neg h0]
    exact ⟨_, rfl, rfl⟩
end
