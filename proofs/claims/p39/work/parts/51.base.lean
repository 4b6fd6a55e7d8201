/-! numbers, rounds, counts -/
theorem lpo_ex {σ ρ : Type} {body : (σ → Option ρ) → σ → Option ρ} {I : Nat → σ → Prop} {K : Nat} {P : ρ → Prop}
    (hs : ∀ i x, i < K → I i x → (∀ k, ∃ r, body k x = some r ∧ P r) ∨ ∃ x', I (i + 1) x' ∧ ∀ k, body k x = k x')
    (he : ∀ x, I K x → ∀ k, ∃ r, body k x = some r ∧ P r) : ∀ (j i : Nat) (x : σ) (f : Nat), i + j = K → I i x → j < f → ∃ r, lpo body f x = some r ∧ P r := by
  intro j
  induction j with
  | zero =>
    intro i x f hi hx hf
    obtain ⟨f', rfl⟩ : ∃ f', f = f' + 1 := ⟨f - 1, by omega⟩
    have hiK : i = K := by omega
    subst hiK
    exact he x hx _
  | succ j ih =>
    intro i x f hi hx hf
    obtain ⟨f', rfl⟩ : ∃ f', f = f' + 1 := ⟨f - 1, by omega⟩
    rcases hs i x (by omega) hx with h | ⟨x', hx', h⟩
    · exact h _
    · obtain ⟨r, h1, h2⟩ := ih (i + 1) x' f' (by omega) hx' (by omega)
      exact ⟨r, (h _).trans h1, h2⟩
/-- a loop of at most K rounds from the i0-th on -/
theorem lpo_P {σ ρ : Type} {body : (σ → Option ρ) → σ → Option ρ} (I : Nat → σ → Prop) (K : Nat) (P : ρ → Prop) (i0 : Nat) {x0 : σ} (hi : i0 ≤ K) (hK : K < 10000) (h0 : I i0 x0)
    (hs : ∀ i x, i < K → I i x → (∀ k, ∃ r, body k x = some r ∧ P r) ∨ ∃ x', I (i + 1) x' ∧ ∀ k, body k x = k x')
    (he : ∀ x, I K x → ∀ k, ∃ r, body k x = some r ∧ P r) : ∃ r, lpo body fuelN x0 = some r ∧ P r :=
  lpo_ex hs he (K - i0) i0 x0 fuelN (by omega) h0 (by unfold fuelN; omega)
theorem lpo_eq {σ ρ : Type} {body : (σ → Option ρ) → σ → Option ρ} (I : Nat → σ → Prop) (K : Nat) {r0 : ρ} {x0 : σ} (hK : K < 10000) (h0 : I 0 x0)
    (hs : ∀ i x, i < K → I i x → (∀ k, body k x = some r0) ∨ ∃ x', I (i + 1) x' ∧ ∀ k, body k x = k x')
    (he : ∀ x, I K x → ∀ k, body k x = some r0) : lpo body fuelN x0 = some r0 := by
  obtain ⟨r, h1, rfl⟩ := lpo_P I K (fun r => r = r0) 0 (Nat.zero_le K) hK h0 (fun i x hi hx => (hs i x hi hx).imp (fun h k => ⟨r0, h k, rfl⟩) id) (fun x hx k => ⟨r0, he x hx k, rfl⟩)
  exact h1
def cn (p : Nat → Bool) : Nat → Nat
  | 0 => 0
  | n + 1 => cn p n + (if p n then 1 else 0)
theorem cn_le (p : Nat → Bool) : ∀ n, cn p n ≤ n
  | 0 => Nat.le_refl 0
  | n + 1 => by
    have := cn_le p n
    simp only [cn]
    split <;> omega
theorem cn_congr {p q : Nat → Bool} : ∀ {n : Nat}, (∀ i, i < n → p i = q i) → cn p n = cn q n
  | 0, _ => rfl
  | n + 1, h => by
    simp only [cn]
    rw [cn_congr (fun i hi => h i (by omega)), h n (Nat.lt_succ_self n)]
theorem cn_s {p : Nat → Bool} {n : Nat} (h : p n = true) : cn p (n + 1) = cn p n + 1 := by simp only [cn]; rw [if_pos h]
theorem cn_n {p : Nat → Bool} {n : Nat} (h : p n = false) : cn p (n + 1) = cn p n := by simp only [cn]; rw [if_neg (by rw [h]; exact Bool.false_ne_true)]; rfl
theorem cn_mono {p q : Nat → Bool} : ∀ {n : Nat}, (∀ i, i < n → p i = true → q i = true) → cn p n ≤ cn q n
  | 0, _ => Nat.le_refl 0
  | n + 1, h => by
    have := cn_mono (n := n) (fun i hi hp => h i (by omega) hp)
    cases hp : p n with
    | false => rw [cn_n hp]; simp only [cn]; omega
    | true => rw [cn_s hp, cn_s (h n (Nat.lt_succ_self n) hp)]; omega
theorem cn_0 {p : Nat → Bool} : ∀ {n : Nat}, (∀ i, i < n → p i = false) → cn p n = 0
  | 0, _ => rfl
  | n + 1, h => by rw [cn_n (h n (Nat.lt_succ_self n)), cn_0 (fun i hi => h i (by omega))]
theorem cn_pos {p : Nat → Bool} {n i : Nat} (hi : i < n) (h : p i = true) : 0 < cn p n := by
  rcases Nat.eq_zero_or_pos (cn p n) with h0 | h0
  · exfalso
    have : ∀ {n : Nat}, i < n → cn p n ≠ 0 := by
      intro n
      induction n with
      | zero => intro h; omega
      | succ n ih =>
        intro hin h0
        rcases Nat.lt_or_ge i n with h1 | h1
        · have := ih h1
          simp only [cn] at h0
          omega
        · have : i = n := by omega
          subst this
          rw [cn_s h] at h0
          omega
    exact this hi h0
  · exact h0
theorem vin_nI {j n : Nat} (hj : j < n) (hn : n < 2 ^ 31) : vin (nI j) n := vp_in_nI hj hn
/-- addition that stays in range -/
theorem i_add {a b : Int32} (h1 : -2147483648 ≤ a.toInt + b.toInt) (h2 : a.toInt + b.toInt < 2147483648) : (a + b).toInt = a.toInt + b.toInt := by
  rw [Int32.toInt_add]
  exact Int.bmod_eq_of_le (by omega) (by omega)
theorem i_sub {a b : Int32} (h1 : -2147483648 ≤ a.toInt - b.toInt) (h2 : a.toInt - b.toInt < 2147483648) : (a - b).toInt = a.toInt - b.toInt := by
  rw [Int32.toInt_sub]
  exact Int.bmod_eq_of_le (by omega) (by omega)
theorem nI_eqI {a b : Nat} (ha : a < 2 ^ 31) (hb : b < 2 ^ 31) : nI a = nI b ↔ a = b := nI_eq ha hb
/-! the memory -/
section
variable {g : MG} {k j : Nat} {v : Int32}
theorem gw_ne {k' : Nat} (h : k' ≠ k) : (g_w g k j v).1 k' = g.1 k' := va_up_ne _ _ h
theorem gw_eq : (g_w g k j v).1 k = upd (g.1 k) j v := va_up_self _ _ _
theorem gw_at {i : Nat} : (g_w g k j v).1 k i = if i = j then v else g.1 k i := by rw [gw_eq]; rfl
theorem gw_2 : (g_w g k j v).2 = g.2 := rfl
theorem gc_ne {f : Nat → Int32} {k' : Nat} (h : k' ≠ k) : (g_c g k f).1 k' = g.1 k' := va_up_ne _ _ h
theorem gc_eq {f : Nat → Int32} : (g_c g k f).1 k = f := va_up_self _ _ _
theorem gc_2 {f : Nat → Int32} : (g_c g k f).2 = g.2 := rfl
theorem e_at {n : Nat} (hj : j < n) (hn : n ≤ 6000) : m_X0_at g k n (nI j) = some (g.1 k j) := by
  unfold m_X0_at
  rw [if_neg (nI_pos (by omega)), if_neg (by rw [nI_leI (by omega) (by omega)]; omega), if_pos (vin_nI hj (by omega)), nI_clamp (by omega)]
theorem e_at_out {n : Nat} {x : Int32} (hn : n ≤ 6000) (hx : x.toInt < 0 ∨ (n : Int) ≤ x.toInt) : m_X0_at g k n x = some 0 := by
  unfold m_X0_at
  by_cases h0 : x < 0
  · rw [if_pos h0]
  · rw [if_neg h0]
    have h1 : 0 ≤ x.toInt := by
      have := Int32.le_iff_toInt_le.mp (Int32.not_lt.mp h0)
      exact this
    rw [if_pos (Int32.le_iff_toInt_le.mpr (by rw [nI_toInt (by omega)]; omega))]
theorem e_wr {n : Nat} (hj : j < n) (hn : n ≤ 6000) : m_X0_write g k n (nI j) v = some (g_w g k j v) := by
  unfold m_X0_write
  rw [if_neg (nI_pos (by omega)), if_neg (by rw [nI_leI (by omega) (by omega)]; omega), if_pos (vin_nI hj (by omega)), nI_clamp (by omega)]
theorem e_wr_out {n : Nat} {x : Int32} (hn : n ≤ 6000) (hx : x.toInt < 0 ∨ (n : Int) ≤ x.toInt) : m_X0_write g k n x v = some g := by
  unfold m_X0_write
  by_cases h0 : x < 0
  · rw [if_pos h0]
  · rw [if_neg h0]
    have h1 : 0 ≤ x.toInt := by
      have := Int32.le_iff_toInt_le.mp (Int32.not_lt.mp h0)
      exact this
    rw [if_pos (Int32.le_iff_toInt_le.mpr (by rw [nI_toInt (by omega)]; omega))]
theorem e_cp {n k2 : Nat} (hn : n ≤ 6000) : m_X0_copyFrom g k n k2 n = some (g_c g k (va_cpy (g.1 k2) (g.1 k) 0 0 n)) := by
  unfold m_X0_copyFrom
  have h0 : ¬ nI n < nI n := nI_nlt (Nat.le_refl n) (by omega)
  simp only [if_neg h0]
  rw [nI_clamp (by omega), if_pos ⟨nI_pos (by omega), Nat.le_refl n, Nat.le_refl n⟩]
end
theorem bnd_e {α β : Type} {x : Option α} {v : α} {f : α → Option β} (h : x = some v) : bnd x f = f v := by rw [h]; rfl
theorem bnd2_e {α γ β : Type} {x : Option (α × γ)} {v : α} {w : γ} {f : α → γ → Option β} (h : x = some (v, w)) : bnd2 x f = f v w := by rw [h]; rfl
