/-! the relation of the two memories; a state is recorded on both sides -/
/-- two loops in step -/
theorem lpo_two' {σ ρ τ μ : Type} {b1 : (σ → Option ρ) → σ → Option ρ} {b2 : (τ → Option μ) → τ → Option μ} {I : Nat → σ → τ → Prop} {K : Nat} {P : ρ → μ → Prop}
    (hs : ∀ i x y, i < K → I i x y → (∀ k1 k2, ∃ r1 r2, b1 k1 x = some r1 ∧ b2 k2 y = some r2 ∧ P r1 r2) ∨ ∃ x' y', I (i + 1) x' y' ∧ (∀ k, b1 k x = k x') ∧ ∀ k, b2 k y = k y')
    (he : ∀ x y, I K x y → ∀ k1 k2, ∃ r1 r2, b1 k1 x = some r1 ∧ b2 k2 y = some r2 ∧ P r1 r2) : ∀ (j i : Nat) (x : σ) (y : τ) (f : Nat), i + j = K → I i x y → j < f → ∃ r1 r2, lpo b1 f x = some r1 ∧ lpo b2 f y = some r2 ∧ P r1 r2 := by
  intro j
  induction j with
  | zero =>
    intro i x y f hi hx hf
    obtain ⟨f', rfl⟩ : ∃ f', f = f' + 1 := ⟨f - 1, by omega⟩
    have hiK : i = K := by omega
    subst hiK
    exact he x y hx _ _
  | succ j ih =>
    intro i x y f hi hx hf
    obtain ⟨f', rfl⟩ : ∃ f', f = f' + 1 := ⟨f - 1, by omega⟩
    rcases hs i x y (by omega) hx with h | ⟨x', y', hx', h1, h2⟩
    · exact h _ _
    · obtain ⟨r1, r2, a1, a2, a3⟩ := ih (i + 1) x' y' f' (by omega) hx' (by omega)
      exact ⟨r1, r2, (h1 _).trans a1, (h2 _).trans a2, a3⟩
theorem lpo_two {σ ρ τ μ : Type} {b1 : (σ → Option ρ) → σ → Option ρ} {b2 : (τ → Option μ) → τ → Option μ} (I : Nat → σ → τ → Prop) (K : Nat) (P : ρ → μ → Prop) {x0 : σ} {y0 : τ} (hK : K < 10000) (h0 : I 0 x0 y0)
    (hs : ∀ i x y, i < K → I i x y → (∀ k1 k2, ∃ r1 r2, b1 k1 x = some r1 ∧ b2 k2 y = some r2 ∧ P r1 r2) ∨ ∃ x' y', I (i + 1) x' y' ∧ (∀ k, b1 k x = k x') ∧ ∀ k, b2 k y = k y')
    (he : ∀ x y, I K x y → ∀ k1 k2, ∃ r1 r2, b1 k1 x = some r1 ∧ b2 k2 y = some r2 ∧ P r1 r2) : ∃ r1 r2, lpo b1 fuelN x0 = some r1 ∧ lpo b2 fuelN y0 = some r2 ∧ P r1 r2 :=
  lpo_two' hs he K 0 x0 y0 fuelN (by omega) h0 (by unfold fuelN; omega)
abbrev QT : Type := (Nat → Int32) → (Nat → Int32) → (Nat → Int32) → (Nat → Int32) → (Nat → Int32) → Int32 → Prop
def Hist (g h : MG) : Prop := ∃ k, k ≤ 4 ∧ g.1 1 3 = nI k ∧ h.1 0 15 = nI k ∧ (∀ j, j < 4 → 1 ≤ g.2 j ∧ g.2 j ≤ 4) ∧ (∀ i j, i < 4 → j < 4 → g.2 i = g.2 j → i = j) ∧ (∀ j, j < k → ∃ n c m u, TB g (g.2 j) (fun i => h.1 3 (1385 * j + i)) n c m u) ∧ ((g.1 1 2 = 0 ∧ h.1 0 17 = 0) ∨ (g.1 1 2 = 1 ∧ h.1 0 17 = 1 ∧ ∃ n c m u, TB g 5 (h.1 2) n c m u))
def Rel (QP : QT) (g h : MG) : Prop := (∃ n c m u, TB g 0 (h.1 1) n c m u) ∧ Hist g h ∧ QP (g.1 3) (g.1 9) (g.1 11) (g.1 13) (h.1 4) (h.1 0 16)
theorem Hist.cong {g h g' h' : MG} (hH : Hist g h) (e2 : g'.2 = g.2) (e1 : g'.1 1 = g.1 1) (e3 : ∀ x, 35 ≤ x → g'.1 x = g.1 x) (f1 : h'.1 0 15 = h.1 0 15) (f2 : h'.1 0 17 = h.1 0 17) (f3 : h'.1 3 = h.1 3) (f4 : h'.1 2 = h.1 2) : Hist g' h' := by
  obtain ⟨k, a1, a2, a3, a4, a5, a6, a7⟩ := hH
  refine ⟨k, a1, by rw [e1]; exact a2, by rw [f1]; exact a3, by rw [e2]; exact a4, by rw [e2]; exact a5, fun j hj => ?_, ?_⟩
  · obtain ⟨n, c, m, u, hT⟩ := a6 j hj
    have := a4 j (by omega)
    rw [e2, f3]
    exact ⟨n, c, m, u, hT.cong (fun x h1 h2 => e3 x (by omega))⟩
  · rcases a7 with ⟨b1, b2⟩ | ⟨b1, b2, n, c, m, u, hT⟩
    · exact Or.inl ⟨by rw [e1]; exact b1, by rw [f2]; exact b2⟩
    · exact Or.inr ⟨by rw [e1]; exact b1, by rw [f2]; exact b2, n, c, m, u, by rw [f4]; exact hT.cong (fun x h1 h2 => e3 x (by omega))⟩
theorem rot_lt {f : Nat → Nat} {i j : Nat} (h : j < i) : rot f i j = f (j + 1) := by unfold rot; rw [if_pos h]
theorem rot_at {f : Nat → Nat} {i : Nat} : rot f i i = f 0 := by unfold rot; rw [if_neg (Nat.lt_irrefl i), if_pos rfl]
theorem rec_both {g h : MG} {n c m : Nat} {u : Nat → Nat} (hT : TB g 0 (h.1 1) n c m u) (hH : Hist g h) : ∃ g' h', m_X1_record g 0 = some g' ∧ m_X7_record h = some h' ∧ Hist g' h' ∧ (∀ x, x ≠ 1 → x < 35 → g'.1 x = g.1 x) ∧ (∀ x, x ≠ 0 → x ≠ 3 → h'.1 x = h.1 x) ∧ h'.1 0 16 = h.1 0 16 := by
  obtain ⟨k, a1, a2, a3, a4, a5, a6, a7⟩ := hH
  obtain ⟨g', T, b1, b2, b3, b4, b5, b6, b7⟩ := c_record hT a1 a2 a4
  obtain ⟨h', d1, d2, d3, d4⟩ := r_record a1 a3
  have snap : (g'.1 1 2 = 0 ∧ h'.1 0 17 = 0) ∨ (g'.1 1 2 = 1 ∧ h'.1 0 17 = 1 ∧ ∃ n c m u, TB g' 5 (h'.1 2) n c m u) := by
    rw [b6 2 (by omega), d3 17 (by omega), d2 2 (by omega) (by omega)]
    rcases a7 with e | ⟨e1, e2, n, c, m, u, hS⟩
    · exact Or.inl e
    · exact Or.inr ⟨e1, e2, n, c, m, u, hS.cong (fun x h1 h2 => b5 x (by omega) (by omega))⟩
  refine ⟨g', h', b1, d1, ?_, fun x h1 h2 => b5 x (by omega) h1, d2, d3 16 (by omega)⟩
  rcases b7 with ⟨h4, c1, c2, c3⟩ | ⟨h4, c1, c2, c3⟩
  · rcases d4 with ⟨-, f1, f2, f3⟩ | ⟨h5, -⟩
    · refine ⟨k + 1, by omega, c3, f1, by rw [c1]; exact a4, by rw [c1]; exact a5, fun j hj => ?_, snap⟩
      rw [c1]
      rcases Nat.lt_or_ge j k with hj' | hj'
      · obtain ⟨n, c, m, u, hS⟩ := a6 j hj'
        have hne : g.2 j ≠ g.2 k := fun e => by
          have := a5 j k (by omega) h4 e
          omega
        have := a4 j (by omega)
        refine ⟨n, c, m, u, (hS.cong (fun x h1 h2 => b5 x (by omega) (by omega))).congN (fun i hi => f2 _ ?_)⟩
        have : 1385 * (j + 1) ≤ 1385 * k := Nat.mul_le_mul (Nat.le_refl _) hj'
        omega
      · have : j = k := by omega
        subst this
        rw [← c2]
        exact ⟨n, c, m, u, b4.congN (fun i hi => f3 i hi)⟩
    · omega
  · subst h4
    rcases d4 with ⟨h5, -⟩ | ⟨-, f1, f2, f3⟩
    · omega
    · refine ⟨4, by omega, c3, f1, fun j hj => ?_, fun i j hi hj e => ?_, fun j hj => ?_, snap⟩
      · rw [c1]
        rcases (show j < 3 ∨ j = 3 by omega) with z | rfl
        · rw [rot_lt z]; exact a4 _ (by omega)
        · rw [rot_at]; exact a4 0 (by omega)
      · rw [c1] at e
        rcases (show i < 3 ∨ i = 3 by omega) with z | rfl <;> rcases (show j < 3 ∨ j = 3 by omega) with y | rfl
        · rw [rot_lt z, rot_lt y] at e
          have := a5 _ _ (by omega) (by omega) e
          omega
        · rw [rot_lt z, rot_at] at e
          have := a5 _ _ (by omega) (by omega) e
          omega
        · rw [rot_at, rot_lt y] at e
          have := a5 _ _ (by omega) (by omega) e
          omega
        · rfl
      · rw [c1]
        rcases (show j < 3 ∨ j = 3 by omega) with z | rfl
        · rw [rot_lt z]
          obtain ⟨n, c, m, u, hS⟩ := a6 (j + 1) (by omega)
          have hne : g.2 (j + 1) ≠ g.2 0 := fun e => by
            have := a5 (j + 1) 0 (by omega) (by omega) e
            omega
          have := a4 (j + 1) (by omega)
          exact ⟨n, c, m, u, (hS.cong (fun x h1 h2 => b5 x (by omega) (by omega))).congN (fun i hi => by
            show h'.1 3 (1385 * j + i) = h.1 3 (1385 * (j + 1) + i)
            rw [f2 _ (by omega), show 1385 * j + i + 1385 = 1385 * (j + 1) + i by omega])⟩
        · rw [rot_at, ← c2]
          exact ⟨n, c, m, u, b4.congN (fun i hi => f3 i hi)⟩
/-- an act: a state is recorded, then the table changes -/
theorem act_rel {QP : QT} {g h : MG} {n c m : Nat} {u : Nat → Nat} (hT : TB g 0 (h.1 1) n c m u) (hR : Rel QP g h) : ∃ g1 h1, m_X1_record g 0 = some g1 ∧ m_X7_record h = some h1 ∧ TB g1 0 (h1.1 1) n c m u ∧ (∀ x, 20 ≤ x → x < 35 → g1.1 x = g.1 x) ∧ h1.1 1 = h.1 1 ∧ Hist g1 h1 ∧ ∀ g2 h2 : MG, g2.2 = g1.2 → (∀ x, x < 20 ∨ 35 ≤ x → g2.1 x = g1.1 x) → (∀ x, x ≠ 1 → h2.1 x = h1.1 x) → (∃ n c m u, TB g2 0 (h2.1 1) n c m u) → Rel QP g2 h2 := by
  obtain ⟨g1, h1, a1, a2, a3, a4, a5, a6⟩ := rec_both hT hR.2.1
  refine ⟨g1, h1, a1, a2, ?_, fun x h1 h2 => a4 x (by omega) h2, a5 1 (by omega) (by omega), a3, fun g2 h2 e1 e2 e3 e4 => ⟨e4, ?_, ?_⟩⟩
  · rw [a5 1 (by omega) (by omega)]
    exact hT.cong (fun x h1 h2 => a4 x (by omega) (by omega))
  · exact a3.cong e1 (e2 1 (by omega)) (fun x hx => e2 x (by omega)) (by rw [e3 0 (by omega)]) (by rw [e3 0 (by omega)]) (e3 3 (by omega)) (e3 2 (by omega))
  · have hq := hR.2.2
    rw [e2 3 (by omega), e2 9 (by omega), e2 11 (by omega), e2 13 (by omega), e3 4 (by omega), e3 0 (by omega), a4 3 (by omega) (by omega), a4 9 (by omega) (by omega), a4 11 (by omega) (by omega), a4 13 (by omega) (by omega), a5 4 (by omega) (by omega), a6]
    exact hq
/-- only scratch changes -/
theorem scr_rel {QP : QT} {g h g' h' : MG} (hR : Rel QP g h) (e2 : g'.2 = g.2) (e1 : ∀ x, x = 1 ∨ x = 3 ∨ x = 9 ∨ x = 11 ∨ x = 13 ∨ 20 ≤ x → g'.1 x = g.1 x) (f1 : ∀ j, j = 15 ∨ j = 16 ∨ j = 17 → h'.1 0 j = h.1 0 j) (f2 : ∀ x, 1 ≤ x → x ≤ 4 → h'.1 x = h.1 x) : Rel QP g' h' := by
  obtain ⟨⟨n, c, m, u, hT⟩, hH, hQ⟩ := hR
  refine ⟨⟨n, c, m, u, ?_⟩, ?_, ?_⟩
  · rw [f2 1 (by omega) (by omega)]
    exact hT.cong (fun x h1 h2 => e1 x (by omega))
  · exact hH.cong e2 (e1 1 (by omega)) (fun x hx => e1 x (by omega)) (f1 15 (by omega)) (f1 17 (by omega)) (f2 3 (by omega) (by omega)) (f2 2 (by omega) (by omega))
  · rw [e1 3 (by omega), e1 9 (by omega), e1 11 (by omega), e1 13 (by omega), f2 4 (by omega) (by omega), f1 16 (by omega)]
    exact hQ
