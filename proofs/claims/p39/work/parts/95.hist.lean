/-! the history, and what an act is: it is refused and nothing changed, or a state was recorded and the table is another one -/
def HO (g : MG) : Prop := (∀ j, j < 4 → 1 ≤ g.2 j ∧ g.2 j ≤ 4) ∧ (∀ i j, i < 4 → j < 4 → g.2 i = g.2 j → i = j) ∧ ∃ k, k ≤ 4 ∧ g.1 1 3 = nI k
def Tp (g : MG) (N : Nat → Int32) (n c : Nat) : Prop := ∃ k, k ≤ 3 ∧ g.1 1 3 = nI (k + 1) ∧ ∃ m u, TB g (g.2 k) N n c m u
def Tq (g : MG) (N : Nat → Int32) (n c : Nat) : Prop := ∃ k, k ≤ 2 ∧ g.1 1 3 = nI (k + 2) ∧ ∃ m u, TB g (g.2 k) N n c m u
def Un (g g' : MG) : Prop := g'.2 = g.2 ∧ ∀ x, x ≠ 7 → g'.1 x = g.1 x
theorem Un.rf {g : MG} : Un g g := ⟨rfl, fun _ _ => rfl⟩
section
variable {g g' G : MG} {N N' : Nat → Int32} {n c m n' c' m' : Nat} {u u' : Nat → Nat}
theorem Un.T (h : Un g g') (hT : TB g 0 N n c m u) : TB g' 0 N n c m u := hT.cong (fun k _ _ => h.2 k (by omega))
theorem Un.H (h : Un g g') (hH : HO g) : HO g' := by
  unfold HO
  rw [h.1, h.2 1 (by omega)]
  exact hH
theorem Un.Tp (hH : HO g) (h : Un g g') (hp : Tp g N n c) : Tp g' N n c := by
  obtain ⟨k, h1, h2, m, u, h3⟩ := hp
  have := hH.1 k (by omega)
  exact ⟨k, h1, by rw [h.2 1 (by omega)]; exact h2, m, u, by rw [h.1]; exact h3.cong (fun x _ _ => h.2 x (by omega))⟩
theorem rot_23 {f : Nat → Nat} : rot f 3 2 = f 3 := rot_lt (by omega)
theorem rec_u (hT : TB g 0 N n c m u) (hH : HO g) : ∃ g1, m_X1_record g 0 = some g1 ∧ TB g1 0 N n c m u ∧ HO g1 ∧ Tp g1 N n c ∧ (∀ N' n' c', Tp g N' n' c' → Tq g1 N' n' c') ∧ (∀ x, x ≠ 1 → x < 35 → g1.1 x = g.1 x) ∧ ∃ k, k ≤ 3 ∧ g1.1 1 3 = nI (k + 1) ∧ (g.1 1 3 = nI k ∨ (g.1 1 3 = nI 4 ∧ k = 3)) := by
  obtain ⟨hb, hi, k, hk4, hkk⟩ := hH
  obtain ⟨g1, T, e1, t1, t2, e2, e3, e4, e5⟩ := c_record hT hk4 hkk hb
  have hfr : ∀ x, x ≠ 1 → x < 35 → g1.1 x = g.1 x := fun x h1 h2 => e3 x (by omega) h1
  have hother : ∀ t {N' : Nat → Int32} {n' c' m' : Nat} {u' : Nat → Nat}, 1 ≤ t → t ≠ T → TB g t N' n' c' m' u' → TB g1 t N' n' c' m' u' := fun t _ _ _ _ _ h1 h2 h3 => h3.cong (fun x a b => e3 x (by omega) (by omega))
  refine ⟨g1, e1, hT.cong (fun x h1 h2 => hfr x (by omega) (by omega)), ?_, ?_, ?_, hfr, ?_⟩
  · rcases e5 with ⟨h4, z1, z2, z3⟩ | ⟨h4, z1, z2, z3⟩
    · exact ⟨by rw [z1]; exact hb, by rw [z1]; exact hi, k + 1, by omega, z3⟩
    · refine ⟨fun j hj => ?_, fun i j hi' hj e => ?_, 4, Nat.le_refl 4, z3⟩
      · rw [z1]
        rcases (show j < 3 ∨ j = 3 by omega) with w | rfl
        · rw [rot_lt w]; exact hb _ (by omega)
        · rw [rot_at]; exact hb 0 (by omega)
      · rw [z1] at e
        rcases (show i < 3 ∨ i = 3 by omega) with w | rfl
        · rw [rot_lt w] at e
          rcases (show j < 3 ∨ j = 3 by omega) with w2 | rfl
          · rw [rot_lt w2] at e
            have := hi _ _ (by omega) (by omega) e
            omega
          · rw [rot_at] at e
            have := hi _ _ (by omega) (by omega) e
            omega
        · rw [rot_at] at e
          rcases (show j < 3 ∨ j = 3 by omega) with w2 | rfl
          · rw [rot_lt w2] at e
            have := hi _ _ (by omega) (by omega) e
            omega
          · rfl
  · rcases e5 with ⟨h4, z1, z2, z3⟩ | ⟨h4, z1, z2, z3⟩
    · exact ⟨k, by omega, z3, m, u, by rw [z1, ← z2]; exact e2⟩
    · exact ⟨3, by omega, z3, m, u, by rw [z1, rot_at, ← z2]; exact e2⟩
  · rintro N' n' c' ⟨k', h1, h2, m', u', h3⟩
    rw [hkk] at h2
    have hkk' := (nI_eq (by omega) (by omega)).mp h2
    have hbk := hb k' (by omega)
    rcases e5 with ⟨h4, z1, z2, z3⟩ | ⟨h4, z1, z2, z3⟩
    · refine ⟨k', by omega, by rw [z3, hkk'], m', u', ?_⟩
      rw [z1]
      refine hother _ hbk.1 (fun e => ?_) h3
      have := hi k' k (by omega) (by omega) (e.trans z2)
      omega
    · have : k' = 3 := by omega
      subst this
      refine ⟨2, by omega, z3, m', u', ?_⟩
      rw [z1, rot_23]
      refine hother _ hbk.1 (fun e => ?_) h3
      have := hi 3 0 (by omega) (by omega) (e.trans z2)
      omega
  · rcases e5 with ⟨h4, z1, z2, z3⟩ | ⟨h4, z1, z2, z3⟩
    · exact ⟨k, by omega, z3, Or.inl hkk⟩
    · exact ⟨3, by omega, z3, Or.inr ⟨by rw [hkk, h4], rfl⟩⟩
theorem undo_u (hH : HO g) (hp : Tp g N n c) : ∃ g' k, k ≤ 3 ∧ g.1 1 3 = nI (k + 1) ∧ m_X6_undo g = some (nI k, g') ∧ (∃ m u, TB g' 0 N n c m u) ∧ HO g' ∧ g'.1 1 3 = nI k ∧ (∀ N' n' c', Tq g N' n' c' → Tp g' N' n' c') ∧ ∀ x, x ≠ 1 → x < 20 → g'.1 x = g.1 x := by
  obtain ⟨hb, hi, -⟩ := id hH
  obtain ⟨k, hk3, a2, m, u, hT⟩ := hp
  have hbk := hb k (by omega)
  have nz : ¬ nI (k + 1) = 0 := nI_ne0 (by omega) (by omega)
  have hp : nI (k + 1) - (1 : Int32) = nI k := nI_pred k
  obtain ⟨G, e1, e2, e3, e4⟩ := c_copy (t := 0) (t2 := g.2 k) (by omega) hT
  refine ⟨g_w G 1 3 (nI k), k, hk3, a2, ?_, ⟨m, u, e4.cong (fun x h1 h2 => gw_ne (by omega))⟩, ?_, by rw [gw_at, if_pos rfl], ?_, fun x h1 h2 => by rw [gw_ne h1, e3 x (by omega)]⟩
  · unfold m_X6_undo m_X1_giveBack
    rw [a2, if_neg nz, hp, bnd_e (c_stateAt (by omega) (by omega))]
    simp only [optc]
    rw [if_pos (by omega), bnd_e e1, e3 1 (by omega), a2, hp]
    show some ((g_w G 1 3 (nI k)).1 1 3, g_w G 1 3 (nI k)) = _
    rw [gw_at, if_pos rfl]
  · exact ⟨by rw [gw_2, e2]; exact hb, by rw [gw_2, e2]; exact hi, k, by omega, by rw [gw_at, if_pos rfl]⟩
  · rintro N' n' c' ⟨k', h1, h2, m', u', h3⟩
    rw [a2] at h2
    have hkk := (nI_eq (by omega) (by omega)).mp h2
    have hbk' := hb k' (by omega)
    refine ⟨k', by omega, by rw [gw_at, if_pos rfl]; congr 1; omega, m', u', ?_⟩
    rw [gw_2, e2]
    exact h3.cong (fun x a b => by rw [gw_ne (by omega), e3 x (by omega)])
/-- an act that went through -/
def Dn (g : MG) (N : Nat → Int32) (n c : Nat) (g' : MG) (N' : Nat → Int32) (n' c' : Nat) : Prop := (∃ m u, TB g' 0 N' n' c' m u) ∧ HO g' ∧ Tp g' N n c ∧ (∀ Nz nz cz, Tp g Nz nz cz → Tq g' Nz nz cz) ∧ (∀ x, x ≠ 1 → x ≠ 7 → x < 20 → g'.1 x = g.1 x) ∧ ∃ k, k ≤ 3 ∧ g'.1 1 3 = nI (k + 1) ∧ (g.1 1 3 = nI k ∨ (g.1 1 3 = nI 4 ∧ k = 3))
theorem did {g0 g1 : MG} (hT : TB g 0 N n c m u) (hH : HO g) (h0 : Un g g0) (h1 : m_X1_record g0 0 = some g1) (h2 : g'.2 = g1.2) (h3 : ∀ x, x < 20 ∨ 35 ≤ x → g'.1 x = g1.1 x) (h4 : TB g' 0 N' n' c' m' u') : Dn g N n c g' N' n' c' := by
  obtain ⟨g1', r1, r2, r3, r4, r5, r6, k, r7, r8, r9⟩ := rec_u (h0.T hT) (h0.H hH)
  obtain rfl := Option.some.inj (h1.symm.trans r1)
  have hc1 : g'.1 1 = g1.1 1 := h3 1 (by omega)
  have htr : ∀ t {N' : Nat → Int32} {n' c' m' : Nat} {u' : Nat → Nat}, 1 ≤ t → TB g1 t N' n' c' m' u' → TB g' t N' n' c' m' u' := fun t _ _ _ _ _ a b => b.cong (fun x p q => h3 x (by omega))
  refine ⟨⟨m', u', h4⟩, ?_, ?_, fun Nz nz cz hz => ?_, fun x a b d => by rw [h3 x (by omega), r6 x a (by omega), h0.2 x b], k, r7, by rw [hc1]; exact r8, by rw [← h0.2 1 (by omega)]; exact r9⟩
  · unfold HO
    rw [h2, hc1]
    exact r3
  · obtain ⟨k', a, b, m, u, d⟩ := r4
    have := r3.1 k' (by omega)
    exact ⟨k', a, by rw [hc1]; exact b, m, u, by rw [h2]; exact htr _ this.1 d⟩
  · obtain ⟨k', a, b, m, u, d⟩ := r5 Nz nz cz (Un.Tp hH h0 hz)
    have := r3.1 k' (by omega)
    exact ⟨k', a, by rw [hc1]; exact b, m, u, by rw [h2]; exact htr _ this.1 d⟩
/-- no place has more than thirty rows -/
def P30 (N : Nat → Int32) (n : Nat) : Prop := ∀ q, q < 62 → cn (RP N (nI q)) n ≤ 30
def Gd (N : Nat → Int32) (n c : Nat) : Prop := DfO N n c ∧ P30 N n
def ActX (P : MG → Option (Int32 × MG)) (N : Nat → Int32) (n c : Nat) : Prop :=
  (∃ r, r < 0 ∧ ∀ g m u, TB g 0 N n c m u → HO g → ∃ g', P g = some (r, g') ∧ Un g g') ∨
  ∃ r N' n' c', ¬ r < 0 ∧ Gd N' n' c' ∧ ∀ g m u, TB g 0 N n c m u → HO g → ∃ g', P g = some (r, g') ∧ Dn g N n c g' N' n' c'
theorem ActX.no {P : MG → Option (Int32 × MG)} (r : Int32) (hr : r < 0) (h : ∀ g m u, TB g 0 N n c m u → P g = some (r, g)) : ActX P N n c := Or.inl ⟨r, hr, fun g m u hT _ => ⟨g, h g m u hT, Un.rf⟩⟩
theorem ActX.yes {P : MG → Option (Int32 × MG)} (r : Int32) (N' : Nat → Int32) (n' c' : Nat) (hr : ¬ r < 0) (hD : Gd N' n' c') (h : ∀ g m u g1, TB g 0 N n c m u → m_X1_record g 0 = some g1 → TB g1 0 N n c m u → ∃ g' m' u', P g = some (r, g') ∧ g'.2 = g1.2 ∧ (∀ x, x < 20 ∨ 35 ≤ x → g'.1 x = g1.1 x) ∧ TB g' 0 N' n' c' m' u') : ActX P N n c := Or.inr ⟨r, N', n', c', hr, hD, fun g m u hT hH => by
  obtain ⟨g1, r1, r2, -⟩ := rec_u hT hH
  obtain ⟨g', m', u', a1, a2, a3, a4⟩ := h g m u g1 hT r1 r2
  exact ⟨g', a1, did hT hH Un.rf r1 a2 a3 a4⟩⟩
theorem home_e (hT : TB g 0 N n c m u) {x r : Int32} (hr : HomR N c x r) : m_X5_home g 0 x = some r := by
  obtain ⟨r', a, b⟩ := c_home hT x
  rw [a, homR_u hT.1 b hr]
/-! rows of a place, counted anew -/
theorem p30_mono (h : P30 N n) (hr : ∀ q, q < 62 → ∀ i, i < n → N' (805 + i) = nI q → N (805 + i) = nI q) : P30 N' n := fun q hq => Nat.le_trans (cn_mono (fun i hi hp => rp_iff.mpr (hr q hq i hi (rp_iff.mp hp)))) (h q hq)
theorem p30_same (h : P30 N n) (hr : ∀ i, i < n → N' (805 + i) = N (805 + i)) : P30 N' n := p30_mono h (fun q _ i hi e => (hr i hi).symm.trans e)
theorem cn_split {p a b : Nat → Bool} : ∀ {n : Nat}, (∀ i, i < n → p i = true → a i = true ∨ b i = true) → cn p n ≤ cn a n + cn b n
  | 0, _ => Nat.le_refl 0
  | n + 1, h => by
    have ih := cn_split (n := n) (fun i hi => h i (by omega))
    cases hp : p n with
    | false =>
      rw [cn_n hp]
      simp only [cn]
      omega
    | true =>
      rw [cn_s hp]
      rcases h n (Nat.lt_succ_self n) hp with w | w
      · rw [cn_s w]; simp only [cn]; omega
      · rw [cn_s w]; simp only [cn]; omega
end
