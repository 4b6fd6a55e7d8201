/-! what is brought back -/
def Kq (g g' : MG) : Prop := ∀ x, x ≠ 1 → x ≠ 7 → x < 20 → g'.1 x = g.1 x
theorem Kq.rf {g : MG} : Kq g g := fun _ _ _ _ => rfl
theorem Kq.tr {g g' g2 : MG} (h : Kq g g') (h2 : Kq g' g2) : Kq g g2 := fun x a b c => (h2 x a b c).trans (h x a b c)
theorem smI_cg {p q : Nat → Bool} {v w : Nat → Int32} : ∀ {n : Nat}, (∀ i, i < n → p i = q i) → (∀ i, i < n → v i = w i) → smI p v n = smI q w n
  | 0, _, _ => rfl
  | n + 1, h, h2 => by
    simp only [smI]
    rw [smI_cg (fun i hi => h i (by omega)) (fun i hi => h2 i (by omega)), h n (Nat.lt_succ_self n), h2 n (Nat.lt_succ_self n)]
theorem cn_two (p b : Nat → Bool) : ∀ n, cn (fun i => p i && !b i) n + cn (fun i => p i && b i) n = cn p n
  | 0 => rfl
  | n + 1 => by
    have ih := cn_two p b n
    cases hp : p n with
    | false =>
      rw [cn_n (p := fun i => p i && !b i) (by simp only [hp, Bool.false_and]), cn_n (p := fun i => p i && b i) (by simp only [hp, Bool.false_and]), cn_n hp]
      exact ih
    | true =>
      cases hb : b n with
      | false =>
        rw [cn_s (p := fun i => p i && !b i) (by simp only [hp, hb, Bool.not_false, Bool.and_self]), cn_n (p := fun i => p i && b i) (by simp only [hb, Bool.and_false]), cn_s hp]
        omega
      | true =>
        rw [cn_n (p := fun i => p i && !b i) (by simp only [hb, Bool.not_true, Bool.and_false]), cn_s (p := fun i => p i && b i) (by simp only [hp, hb, Bool.and_self]), cn_s hp]
        omega
section
variable {g g' g1 g2 G : MG} {N N' N1 N2 : Nat → Int32} {n c m n' c' m' n1 c1 n2 c2 : Nat} {u u' : Nat → Nat}
theorem Dn.K (h : Dn g N n c g' N' n' c') : Kq g g' := h.2.2.2.2.1
theorem go {P : Option (Int32 × MG)} {r : Int32} (hT : TB g 0 N n c m u) (hH : HO g) (h : ∀ g1, m_X1_record g 0 = some g1 → TB g1 0 N n c m u → ∃ g' m' u', P = some (r, g') ∧ g'.2 = g1.2 ∧ (∀ x, x < 20 ∨ 35 ≤ x → g'.1 x = g1.1 x) ∧ TB g' 0 N' n' c' m' u') : ∃ g', P = some (r, g') ∧ Dn g N n c g' N' n' c' := by
  obtain ⟨g1, r1, r2, -⟩ := rec_u hT hH
  obtain ⟨g', m', u', a1, a2, a3, a4⟩ := h g1 r1 r2
  exact ⟨g', a1, did hT hH Un.rf r1 a2 a3 a4⟩
theorem un1 (h : Dn g N n c g1 N1 n1 c1) : ∃ r g2, m_X6_undo g1 = some (r, g2) ∧ (∃ m u, TB g2 0 N n c m u) ∧ HO g2 ∧ Kq g g2 := by
  obtain ⟨-, hH, hp, -, hK, -⟩ := h
  obtain ⟨g2, k, -, -, e1, e2, e3, -, -, e4⟩ := undo_u hH hp
  exact ⟨_, g2, e1, e2, e3, fun x a b d => (e4 x a d).trans (hK x a b d)⟩
theorem un2 (h : Dn g N n c g1 N1 n1 c1) (h2 : Dn g1 N1 n1 c1 g2 N2 n2 c2) : ∃ r3 g3 r4 g4, m_X6_undo g2 = some (r3, g3) ∧ m_X6_undo g3 = some (r4, g4) ∧ (∃ m u, TB g4 0 N n c m u) ∧ HO g4 ∧ Kq g g4 := by
  obtain ⟨-, hH, hp, -, hK, -⟩ := h
  obtain ⟨-, hH2, hp2, hq2, hK2, -⟩ := h2
  obtain ⟨g3, k, -, -, e1, e2, e3, -, e4, e5⟩ := undo_u hH2 hp2
  obtain ⟨g4, k', -, -, f1, f2, f3, -, -, f4⟩ := undo_u e3 (e4 _ _ _ (hq2 _ _ _ hp))
  exact ⟨_, g3, _, g4, e1, f1, f2, f3, fun x a b d => (f4 x a d).trans ((e5 x a d).trans ((hK2 x a b d).trans (hK x a b d)))⟩
theorem rd (hT : TB g 0 N n c m u) {q : Nat} (hq : q < c) (hal : N (1205 + q) = 1) : m_X6_slice g (nI q) 0 = some (N (1265 + q)) ∧ m_X6_slice g (nI q) 1 = some (N (1325 + q)) ∧ m_X6_slice g (nI q) 2 = some (nI (cn (RP N (nI q)) n)) ∧ m_X6_slice g (nI q) 5 = some (smI (RP N (nI q)) (fun i => N (405 + i)) n) ∧ m_X6_slice g (nI q) 6 = some (nI (cn (spB N c (nI q)) n)) := by
  obtain ⟨j, hj, rfl⟩ := hT.2.1.2.2.1 q hq hal
  obtain ⟨h1, h2⟩ := z_bnd hT hj
  obtain ⟨h3, -, -, h4, h5⟩ := z_slice hT (x := nI (u j)) (Or.inr (Or.inr ⟨j, hj, rfl⟩))
  exact ⟨h1, h2, h3, h4, h5⟩
theorem hom_in (hk : OkN N n c) {q : Nat} (hq : q < c) (hal : N (1205 + q) = 1) {k : Int32} : HomR N c k (nI q) ↔ (N (1265 + q)).toInt ≤ k.toInt ∧ k.toInt < (N (1325 + q)).toInt := by
  have hc := hk.1.2.2.2
  constructor
  · rintro (⟨q', ho, e⟩ | ⟨-, ⟨-, e⟩ | ⟨-, e⟩⟩)
    · have := ho.1
      have e' := (nI_eq (by omega) (by omega)).mp e
      rw [e']
      exact ho.2.2
    · exact absurd e (ni_61 (by omega)).2.1
    · exact absurd e (nI_ne_m (by omega) (by decide))
  · intro h
    exact Or.inl ⟨q, ⟨hq, hal, h.1, h.2⟩, rfl⟩
theorem sp_iff (hk : OkN N n c) {q : Nat} (hq : q < c) (hal : N (1205 + q) = 1) {i : Nat} : spB N c (nI q) i = true ↔ N (805 + i) = nI q ∧ ¬ ((N (1265 + q)).toInt ≤ (N (5 + i)).toInt ∧ (N (5 + i)).toInt < (N (1325 + q)).toInt) := by
  have hc := hk.1.2.2.2
  have h6 := ni_61 (show q < 60 by omega)
  unfold spB
  rw [Bool.and_eq_true, rp_iff, st_iff, ← hom_in hk hq hal]
  constructor
  · rintro ⟨h1, -, -, h2⟩
    exact ⟨h1, by rw [h1] at h2; exact h2⟩
  · rintro ⟨h1, h2⟩
    exact ⟨h1, by rw [h1]; exact h6.2.2, by rw [h1]; exact h6.1, by rw [h1]; exact h2⟩
/-- strays of a slice in another table with the same rows and bounds of it -/
theorem sp_same (hk : OkN N n c) (hk' : OkN N' n c') {q : Nat} (hq : q < c) (hal : N (1205 + q) = 1) (hq' : q < c') (hal' : N' (1205 + q) = 1) (h1 : N' (1265 + q) = N (1265 + q)) (h2 : N' (1325 + q) = N (1325 + q)) (h3 : ∀ i, i < n → (N' (805 + i) = nI q ↔ N (805 + i) = nI q)) (h4 : ∀ i, i < n → N' (5 + i) = N (5 + i)) : cn (spB N' c' (nI q)) n = cn (spB N c (nI q)) n := cn_congr (fun i hi => by
  rw [Bool.eq_iff_iff, sp_iff hk' hq' hal', sp_iff hk hq hal, h1, h2, h3 i hi, h4 i hi])
theorem rp_same {p p' : Int32} (h3 : ∀ i, i < n → (N' (805 + i) = p' ↔ N (805 + i) = p)) : ∀ i, i < n → RP N' p' i = RP N p i := fun i hi => by
  rw [Bool.eq_iff_iff, rp_iff, rp_iff]
  exact h3 i hi
theorem xc_sp (hk : OkN N n c) {q : Nat} (hk' : OkN (xcN N n (nI q)) n c) (hq : q < c) (hal : N (1205 + q) = 1) : cn (spB (xcN N n (nI q)) c (nI q)) n + cn (RB N 61 (N (1265 + q)) (N (1325 + q))) n = cn (RP N 61) n := by
  have hn := hk.1.2.1
  have hc := hk.1.2.2.2
  rw [← cn_two (RP N 61) (fun i => decide ((N (1265 + q)).toInt ≤ (N (5 + i)).toInt) && decide ((N (5 + i)).toInt < (N (1325 + q)).toInt)) n]
  congr 1
  · refine cn_congr (fun i hi => ?_)
    have hal' : xcN N n (nI q) (1205 + q) = 1 := by rw [xcN_out (by omega)]; exact hal
    rw [Bool.eq_iff_iff, sp_iff hk' hq hal', xcN_out (i := 1265 + q) (by omega), xcN_out (i := 1325 + q) (by omega), xcN_in hi, xcN_out (i := 5 + i) (by omega), xc_q (by omega)]
    simp only [Bool.and_eq_true, Bool.not_eq_true', rp_iff, Bool.and_eq_false_iff, decide_eq_false_iff_not]
    constructor
    · rintro ⟨a, b⟩
      refine ⟨a, ?_⟩
      by_cases e : (N (1265 + q)).toInt ≤ (N (5 + i)).toInt
      · exact Or.inr (fun w => b ⟨e, w⟩)
      · exact Or.inl e
    · rintro ⟨a, b⟩
      exact ⟨a, fun w => b.elim (fun z => z w.1) (fun z => z w.2)⟩
theorem xc_xc {q : Nat} (hq : q < 60) : xcN (xcN N n (nI q)) n (nI q) = N := by
  funext i
  by_cases h : 805 ≤ i ∧ i < 805 + n
  · obtain ⟨k, rfl⟩ : ∃ k, i = 805 + k := ⟨i - 805, by omega⟩
    rw [xcN_in (by omega), xcN_in (by omega), xc_x hq]
  · rw [xcN_out (by omega), xcN_out (by omega)]
/-- the best place for a split lies inside -/
theorem z_best (hT : TB g 0 N n c m u) {q : Nat} (hq : q < c) (hal : N (1205 + q) = 1) : (N (1325 + q) = N (1265 + q) + 1 ∧ m_X6_bestSplit g (nI q) = some (-1005)) ∨ ∃ r, m_X6_bestSplit g (nI q) = some r ∧ (N (1265 + q)).toInt < r.toInt ∧ r.toInt < (N (1325 + q)).toInt := by
  have hn := hT.n4
  have hm12 := hT.m12
  obtain ⟨j, hj, rfl⟩ := hT.2.1.2.2.1 q hq hal
  have hb := u_b hT.1 hT.2.1 hj
  have one : ((1 : Int32)).toInt = 1 := by decide
  have two : ((2 : Int32)).toInt = 2 := by decide
  have hun : ∀ b T, ∃ r, m_X6_unevenness g (nI (u j)) b T = some r := fun b T => by
    unfold m_X6_unevenness
    rw [bnd_e (c_amountK hT _ _ _)]
    exact ⟨_, rfl⟩
  have hd : (N (1325 + u j) - N (1265 + u j)).toInt = (N (1325 + u j)).toInt - (N (1265 + u j)).toInt := i_sub (by omega) (by omega)
  have hlo : (N (1265 + u j) + (1 : Int32)).toInt = (N (1265 + u j)).toInt + 1 := by rw [i_add (by rw [one]; omega) (by rw [one]; omega), one]
  unfold m_X6_bestSplit
  rw [bnd_e (c_pos hT hj), if_neg (nI_ne_m (by omega) (by decide)), bnd_e (c_low hT hj), bnd_e (c_high hT hj)]
  by_cases e2 : (2 : Int32) ≤ N (1325 + u j) - N (1265 + u j)
  · right
    have e2' := Int32.le_iff_toInt_le.mp e2
    rw [two, hd] at e2'
    obtain ⟨r84, h84⟩ := hun (N (1265 + u j) + 1) (nI (cn (RP N (nI (u j))) n))
    rw [if_pos e2, bnd_e (c_amount hT _), bnd_e h84]
    refine lpo_P (fun i x => ∃ b w, x = (b, w, nI i) ∧ (N (1265 + u j)).toInt < b.toInt ∧ b.toInt < (N (1325 + u j)).toInt) n _ 0 (Nat.zero_le n) (by omega) ⟨_, _, rfl, by rw [hlo]; omega, by rw [hlo]; omega⟩ ?_ ?_
    · rintro i x hi ⟨b, w, rfl, b1, b2⟩
      right
      have hcond : ¬ nI n ≤ nI i := by rw [nI_leI (by omega) (by omega)]; omega
      have hkey := (hT.1.2.2.1 i hi).1
      have hk1 : (N (5 + i) + (1 : Int32)).toInt = (N (5 + i)).toInt + 1 := by rw [i_add (by rw [one]; omega) (by rw [one]; omega), one]
      have stay : ∃ x', (∃ b w, x' = (b, w, nI (i + 1)) ∧ (N (1265 + u j)).toInt < b.toInt ∧ b.toInt < (N (1325 + u j)).toInt) ∧ ∀ k : (Int32 × Int32 × Int32) → Option Int32, k (b, w, nI (i + 1)) = k x' := ⟨_, ⟨b, w, rfl, b1, b2⟩, fun k => rfl⟩
      by_cases c1 : N (805 + i) = nI (u j)
      · by_cases c2 : N (5 + i) + (1 : Int32) ≤ N (1265 + u j)
        · obtain ⟨x', y1, y2⟩ := stay
          refine ⟨x', y1, fun k => ?_⟩
          simp only [b_X6_bestSplit_L92, m_X6_bestSplit_L92]
          rw [hT.came, if_neg hcond, bnd_e (c_key hT hi), bnd_e (c_place hT hi), if_pos c1, if_pos c2, nI_1]
          exact y2 k
        · by_cases c3 : N (1325 + u j) ≤ N (5 + i) + (1 : Int32)
          · obtain ⟨x', y1, y2⟩ := stay
            refine ⟨x', y1, fun k => ?_⟩
            simp only [b_X6_bestSplit_L92, m_X6_bestSplit_L92]
            rw [hT.came, if_neg hcond, bnd_e (c_key hT hi), bnd_e (c_place hT hi), if_pos c1, if_neg c2, if_pos c3, nI_1]
            exact y2 k
          · have c2' := Int32.lt_iff_toInt_lt.mp (Int32.not_le.mp c2)
            have c3' := Int32.lt_iff_toInt_lt.mp (Int32.not_le.mp c3)
            obtain ⟨r, hr⟩ := hun (N (5 + i) + 1) (nI (cn (RP N (nI (u j))) n))
            by_cases c4 : r < w
            · refine ⟨_, ⟨N (5 + i) + 1, r, rfl, c2', c3'⟩, fun k => ?_⟩
              simp only [b_X6_bestSplit_L92, m_X6_bestSplit_L92]
              rw [hT.came, if_neg hcond, bnd_e (c_key hT hi), bnd_e (c_place hT hi), if_pos c1, if_neg c2, if_neg c3, bnd_e hr, if_pos c4, nI_1]
            · by_cases c5 : r = w
              · by_cases c6 : b ≤ N (5 + i) + 1
                · obtain ⟨x', y1, y2⟩ := stay
                  refine ⟨x', y1, fun k => ?_⟩
                  simp only [b_X6_bestSplit_L92, m_X6_bestSplit_L92]
                  rw [hT.came, if_neg hcond, bnd_e (c_key hT hi), bnd_e (c_place hT hi), if_pos c1, if_neg c2, if_neg c3, bnd_e hr, if_neg c4, if_pos c5, if_pos c6, nI_1]
                  exact y2 k
                · refine ⟨_, ⟨N (5 + i) + 1, r, rfl, c2', c3'⟩, fun k => ?_⟩
                  simp only [b_X6_bestSplit_L92, m_X6_bestSplit_L92]
                  rw [hT.came, if_neg hcond, bnd_e (c_key hT hi), bnd_e (c_place hT hi), if_pos c1, if_neg c2, if_neg c3, bnd_e hr, if_neg c4, if_pos c5, if_neg c6, nI_1]
              · obtain ⟨x', y1, y2⟩ := stay
                refine ⟨x', y1, fun k => ?_⟩
                simp only [b_X6_bestSplit_L92, m_X6_bestSplit_L92]
                rw [hT.came, if_neg hcond, bnd_e (c_key hT hi), bnd_e (c_place hT hi), if_pos c1, if_neg c2, if_neg c3, bnd_e hr, if_neg c4, if_neg c5, nI_1]
                exact y2 k
      · obtain ⟨x', y1, y2⟩ := stay
        refine ⟨x', y1, fun k => ?_⟩
        simp only [b_X6_bestSplit_L92, m_X6_bestSplit_L92]
        rw [hT.came, if_neg hcond, bnd_e (c_key hT hi), bnd_e (c_place hT hi), if_neg c1, nI_1]
        exact y2 k
    · rintro x ⟨b, w, rfl, b1, b2⟩ k
      refine ⟨b, ?_, b1, b2⟩
      simp only [b_X6_bestSplit_L92, m_X6_bestSplit_L92]
      rw [hT.came, if_pos (nI_le (Nat.le_refl n) (by omega))]
  · left
    have e2' : (N (1325 + u j) - N (1265 + u j)).toInt < 2 := by
      have := Int32.lt_iff_toInt_lt.mp (Int32.not_le.mp e2)
      rw [two] at this
      exact this
    rw [hd] at e2'
    rw [if_neg e2]
    exact ⟨Int32.toInt_inj.mp (by rw [hlo]; omega), rfl⟩
/-- the end of what is brought back -/
theorem b518 (hT : TB g 0 N n c m u) {q : Nat} (hq : q < c) (hal : N (1205 + q) = 1) (x1 x2 : Int32) : m_L_back_J518 x1 x2 (nI q) (N (1265 + q)) (N (1325 + q)) (nI (cn (RP N (nI q)) n)) (smI (RP N (nI q)) (fun i => N (405 + i)) n) g = some (1, g) := by
  obtain ⟨h0, h1, h2, h5, -⟩ := rd hT hq hal
  unfold m_L_back_J518
  rw [bnd_e h0, if_pos rfl, bnd_e h1, if_pos rfl, bnd_e h2, if_pos rfl, bnd_e h5, if_pos rfl]
/-- detach and attach -/
theorem b403 (hT : TB g 0 N n c m u) (hH : HO g) (hG : Gd N n c) {q : Nat} (hq : q < c) (hal : N (1205 + q) = 1) (x1 x2 : Int32) : ∃ g', m_L_back_J403 x1 x2 (nI q) (N (1265 + q)) (N (1325 + q)) (nI (cn (RP N (nI q)) n)) (smI (RP N (nI q)) (fun i => N (405 + i)) n) (nI (cn (spB N c (nI q)) n)) (nI (cn (RP N 61) n)) g = some (1, g') ∧ (∃ m u, TB g' 0 N n c m u) ∧ HO g' ∧ Kq g g' := by
  have hk := hT.1
  have hn := hT.n4
  have hc := hT.c6
  have hcn := cn_le (RP N (nI q)) n
  have hcs := cn_le (spB N c (nI q)) n
  have hc61 := cn_le (RP N 61) n
  have h518 := b518 hT hq hal x1 x2
  have h6 := ni_61 (show q < 60 by omega)
  unfold m_L_back_J403
  by_cases e1 : cn (RP N (nI q)) n ≤ 20
  · rw [if_neg (show ¬ (20 : Int32) < nI (cn (RP N (nI q)) n) from Int32.not_lt.mpr ((l20 (by omega)).mpr e1))]
    by_cases e2 : cn (RP N 61) n = 0
    · rw [if_pos (show nI (cn (RP N 61) n) = 0 by rw [e2]; rfl)]
      by_cases e3 : cn (spB N c (nI q)) n = 0
      · rw [if_pos (show nI (cn (spB N c (nI q)) n) = 0 by rw [e3]; rfl)]
        obtain ⟨j, hj, hju⟩ := hT.2.1.2.2.1 q hq hal
        subst hju
        have hub := u_b hk hT.2.1 hj
        obtain ⟨ga, a1, a2⟩ := go (P := m_X6_detach g (nI (u j))) hT hH (fun g1 h1 h2 => k_detach hT hj e2 e1 h1 h2)
        obtain ⟨⟨ma, ua, hTa⟩, hHa, -⟩ := id a2
        have hpl : ∀ i, i < n → (drN N n (u j) 61 (805 + i) = 61 ↔ N (805 + i) = nI (u j)) := fun i hi => by
          rw [dr_pl hn hk hi]
          by_cases w : N (805 + i) = nI (u j)
          · rw [if_pos w]; exact ⟨fun _ => w, fun _ => rfl⟩
          · rw [if_neg w]
            refine ⟨fun z => ?_, fun z => absurd z w⟩
            have := cn_pos hi (rp_iff.mpr z)
            omega
        have hcnt : cn (RP (drN N n (u j) 61) 61) n = cn (RP N (nI (u j))) n := cn_congr (rp_same hpl)
        have hdead : ∀ z, z < c → drN N n (u j) 61 (1205 + z) = 1 → nI (u j) ≠ nI z := fun z hz hzal e => by
          have e' := (nI_eq (by omega) (by omega)).mp e
          rw [← e', dr_q] at hzal
          exact absurd hzal (by decide)
        have hke : ∀ i, drN N n (u j) 61 (5 + i) = N (5 + i) ∨ ¬ i < n := fun i => by
          by_cases w : i < n
          · exact Or.inl (dr_o hn (by omega) (by omega))
          · exact Or.inr w
        have hrow : ∀ i, i < n → drN N n (u j) 61 (805 + i) = 61 → (N (1265 + u j)).toInt ≤ (N (5 + i)).toInt ∧ (N (5 + i)).toInt < (N (1325 + u j)).toInt := fun i hi hp => by
          have hp' := (hpl i hi).mp hp
          refine Classical.byContradiction (fun w => ?_)
          have := cn_pos hi ((sp_iff hk hq hal).mpr ⟨hp', w⟩)
          omega
        have hb61 : cn (RB (drN N n (u j) 61) 61 (N (1265 + u j)) (N (1325 + u j))) n = cn (RP (drN N n (u j) 61) 61) n := cn_congr (fun i hi => by
          rw [Bool.eq_iff_iff, rb_iff, rp_iff]
          refine ⟨fun w => w.1, fun w => ⟨w, ?_⟩⟩
          rw [(hke i).resolve_right (fun z => z hi)]
          exact hrow i hi w)
        have hb60 : cn (RB (drN N n (u j) 61) 60 (N (1265 + u j)) (N (1325 + u j))) n = 0 := cn_0 (fun i hi => by
          rw [Bool.eq_false_iff]
          intro w
          obtain ⟨w1, w2⟩ := rb_iff.mp w
          rw [(hke i).resolve_right (fun z => z hi)] at w2
          rw [dr_pl hn hk hi] at w1
          by_cases z : N (805 + i) = nI (u j)
          · rw [if_pos z] at w1
            exact absurd w1 (by decide)
          · rw [if_neg z] at w1
            exact ((hom60 hc).mp (hG.1 i hi w1)).1 (u j) ⟨hq, hal, w2.1, w2.2⟩)
        have hnoT : ¬ Tk (drN N n (u j) 61) c (N (1265 + u j)) (N (1325 + u j)) := by
          rintro ⟨z, hz, hz1, hz2, hz3⟩
          have hzj : z ≠ u j := fun e => by
            rw [e, dr_q] at hz1
            exact absurd hz1 (by decide)
          rw [dr_o hn (by omega) (by omega)] at hz1 hz2 hz3
          have := hk.2.2.2.2.1 z (u j) hz hq hz1 hal hzj
          omega
        obtain ⟨t0, -⟩ := rd hT hq hal
        rw [bnd2_e a1, if_pos rfl, bnd_e (z_c3 hTa), hcnt, if_pos rfl, bnd_e (z_sliceN hTa h6.2.1 h6.1 hdead 0), if_pos rfl]
        by_cases hf : Fl (drN N n (u j) 61) c
        · have hh := (k_attach (g1 := ga) hTa ⟨hub.1, hub.2.1, hub.2.2⟩ hnoT hb61 hb60).1 hf
          obtain ⟨r, gb, b1, ⟨mb, ub, b2⟩, b3, b4⟩ := un1 a2
          rw [bnd2_e hh, if_pos (by decide)]
          unfold m_L_back_J503
          rw [bnd2_e b1, if_pos (by decide), b518 b2 hq hal]
          exact ⟨gb, rfl, ⟨mb, ub, b2⟩, b3, b4⟩
        · have hcc : c < 60 := by
            have := fl_n hTa hf
            omega
          obtain ⟨gb, b1, b2⟩ := go (P := m_X6_attach ga (N (1265 + u j)) (N (1325 + u j))) hTa hHa (fun g1 h1 h2 => (k_attach (g1 := g1) hTa ⟨hub.1, hub.2.1, hub.2.2⟩ hnoT hb61 hb60).2 hf h1 h2)
          obtain ⟨⟨mb, ub, hTb⟩, hHb, -⟩ := id b2
          obtain ⟨c1, c2, c3⟩ := ct_a (N := drN N n (u j) 61) (a := N (1265 + u j)) (b := N (1325 + u j)) (p := 61) (lo := 0) (hi := 1000) hn hcc
          have hplb : ∀ i, i < n → (ctN (drN N n (u j) 61) n c (N (1265 + u j)) (N (1325 + u j)) 61 0 1000 (805 + i) = nI c ↔ N (805 + i) = nI (u j)) := fun i hi => by
            rw [ct_pl hn hcc hi, ← hpl i hi]
            have hkey := (hTa.1.2.2.1 i hi).1
            by_cases w : drN N n (u j) 61 (805 + i) = 61
            · rw [if_pos ((rb_iff (lo := 0) (hh := 1000)).mpr ⟨w, hkey.1, hkey.2⟩)]
              exact ⟨fun _ => w, fun _ => rfl⟩
            · rw [if_neg (fun z => w (rb_iff.mp z).1)]
              exact ⟨fun z => absurd z (no_c hTa.1 hcc hi), fun z => absurd z w⟩
          have hpl61 : ∀ i, i < n → ¬ ctN (drN N n (u j) 61) n c (N (1265 + u j)) (N (1325 + u j)) 61 0 1000 (805 + i) = 61 := fun i hi => by
            rw [ct_pl hn hcc hi]
            have hkey := (hTa.1.2.2.1 i hi).1
            by_cases w : drN N n (u j) 61 (805 + i) = 61
            · rw [if_pos ((rb_iff (lo := 0) (hh := 1000)).mpr ⟨w, hkey.1, hkey.2⟩)]
              exact (ni_61 hcc).1
            · rw [if_neg (fun z => w (rb_iff.mp z).1)]
              exact w
          obtain ⟨-, -, s2, s5, -⟩ := rd hTb (q := c) (by omega) c1
          have hs2 : cn (RP (ctN (drN N n (u j) 61) n c (N (1265 + u j)) (N (1325 + u j)) 61 0 1000) (nI c)) n = cn (RP N (nI (u j))) n := cn_congr (rp_same hplb)
          have hs5 : smI (RP (ctN (drN N n (u j) 61) n c (N (1265 + u j)) (N (1325 + u j)) 61 0 1000) (nI c)) (fun i => ctN (drN N n (u j) 61) n c (N (1265 + u j)) (N (1325 + u j)) 61 0 1000 (405 + i)) n = smI (RP N (nI (u j))) (fun i => N (405 + i)) n := smI_cg (rp_same hplb) (fun i hi => by
            rw [ct_o hn (by omega) (by omega) (by omega) (by omega) (by omega), dr_o hn (by omega) (by omega)])
          have hs61 : cn (RP (ctN (drN N n (u j) 61) n c (N (1265 + u j)) (N (1325 + u j)) 61 0 1000) 61) n = 0 := cn_0 (fun i hi => rp_f (hpl61 i hi))
          rw [hs2] at s2
          rw [hs5] at s5
          have hc3' := z_c3 hTb
          rw [hs61] at hc3'
          obtain ⟨r3, gc, r4, gd, d1, d2, ⟨md, ud, d3⟩, d4, d5⟩ := un2 a2 b2
          have hcnn : ¬ nI c < 0 := nI_pos (by omega)
          rw [bnd2_e b1, if_neg hcnn, bnd_e s2, if_pos rfl, bnd_e s5, if_pos rfl, bnd_e hc3', if_pos (show nI 0 = 0 from rfl)]
          unfold m_L_back_J503
          rw [bnd2_e d1, if_neg hcnn, bnd2_e d2, b518 d3 hq hal]
          exact ⟨gd, rfl, ⟨md, ud, d3⟩, d4, d5⟩
      · rw [if_neg (nI_ne0 (by omega) (by omega)), h518]
        exact ⟨g, rfl, ⟨m, u, hT⟩, hH, Kq.rf⟩
    · rw [if_neg (nI_ne0 (by omega) (by omega)), h518]
      exact ⟨g, rfl, ⟨m, u, hT⟩, hH, Kq.rf⟩
  · rw [if_pos (show (20 : Int32) < nI (cn (RP N (nI q)) n) from Int32.not_le.mp (fun w => e1 ((l20 (by omega)).mp w))), h518]
    exact ⟨g, rfl, ⟨m, u, hT⟩, hH, Kq.rf⟩
end
