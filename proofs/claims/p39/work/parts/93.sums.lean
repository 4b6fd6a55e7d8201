/-! the sums over the places -/
theorem smU_cg {f f' : Nat → Int32} {u : Nat → Nat} : ∀ {m : Nat}, (∀ j, j < m → f (u j) = f' (u j)) → smU f u m = smU f' u m
  | 0, _ => rfl
  | m + 1, h => by
    show smU f u m + f (u m) = smU f' u m + f' (u m)
    rw [smU_cg (fun j hj => h j (by omega)), h m (Nat.lt_succ_self m)]
theorem i_ac (a b d : Int32) : a + b + d = a + d + b := by grind
theorem i_as (a b d : Int32) : a + (b + d) = a + b + d := by grind
theorem smU_one {f f' : Nat → Int32} {u : Nat → Nat} {j0 : Nat} : ∀ {m : Nat}, j0 < m → (∀ i j, i < m → j < m → u i = u j → i = j) → f' (u j0) = f (u j0) + 1 → (∀ j, j < m → j ≠ j0 → f' (u j) = f (u j)) → smU f' u m = smU f u m + 1
  | 0, h, _, _, _ => absurd h (Nat.not_lt_zero _)
  | m + 1, h, hi, h1, h2 => by
    show smU f' u m + f' (u m) = smU f u m + f (u m) + 1
    by_cases e : j0 = m
    · subst e
      rw [h1, smU_cg (f := f') (f' := f) (fun j hj => h2 j (by omega) (by omega))]
      exact i_as _ _ _
    · rw [smU_one (f := f) (f' := f') (m := m) (by omega) (fun i j a b => hi i j (by omega) (by omega)) h1 (fun j hj => h2 j (by omega)), h2 m (Nat.lt_succ_self m) (fun q => e q.symm)]
      exact i_ac _ _ _
def DfO (N : Nat → Int32) (n c : Nat) : Prop := ∀ i, i < n → N (805 + i) = 60 → HomR N c (N (5 + i)) 60
section
variable {g : MG} {N : Nat → Int32} {n c m : Nat} {u : Nat → Nat}
theorem rp_f {p : Int32} {i : Nat} (h : ¬ N (805 + i) = p) : RP N p i = false := by
  rw [Bool.eq_false_iff]
  exact fun q => h (rp_iff.mp q)
theorem sum_pl (hT : TB g 0 N n c m u) (b : Nat → Bool) : ∀ k, k ≤ n → nI (cn (fun i => RP N 60 i && b i) k) + smU (fun q => nI (cn (fun i => RP N (nI q) i && b i) k)) u m = nI (cn (fun i => itB N i && b i) k)
  | 0, _ => by
    have : ∀ m, smU (fun q => nI (cn (fun i => RP N (nI q) i && b i) 0)) u m = 0 := by
      intro m
      induction m with
      | zero => rfl
      | succ m ih =>
        show smU _ u m + 0 = 0
        rw [ih]; rfl
    rw [this]; rfl
  | k + 1, hk => by
    have ih := sum_pl hT b k (by omega)
    have hkn : k < n := by omega
    cases hb : b k with
    | false =>
      rw [cn_n (by simp only [hb, Bool.and_false]), cn_n (p := fun i => itB N i && b i) (by simp only [hb, Bool.and_false]), ← ih]
      congr 1
      exact smU_cg (fun j _ => by rw [cn_n (by simp only [hb, Bool.and_false])])
    | true =>
      by_cases h60 : N (805 + k) = 60
      · have hit : itB N k = true := it_t (by rw [h60]; decide) (by rw [h60]; decide)
        rw [cn_s (by simp only [hb, rp_iff.mpr h60, Bool.and_self]), cn_s (p := fun i => itB N i && b i) (by simp only [hb, hit, Bool.and_self]), ← nI_1, ← nI_1, ← ih]
        rw [i_ac]
        congr 2
        exact smU_cg (fun j hj => by
          rw [cn_n]
          simp only [rp_f (show ¬ N (805 + k) = nI (u j) from fun e => (u_60 hT hj).1 (e.symm.trans h60)), Bool.false_and])
      · have h60' : RP N 60 k = false := rp_f h60
        rw [cn_n (p := fun i => RP N 60 i && b i) (by simp only [h60', Bool.false_and])]
        rcases (hT.1.2.2.1 k hkn).2.2 with e | e | e | ⟨q, hq, e, hal⟩
        · rw [cn_n (p := fun i => itB N i && b i) (by simp only [it_1 e, Bool.false_and]), ← ih]
          congr 1
          exact smU_cg (fun j hj => by
            rw [cn_n]
            simp only [rp_f (show ¬ N (805 + k) = nI (u j) from fun e' => (u_60 hT hj).2.2.1 (e'.symm.trans e)), Bool.false_and])
        · exact absurd e h60
        · rw [cn_n (p := fun i => itB N i && b i) (by simp only [it_2 e, Bool.false_and]), ← ih]
          congr 1
          exact smU_cg (fun j hj => by
            rw [cn_n]
            simp only [rp_f (show ¬ N (805 + k) = nI (u j) from fun e' => (u_60 hT hj).2.1 (e'.symm.trans e)), Bool.false_and])
        · obtain ⟨j0, hj0, rfl⟩ := hT.2.1.2.2.1 q hq hal
          have hu := u_60 hT hj0
          have hit : itB N k = true := it_t (by rw [e]; exact hu.2.2.1) (by rw [e]; exact hu.2.1)
          rw [cn_s (p := fun i => itB N i && b i) (by simp only [hb, hit, Bool.and_self]), ← nI_1, ← ih]
          rw [smU_one (f := fun q => nI (cn (fun i => RP N (nI q) i && b i) k)) (j0 := j0) hj0 (so_inj hT.1 hT.2.1) (by
            show nI (cn (fun i => RP N (nI (u j0)) i && b i) (k + 1)) = nI (cn (fun i => RP N (nI (u j0)) i && b i) k) + 1
            rw [cn_s (by simp only [hb, rp_iff.mpr e, Bool.and_self]), nI_1]) (fun j hj hne => by
            show nI (cn (fun i => RP N (nI (u j)) i && b i) (k + 1)) = nI (cn (fun i => RP N (nI (u j)) i && b i) k)
            have h2 := u_60 hT hj
            rw [cn_n]
            simp only [rp_f (show ¬ N (805 + k) = nI (u j) from fun e' => by
              rw [e, nI_eq (by omega) (by omega)] at e'
              exact hne (so_inj hT.1 hT.2.1 j0 j hj0 hj e').symm), Bool.false_and])]
          exact i_as _ _ _
theorem sum_rows (hT : TB g 0 N n c m u) : nI (cn (RP N 60) n) + smU (fun q => nI (cn (RP N (nI q)) n)) u m = nI (cn (itB N) n) := by
  have h := sum_pl hT (fun _ => true) n (Nat.le_refl n)
  have hc : ∀ p : Nat → Bool, cn (fun i => p i && true) n = cn p n := fun p => cn_congr (fun i _ => Bool.and_true _)
  simp only [hc] at h
  exact h
theorem st_in {i : Nat} (h : stB N c i = true) : itB N i = true := by
  have := st_iff.mp h
  exact it_t this.1 this.2.1
theorem sp60 (hD : DfO N n c) : cn (spB N c 60) n = 0 := cn_0 (fun i hi => by
  rw [Bool.eq_false_iff]
  intro h
  obtain ⟨h1, h2⟩ := Bool.and_eq_true_iff.mp h
  have hp := rp_iff.mp h1
  have := (st_iff.mp h2).2.2
  rw [hp] at this
  exact this (hD i hi hp))
theorem sum_strays (hT : TB g 0 N n c m u) (hD : DfO N n c) : smU (fun q => nI (cn (spB N c (nI q)) n)) u m = nI (cn (stB N c) n) := by
  have h := sum_pl hT (stB N c) n (Nat.le_refl n)
  have h1 : cn (fun i => RP N 60 i && stB N c i) n = 0 := sp60 hD
  have h2 : cn (fun i => itB N i && stB N c i) n = cn (stB N c) n := cn_congr (fun i _ => by
    cases hs : stB N c i with
    | false => rw [Bool.and_false]
    | true => rw [st_in hs, Bool.and_self])
  rw [h1, h2] at h
  rw [← h]
  exact (show ∀ a : Int32, a = nI 0 + a from fun a => by show a = 0 + a; grind) _
/-- the heaviest of the first j slices -/
def HvJ (N : Nat → Int32) (n : Nat) (u : Nat → Nat) (j : Nat) (r : Int32) : Prop := (j = 0 ∧ r = -1005) ∨ ∃ i, i < j ∧ r = nI (u i) ∧ ∀ k, k < j → cn (RP N (nI (u k))) n < cn (RP N (nI (u i))) n ∨ (cn (RP N (nI (u k))) n = cn (RP N (nI (u i))) n ∧ u i ≤ u k)
theorem hvJ_R (hT : TB g 0 N n c m u) {r : Int32} (h : HvJ N n u m r) : HvR N n c r := by
  rcases h with ⟨h0, rfl⟩ | ⟨i, hi, rfl, hm⟩
  · left
    refine ⟨fun q hq ha => ?_, rfl⟩
    obtain ⟨j, hj, -⟩ := hT.2.1.2.2.1 q hq ha
    omega
  · right
    obtain ⟨a, b⟩ := hT.2.1.2.1 i hi
    refine ⟨u i, a, b, rfl, fun q hq ha => ?_⟩
    obtain ⟨j, hj, rfl⟩ := hT.2.1.2.2.1 q hq ha
    exact hm j hj
theorem gLo_s (j : Nat) : gLo N u (j + 1) = N (1325 + u j) := by
  unfold gLo
  rw [if_neg (Nat.succ_ne_zero j), Nat.add_sub_cancel]
theorem gHi_u {j : Nat} (hj : j < m) : gHi N u m j = N (1265 + u j) := by
  unfold gHi
  rw [if_neg (by omega)]
theorem gHi_m : gHi N u m m = 1000 := by
  unfold gHi
  rw [if_pos rfl]
theorem z_sums (hT : TB g 0 N n c m u) (hD : DfO N n c) : m_L_sums g = some 1 := by
  have hn := hT.n4
  have hm := hT.m12
  have hk := hT.1
  have hs := hT.2.1
  have ne : ¬ (1 : Int32) = 0 := by decide
  have hP60 : PlS m u 60 := Or.inl rfl
  have hP61 : PlS m u 61 := Or.inr (Or.inl rfl)
  have hcg : ∀ a, cn (gB N u m) a ≤ a := fun a => cn_le _ a
  unfold m_L_sums
  rw [bnd_e (z_slice hT hP60).1]
  refine lpo_eq (fun j x => ∃ r, HvJ N n u j r ∧ x = (nI (cn (RP N 60) n) + smU (fun q => nI (cn (RP N (nI q)) n)) u j, smU (fun q => nI (cn (spB N c (nI q)) n)) u j, smU (fun q => N (1325 + q) - N (1265 + q)) u j, gLo N u j, nI (cn (gB N u m) j), r, nI j)) m (by omega) ⟨-1005, Or.inl ⟨rfl, rfl⟩, by
    show _ = (nI (cn (RP N 60) n) + 0, _)
    rw [nI_z]; rfl⟩ ?_ ?_
  · rintro j x hj ⟨r, hr, rfl⟩
    right
    have hPj : PlS m u (nI (u j)) := Or.inr (Or.inr ⟨j, hj, rfl⟩)
    obtain ⟨b0, b1⟩ := z_bnd hT hj
    obtain ⟨s2, -, -, -, s6⟩ := z_slice hT hPj
    have hu := u_60 hT hj
    have hub := u_b hk hs hj
    have hgl := gl_gh hk hs (a := j) (by omega)
    rw [gHi_u hj] at hgl
    have hcnt := cn_le (RP N (nI (u j))) n
    have hgc := hcg j
    have hv6 : ∃ r', HvJ N n u (j + 1) r' ∧ ∀ (kk : (Int32 × Int32 × Int32 × Int32 × Int32 × Int32 × Int32) → Option Int32) (A B C D : Int32), (if 0 ≤ r then bnd (m_X6_slice g r (2 : Int32)) fun (r211 : Int32) => m_L_sums_J214 kk g A B C (N (1325 + u j)) D r (nI j) (nI (u j)) r211 else m_L_sums_J214 kk g A B C (N (1325 + u j)) D r (nI j) (nI (u j)) (-1 : Int32)) = kk (A, B, C, N (1325 + u j), D, r', nI (j + 1)) := by
      rcases hr with ⟨h0, rfl⟩ | ⟨i, hi, rfl, hmx⟩
      · refine ⟨nI (u j), Or.inr ⟨j, Nat.lt_succ_self j, rfl, fun k hkj => ?_⟩, fun kk A B C D => ?_⟩
        · have : k = j := by omega
          subst this
          exact Or.inr ⟨rfl, Nat.le_refl _⟩
        · rw [if_neg (by decide)]
          unfold m_L_sums_J214
          rw [bnd_e s2, if_pos (Int32.lt_iff_toInt_lt.mpr (by rw [nI_toInt (by omega)]; show (-1 : Int) < _; omega)), nI_1]
      · have hPi : PlS m u (nI (u i)) := Or.inr (Or.inr ⟨i, by omega, rfl⟩)
        have hui := u_60 hT (show i < m by omega)
        obtain ⟨t2, -⟩ := z_slice hT hPi
        have hcnti := cn_le (RP N (nI (u i))) n
        have key : ∀ (kk : (Int32 × Int32 × Int32 × Int32 × Int32 × Int32 × Int32) → Option Int32) (A B C D : Int32), (if 0 ≤ nI (u i) then bnd (m_X6_slice g (nI (u i)) (2 : Int32)) fun (r211 : Int32) => m_L_sums_J214 kk g A B C (N (1325 + u j)) D (nI (u i)) (nI j) (nI (u j)) r211 else m_L_sums_J214 kk g A B C (N (1325 + u j)) D (nI (u i)) (nI j) (nI (u j)) (-1 : Int32)) = if cn (RP N (nI (u i))) n < cn (RP N (nI (u j))) n ∨ (cn (RP N (nI (u i))) n = cn (RP N (nI (u j))) n ∧ u j < u i) then kk (A, B, C, N (1325 + u j), D, nI (u j), nI (j + 1)) else kk (A, B, C, N (1325 + u j), D, nI (u i), nI (j + 1)) := by
          intro kk A B C D
          rw [if_pos (Int32.not_lt.mp (nI_pos (by omega))), bnd_e t2]
          unfold m_L_sums_J214
          rw [bnd_e s2]
          by_cases e1 : cn (RP N (nI (u i))) n < cn (RP N (nI (u j))) n
          · rw [if_pos (by rw [nI_ltI (by omega) (by omega)]; exact e1), if_pos (Or.inl e1), nI_1]
          · rw [if_neg (by rw [nI_ltI (by omega) (by omega)]; exact e1), bnd_e s2]
            by_cases e2 : cn (RP N (nI (u j))) n = cn (RP N (nI (u i))) n
            · rw [if_pos (by rw [e2])]
              by_cases e3 : u i ≤ u j
              · rw [if_pos (nI_le e3 (by omega)), if_neg (by omega), nI_1]
              · rw [if_neg (by rw [nI_leI (by omega) (by omega)]; exact e3), if_pos (Or.inr ⟨e2.symm, by omega⟩), nI_1]
            · rw [if_neg (by rw [nI_eq (by omega) (by omega)]; exact e2), if_neg (by omega), nI_1]
        by_cases e : cn (RP N (nI (u i))) n < cn (RP N (nI (u j))) n ∨ (cn (RP N (nI (u i))) n = cn (RP N (nI (u j))) n ∧ u j < u i)
        · refine ⟨nI (u j), Or.inr ⟨j, Nat.lt_succ_self j, rfl, fun k hkj => ?_⟩, fun kk A B C D => by rw [key, if_pos e]⟩
          rcases Nat.lt_or_ge k j with a | a
          · have := hmx k a
            omega
          · have : k = j := by omega
            subst this
            exact Or.inr ⟨rfl, Nat.le_refl _⟩
        · refine ⟨nI (u i), Or.inr ⟨i, by omega, rfl, fun k hkj => ?_⟩, fun kk A B C D => by rw [key, if_neg e]⟩
          rcases Nat.lt_or_ge k j with a | a
          · exact hmx k a
          · have : k = j := by omega
            subst this
            omega
    obtain ⟨r', hr', hv⟩ := hv6
    refine ⟨_, ⟨r', hr', rfl⟩, fun kk => ?_⟩
    have h155 : ∀ D : Int32, D = nI (cn (gB N u m) (j + 1)) → m_L_sums_J155 kk g (nI (cn (RP N 60) n) + smU (fun q => nI (cn (RP N (nI q)) n)) u j) (smU (fun q => nI (cn (spB N c (nI q)) n)) u j) (smU (fun q => N (1325 + q) - N (1265 + q)) u j) D r (nI j) (nI (u j)) = kk (nI (cn (RP N 60) n) + smU (fun q => nI (cn (RP N (nI q)) n)) u (j + 1), smU (fun q => nI (cn (spB N c (nI q)) n)) u (j + 1), smU (fun q => N (1325 + q) - N (1265 + q)) u (j + 1), gLo N u (j + 1), nI (cn (gB N u m) (j + 1)), r', nI (j + 1)) := by
      intro D hD'
      unfold m_L_sums_J155
      rw [bnd_e b1, bnd_e b0, bnd_e s2, bnd_e s6, hv, hD', gLo_s, ← i_as]
      rfl
    simp only [b_L_sums_L26, m_L_sums_L26]
    rw [bnd_e (z_c0 hT), if_neg (by rw [nI_leI (by omega) (by omega)]; omega), bnd_e (z_ord hT hj), bnd_e b0, if_neg (fun h => by have := Int32.lt_iff_toInt_lt.mp h; omega), bnd_e b1, bnd_e b0, if_neg (fun h => by have := Int32.le_iff_toInt_le.mp h; omega), bnd_e (z_place hT hPj), if_neg ne, bnd_e b0]
    have hgc2 := g_cmp hT (a := j) (by omega)
    rw [gHi_u hj] at hgc2
    by_cases e : N (1265 + u j) ≤ gLo N u j
    · rw [if_pos e]
      unfold m_L_sums_J103
      rw [bnd_e b0, if_pos e]
      refine h155 _ ?_
      rw [cn_n (hgc2.mp e), nI_z]
    · have hg : gB N u m j = true := by
        cases hb : gB N u m j with
        | true => rfl
        | false => exact absurd (hgc2.mpr hb) e
      have hgt : glN N u j < ghN N u m j := by simpa only [gB, decide_eq_true_eq] using hg
      obtain ⟨z0, z1⟩ := z_gap hT (a := j) (by omega) hg
      have hghe := gh_eq hk hs (a := j) (by omega)
      rw [gHi_u hj] at hghe
      have hm1 : nI (cn (gB N u m) j) + (1 : Int32) - (1 : Int32) = nI (cn (gB N u m) j) := by rw [nI_1, nI_pred]
      have hlo : nI (ghN N u m j - 1) = N (1265 + u j) - 1 := by
        obtain ⟨z, hz⟩ : ∃ z, ghN N u m j = z + 1 := ⟨ghN N u m j - 1, by omega⟩
        rw [hghe, hz, nI_pred, Nat.add_sub_cancel]
      rw [if_neg e]
      unfold m_L_sums_J103
      rw [bnd_e b0, if_neg e, hm1, bnd_e z0, if_pos (gl_eq hk hs (by omega)).symm, bnd_e z1, bnd_e b0, if_pos hlo]
      refine h155 _ ?_
      rw [cn_s hg, nI_1]
  · rintro x ⟨r, hr, rfl⟩ kk
    have hgc := hcg m
    have hst := cn_le (stB N c) n
    have h322 : ∀ D : Int32, D = nI (cn (gB N u m) (m + 1)) → m_L_sums_J322 g (nI (cn (RP N 60) n) + smU (fun q => nI (cn (RP N (nI q)) n)) u m) (smU (fun q => nI (cn (spB N c (nI q)) n)) u m) (smU (fun q => N (1325 + q) - N (1265 + q)) u m) D r 1 = some 1 := by
      intro D hD'
      obtain ⟨-, -, -, -, q6⟩ := z_slice hT hP60
      obtain ⟨q2, -⟩ := z_slice hT hP61
      obtain ⟨rh, hh1, hh2⟩ := z_heav hT
      rw [sp60 hD] at q6
      unfold m_L_sums_J322
      rw [if_neg ne, bnd_e (z_place hT hP60), if_neg ne, bnd_e (z_place hT hP61), if_neg ne, bnd_e q6, if_pos (show nI 0 = 0 from rfl), bnd_e (z_c0 hT), bnd_e (z_ordE hT), if_pos rfl, bnd_e (z_c2 hT), if_pos (sum_rows hT), bnd_e (z_c5 hT), if_pos (sum_strays hT hD), bnd_e (z_c8 hT), if_pos ((show ∀ a : Int32, a + (1000 - a) = 1000 from fun a => by grind) _), bnd_e (z_c7 hT), if_pos hD', hD', bnd_e (z_gapE hT), if_pos rfl, bnd_e hh1, if_pos (hv_u (hvJ_R hT hr) hh2), bnd_e q2, bnd_e (z_c3 hT), if_pos rfl, sum_strays hT hD]
      obtain ⟨rs, e1, e2⟩ := c_strayR hT (x := 0) (by decide)
      by_cases e : cn (stB N c) n = 0
      · rw [if_pos (show nI (cn (stB N c) n) = 0 by rw [e]; rfl), bnd_e e1, if_pos]
        rcases e2 with ⟨i, hi, hb, -, -⟩ | ⟨-, rfl⟩
        · have := cn_pos hi hb
          omega
        · rfl
      · rw [if_neg (nI_ne0 (by omega) (by omega)), bnd_e e1]
        rcases e2 with ⟨i, hi, hb, -, rfl⟩ | ⟨hno, -⟩
        · obtain ⟨-, -, -, -, r4⟩ := z_row hT hi (st_iff.mp hb).1
          rw [bnd_e r4, if_pos (by rw [if_pos hb])]
        · obtain ⟨i, hi, hb, hx0⟩ := cn_hit (p := stB N c) (n := n) (X := 0) (by omega)
          exact absurd (by rw [hx0]; rfl) (hno i hi hb)
    simp only [b_L_sums_L26, m_L_sums_L26]
    rw [bnd_e (z_c0 hT), if_pos (nI_le (Nat.le_refl m) (by omega))]
    have hgb := gl_b hk hs (a := m) (Nat.le_refl m)
    have hgc2 := g_cmp hT (a := m) (Nat.le_refl m)
    rw [gHi_m] at hgc2
    by_cases e : (1000 : Int32) ≤ gLo N u m
    · rw [if_pos e]
      have e1 : gLo N u m = 1000 := Int32.toInt_inj.mp (by
        have := Int32.le_iff_toInt_le.mp e
        have h1 : (1000 : Int32).toInt = 1000 := by decide
        omega)
      unfold m_L_sums_J277
      rw [if_pos e1]
      refine h322 _ ?_
      rw [cn_n (hgc2.mp e), nI_z]
    · have hg : gB N u m m = true := by
        cases hb : gB N u m m with
        | true => rfl
        | false => exact absurd (hgc2.mpr hb) e
      obtain ⟨z0, z1⟩ := z_gap hT (a := m) (Nat.le_refl m) hg
      have hm1 : nI (cn (gB N u m) m) + (1 : Int32) - (1 : Int32) = nI (cn (gB N u m) m) := by rw [nI_1, nI_pred]
      have hgh : ghN N u m m = 1000 := by
        unfold ghN
        rw [gHi_m]; rfl
      rw [if_neg e]
      unfold m_L_sums_J277
      rw [if_neg (fun q => e (by rw [q]; exact Int32.le_refl _)), hm1, bnd_e z0, if_pos (gl_eq hk hs (Nat.le_refl m)).symm, bnd_e z1, hgh, if_pos (show nI (1000 - 1) = 999 from rfl)]
      refine h322 _ ?_
      rw [cn_s hg, nI_1]
end
