/-! the law's act is one of them -/
def lw (x : Int32) (d : Nat) : Nat := (x.toBitVec.toNat % 2 ^ 31) % d
theorem lww_lt {x : Int32} {d : Nat} (h : 0 < d) : lw x d < d := Nat.mod_lt _ h
theorem low_e {g : MG} {x : Int32} {d : Nat} (h0 : 0 < d) (hd : d < 2 ^ 31) : m_L_low g x (nI d) = some (nI (lw x d)) := by
  unfold m_L_low
  rw [if_pos (nI_ne0 h0 (by omega)), pk_and x 31 (by decide), pk_rem (Nat.mod_lt _ (by decide)) h0 hd]
  rfl
theorem low_l {g : MG} {x : Int32} (d : Int32) {k : Nat} (hd : d = nI k) (h0 : 0 < k) (hk : k < 2 ^ 31) : m_L_low g x d = some (nI (lw x k)) := by
  subst hd
  exact low_e h0 hk
theorem bnd2_id {α β : Type} (x : Option (α × β)) : (bnd2 x fun r g => some (r, g)) = x := by
  cases x <;> rfl
def ActZ (P : MG → Option (Int32 × MG)) (N : Nat → Int32) (n c : Nat) (Z : Prop) : Prop :=
  (∃ r, r < 0 ∧ ∀ g m u, TB g 0 N n c m u → HO g → ∃ g', P g = some (r, g') ∧ Un g g') ∨
  ∃ r N' n' c', ¬ r < 0 ∧ Gd N' n' c' ∧ (Z → cn (stB N' c') n' = 0) ∧ ∀ g m u, TB g 0 N n c m u → HO g → ∃ g', P g = some (r, g') ∧ Dn g N n c g' N' n' c'
section
variable {g g' g1 G : MG} {N N' : Nat → Int32} {n c m n' c' m' : Nat} {u u' : Nat → Nat}
theorem ActX.z {P Q : MG → Option (Int32 × MG)} {Z : Prop} (h : ActX Q N n c) (hz : ¬ Z) (he : ∀ g m u, TB g 0 N n c m u → P g = Q g) : ActZ P N n c Z := by
  rcases h with ⟨r, h1, h2⟩ | ⟨r, N', n', c', h1, h2, h3⟩
  · exact Or.inl ⟨r, h1, fun g m u hT hH => by rw [he g m u hT]; exact h2 g m u hT hH⟩
  · exact Or.inr ⟨r, N', n', c', h1, h2, fun z => absurd z hz, fun g m u hT hH => by rw [he g m u hT]; exact h3 g m u hT hH⟩
theorem e_act (hT0 : TB g1 0 N n c m u) (hG : Gd N n c) (x1 x2 : Int32) : ActZ (fun g => m_L_act g x1 x2) N n c (lw (x1 >>> ((3 : Int32) &&& 31)) 16 = 13) := by
  have hk := hT0.1
  have hs := hT0.2.1
  have hn := hk.1.2.1
  have hc := hk.1.2.2.2
  have n10 : ¬ (1 : Int32) = 0 := by decide
  have hk5l := lww_lt (x := x1 >>> ((3 : Int32) &&& 31)) (d := 16) (by decide)
  have hfl := lww_lt (x := x2) (d := 990) (by decide)
  generalize hk5 : lw (x1 >>> ((3 : Int32) &&& 31)) 16 = k5 at hk5l ⊢
  generalize hf : lw x2 990 = f at hfl
  generalize hq : lw (x1 >>> ((8 : Int32) &&& 31)) (c + 1) = q
  have hne : ∀ a, a < 16 → k5 ≠ a → ¬ nI k5 = nI a := fun a ha h => by rw [nI_eq (by omega) (by omega)]; exact h
  by_cases h4 : k5 < 5
  · clear hne
    refine ActX.z (Q := fun g => m_X6_put g (nI (lw x2 1000)) (nI (lw (x2 >>> ((10 : Int32) &&& 31)) 100))) (e_put hk hG _ _) (by omega) (fun g m u hT => ?_)
    show m_L_act g x1 x2 = _
    unfold m_L_act
    rw [bnd_e (low_l (16 : Int32) (k := 16) rfl (by decide) (by decide)), hk5, bnd_e (z_c1 hT), nI_1, bnd_e (low_e (d := c + 1) (by omega) (by omega)), hq, bnd_e (low_l (990 : Int32) (k := 990) rfl (by decide) (by decide)), hf, if_neg (show ¬ (5 : Int32) ≤ nI k5 from fun w => by have := (nI_leI (a := 5) (by omega) (by omega)).mp w; omega), bnd_e (low_l (x := x2) (1000 : Int32) (k := 1000) rfl (by decide) (by decide)), bnd_e (low_l (x := x2 >>> ((10 : Int32) &&& 31)) (100 : Int32) (k := 100) rfl (by decide) (by decide))]
    exact bnd2_id _
  by_cases h5 : k5 = 5
  · skip
    refine ActX.z (Q := fun g => m_X6_stage g (nI (lw x2 1000)) (nI (lw (x2 >>> ((10 : Int32) &&& 31)) 100))) (e_stage hk hG _ _) (by omega) (fun g m u hT => ?_)
    show m_L_act g x1 x2 = _
    unfold m_L_act
    rw [bnd_e (low_l (16 : Int32) (k := 16) rfl (by decide) (by decide)), hk5, bnd_e (z_c1 hT), nI_1, bnd_e (low_e (d := c + 1) (by omega) (by omega)), hq, bnd_e (low_l (990 : Int32) (k := 990) rfl (by decide) (by decide)), hf, if_pos (show (5 : Int32) ≤ nI k5 from (nI_leI (a := 5) (by omega) (by omega)).mpr (by omega)), if_pos (show nI k5 = (5 : Int32) by rw [h5]; rfl), bnd_e (low_l (x := x2) (1000 : Int32) (k := 1000) rfl (by decide) (by decide)), bnd_e (low_l (x := x2 >>> ((10 : Int32) &&& 31)) (100 : Int32) (k := 100) rfl (by decide) (by decide))]
    exact bnd2_id _
  by_cases h7 : k5 < 8
  · have hdv : (10 : Int32) + (((990 : Int32) - nI f) / (2 : Int32)) = nI (10 + (990 - f) / 2) := by
      rw [show (990 : Int32) = nI 990 from rfl, pk_sub (by omega), show (2 : Int32) = nI 2 from rfl, pk_div (by omega) (by omega) (by omega), show (10 : Int32) = nI 10 from rfl, nI_add]
    refine ActX.z (Q := fun g => m_X6_addSlice g (nI f) ((nI f + (1 : Int32)) + nI (lw (x2 >>> ((9 : Int32) &&& 31)) (10 + (990 - f) / 2)))) (e_addSlice hk hG _ _) (by omega) (fun g m u hT => ?_)
    show m_L_act g x1 x2 = _
    unfold m_L_act
    rw [bnd_e (low_l (16 : Int32) (k := 16) rfl (by decide) (by decide)), hk5, bnd_e (z_c1 hT), nI_1, bnd_e (low_e (d := c + 1) (by omega) (by omega)), hq, bnd_e (low_l (990 : Int32) (k := 990) rfl (by decide) (by decide)), hf, if_pos (show (5 : Int32) ≤ nI k5 from (nI_leI (a := 5) (by omega) (by omega)).mpr (by omega)), if_neg (show ¬ nI k5 = (5 : Int32) from hne 5 (by omega) (by omega)), if_neg (show ¬ (8 : Int32) ≤ nI k5 from fun w => by have := (nI_leI (a := 8) (by omega) (by omega)).mp w; omega), if_pos (show ¬ (2 : Int32) = 0 by decide), hdv, bnd_e (low_e (d := 10 + (990 - f) / 2) (by omega) (by omega))]
    exact bnd2_id _
  by_cases h8 : k5 = 8
  · by_cases e : nI (lw x2 2) = 0
    · skip
      refine ActX.z (Q := fun g => m_X6_take g (nI (lw (x2 >>> ((1 : Int32) &&& 31)) (n + 1)))) (e_take hk hG _) (by omega) (fun g m u hT => ?_)
      show m_L_act g x1 x2 = _
      unfold m_L_act
      rw [bnd_e (low_l (16 : Int32) (k := 16) rfl (by decide) (by decide)), hk5, bnd_e (z_c1 hT), nI_1, bnd_e (low_e (d := c + 1) (by omega) (by omega)), hq, bnd_e (low_l (990 : Int32) (k := 990) rfl (by decide) (by decide)), hf, if_pos (show (5 : Int32) ≤ nI k5 from (nI_leI (a := 5) (by omega) (by omega)).mpr (by omega)), if_neg (show ¬ nI k5 = (5 : Int32) from hne 5 (by omega) (by omega)), if_pos (show (8 : Int32) ≤ nI k5 from (nI_leI (a := 8) (by omega) (by omega)).mpr (by omega)), if_pos (show nI k5 = (8 : Int32) by rw [h8]; rfl), bnd_e (low_l (x := x2) (2 : Int32) (k := 2) rfl (by decide) (by decide)), if_pos e, bnd_e (z_c4 hT), nI_1, bnd_e (low_e (d := n + 1) (by omega) (by omega))]
      exact bnd2_id _
    · skip
      refine ActX.z (Q := fun g => m_X6_rekey g (nI (lw (x2 >>> ((1 : Int32) &&& 31)) (n + 1))) (nI (lw (x2 >>> ((7 : Int32) &&& 31)) 1000))) (e_rekey hk hG _ _) (by omega) (fun g m u hT => ?_)
      show m_L_act g x1 x2 = _
      unfold m_L_act
      rw [bnd_e (low_l (16 : Int32) (k := 16) rfl (by decide) (by decide)), hk5, bnd_e (z_c1 hT), nI_1, bnd_e (low_e (d := c + 1) (by omega) (by omega)), hq, bnd_e (low_l (990 : Int32) (k := 990) rfl (by decide) (by decide)), hf, if_pos (show (5 : Int32) ≤ nI k5 from (nI_leI (a := 5) (by omega) (by omega)).mpr (by omega)), if_neg (show ¬ nI k5 = (5 : Int32) from hne 5 (by omega) (by omega)), if_pos (show (8 : Int32) ≤ nI k5 from (nI_leI (a := 8) (by omega) (by omega)).mpr (by omega)), if_pos (show nI k5 = (8 : Int32) by rw [h8]; rfl), bnd_e (low_l (x := x2) (2 : Int32) (k := 2) rfl (by decide) (by decide)), if_neg e, bnd_e (z_c4 hT), nI_1, bnd_e (low_e (d := n + 1) (by omega) (by omega)), bnd_e (low_l (x := x2 >>> ((7 : Int32) &&& 31)) (1000 : Int32) (k := 1000) rfl (by decide) (by decide))]
      exact bnd2_id _
  by_cases h9 : k5 = 9
  · obtain ⟨s0, hs0⟩ := slice_ex hT0 (nI q) 0
    refine ActX.z (Q := fun g => m_X6_split g (nI q) (s0 + nI (lw x2 60))) (e_split hk hG _ _) (by omega) (fun g m u hT => ?_)
    show m_L_act g x1 x2 = _
    unfold m_L_act
    rw [bnd_e (low_l (16 : Int32) (k := 16) rfl (by decide) (by decide)), hk5, bnd_e (z_c1 hT), nI_1, bnd_e (low_e (d := c + 1) (by omega) (by omega)), hq, bnd_e (low_l (990 : Int32) (k := 990) rfl (by decide) (by decide)), hf, if_pos (show (5 : Int32) ≤ nI k5 from (nI_leI (a := 5) (by omega) (by omega)).mpr (by omega)), if_neg (show ¬ nI k5 = (5 : Int32) from hne 5 (by omega) (by omega)), if_pos (show (8 : Int32) ≤ nI k5 from (nI_leI (a := 8) (by omega) (by omega)).mpr (by omega)), if_neg (show ¬ nI k5 = (8 : Int32) from hne 8 (by omega) (by omega)), if_pos (show nI k5 = (9 : Int32) by rw [h9]; rfl), bnd_e ((slice_cg hT hT0 (nI q) 0).trans hs0), bnd_e (low_l (x := x2) (60 : Int32) (k := 60) rfl (by decide) (by decide))]
    exact bnd2_id _
  by_cases h10 : k5 = 10
  · skip
    refine ActX.z (Q := fun g => m_X6_merge g (nI q) (nI (lw x2 (c + 1)))) (e_merge hT0 hG _ _) (by omega) (fun g m u hT => ?_)
    show m_L_act g x1 x2 = _
    unfold m_L_act
    rw [bnd_e (low_l (16 : Int32) (k := 16) rfl (by decide) (by decide)), hk5, bnd_e (z_c1 hT), nI_1, bnd_e (low_e (d := c + 1) (by omega) (by omega)), hq, bnd_e (low_l (990 : Int32) (k := 990) rfl (by decide) (by decide)), hf, if_pos (show (5 : Int32) ≤ nI k5 from (nI_leI (a := 5) (by omega) (by omega)).mpr (by omega)), if_neg (show ¬ nI k5 = (5 : Int32) from hne 5 (by omega) (by omega)), if_pos (show (8 : Int32) ≤ nI k5 from (nI_leI (a := 8) (by omega) (by omega)).mpr (by omega)), if_neg (show ¬ nI k5 = (8 : Int32) from hne 8 (by omega) (by omega)), if_neg (show ¬ nI k5 = (9 : Int32) from hne 9 (by omega) (by omega)), if_pos (show nI k5 = (10 : Int32) by rw [h10]; rfl), bnd_e (z_c1 hT), nI_1, bnd_e (low_e (d := c + 1) (by omega) (by omega))]
    exact bnd2_id _
  by_cases h11 : k5 = 11
  · by_cases e : nI (lw x2 2) = 0
    · skip
      refine ActX.z (Q := fun g => m_X6_detach g (nI q)) (e_detach hk hG _) (by omega) (fun g m u hT => ?_)
      show m_L_act g x1 x2 = _
      unfold m_L_act
      rw [bnd_e (low_l (16 : Int32) (k := 16) rfl (by decide) (by decide)), hk5, bnd_e (z_c1 hT), nI_1, bnd_e (low_e (d := c + 1) (by omega) (by omega)), hq, bnd_e (low_l (990 : Int32) (k := 990) rfl (by decide) (by decide)), hf, if_pos (show (5 : Int32) ≤ nI k5 from (nI_leI (a := 5) (by omega) (by omega)).mpr (by omega)), if_neg (show ¬ nI k5 = (5 : Int32) from hne 5 (by omega) (by omega)), if_pos (show (8 : Int32) ≤ nI k5 from (nI_leI (a := 8) (by omega) (by omega)).mpr (by omega)), if_neg (show ¬ nI k5 = (8 : Int32) from hne 8 (by omega) (by omega)), if_neg (show ¬ nI k5 = (9 : Int32) from hne 9 (by omega) (by omega)), if_neg (show ¬ nI k5 = (10 : Int32) from hne 10 (by omega) (by omega)), if_pos (show nI k5 = (11 : Int32) by rw [h11]; rfl), bnd_e (low_l (x := x2) (2 : Int32) (k := 2) rfl (by decide) (by decide)), if_pos e]
      exact bnd2_id _
    · have hz : ¬ ((991 : Int32) - nI f) = 0 := by
        rw [show (991 : Int32) = nI 991 from rfl, pk_sub (by omega)]
        exact nI_ne0 (by omega) (by omega)
      refine ActX.z (Q := fun g => m_X6_attach g (nI f) ((nI f + (10 : Int32)) + (nI (lw (x2 >>> ((3 : Int32) &&& 31)) 900) - nI (lw (x2 >>> ((3 : Int32) &&& 31)) 900) / ((991 : Int32) - nI f) * ((991 : Int32) - nI f)))) (e_attach hk hG _ _) (by omega) (fun g m u hT => ?_)
      show m_L_act g x1 x2 = _
      unfold m_L_act
      rw [bnd_e (low_l (16 : Int32) (k := 16) rfl (by decide) (by decide)), hk5, bnd_e (z_c1 hT), nI_1, bnd_e (low_e (d := c + 1) (by omega) (by omega)), hq, bnd_e (low_l (990 : Int32) (k := 990) rfl (by decide) (by decide)), hf, if_pos (show (5 : Int32) ≤ nI k5 from (nI_leI (a := 5) (by omega) (by omega)).mpr (by omega)), if_neg (show ¬ nI k5 = (5 : Int32) from hne 5 (by omega) (by omega)), if_pos (show (8 : Int32) ≤ nI k5 from (nI_leI (a := 8) (by omega) (by omega)).mpr (by omega)), if_neg (show ¬ nI k5 = (8 : Int32) from hne 8 (by omega) (by omega)), if_neg (show ¬ nI k5 = (9 : Int32) from hne 9 (by omega) (by omega)), if_neg (show ¬ nI k5 = (10 : Int32) from hne 10 (by omega) (by omega)), if_pos (show nI k5 = (11 : Int32) by rw [h11]; rfl), bnd_e (low_l (x := x2) (2 : Int32) (k := 2) rfl (by decide) (by decide)), if_neg e, bnd_e (low_l (x := x2 >>> ((3 : Int32) &&& 31)) (900 : Int32) (k := 900) rfl (by decide) (by decide)), if_pos hz]
      exact bnd2_id _
  by_cases h12 : k5 = 12
  · by_cases e : nI (lw x2 2) = 0
    · skip
      refine ActX.z (Q := fun g => m_X6_swap g (nI q) 1) (e_swap hk hG _ _) (by omega) (fun g m u hT => ?_)
      show m_L_act g x1 x2 = _
      unfold m_L_act
      rw [bnd_e (low_l (16 : Int32) (k := 16) rfl (by decide) (by decide)), hk5, bnd_e (z_c1 hT), nI_1, bnd_e (low_e (d := c + 1) (by omega) (by omega)), hq, bnd_e (low_l (990 : Int32) (k := 990) rfl (by decide) (by decide)), hf, if_pos (show (5 : Int32) ≤ nI k5 from (nI_leI (a := 5) (by omega) (by omega)).mpr (by omega)), if_neg (show ¬ nI k5 = (5 : Int32) from hne 5 (by omega) (by omega)), if_pos (show (8 : Int32) ≤ nI k5 from (nI_leI (a := 8) (by omega) (by omega)).mpr (by omega)), if_neg (show ¬ nI k5 = (8 : Int32) from hne 8 (by omega) (by omega)), if_neg (show ¬ nI k5 = (9 : Int32) from hne 9 (by omega) (by omega)), if_neg (show ¬ nI k5 = (10 : Int32) from hne 10 (by omega) (by omega)), if_neg (show ¬ nI k5 = (11 : Int32) from hne 11 (by omega) (by omega)), if_pos (show nI k5 = (12 : Int32) by rw [h12]; rfl), bnd_e (low_l (x := x2) (2 : Int32) (k := 2) rfl (by decide) (by decide)), if_pos e]
      exact bnd2_id _
    · skip
      refine ActX.z (Q := fun g => m_X6_swap g (nI q) 0) (e_swap hk hG _ _) (by omega) (fun g m u hT => ?_)
      show m_L_act g x1 x2 = _
      unfold m_L_act
      rw [bnd_e (low_l (16 : Int32) (k := 16) rfl (by decide) (by decide)), hk5, bnd_e (z_c1 hT), nI_1, bnd_e (low_e (d := c + 1) (by omega) (by omega)), hq, bnd_e (low_l (990 : Int32) (k := 990) rfl (by decide) (by decide)), hf, if_pos (show (5 : Int32) ≤ nI k5 from (nI_leI (a := 5) (by omega) (by omega)).mpr (by omega)), if_neg (show ¬ nI k5 = (5 : Int32) from hne 5 (by omega) (by omega)), if_pos (show (8 : Int32) ≤ nI k5 from (nI_leI (a := 8) (by omega) (by omega)).mpr (by omega)), if_neg (show ¬ nI k5 = (8 : Int32) from hne 8 (by omega) (by omega)), if_neg (show ¬ nI k5 = (9 : Int32) from hne 9 (by omega) (by omega)), if_neg (show ¬ nI k5 = (10 : Int32) from hne 10 (by omega) (by omega)), if_neg (show ¬ nI k5 = (11 : Int32) from hne 11 (by omega) (by omega)), if_pos (show nI k5 = (12 : Int32) by rw [h12]; rfl), bnd_e (low_l (x := x2) (2 : Int32) (k := 2) rfl (by decide) (by decide)), if_neg e]
      exact bnd2_id _
  by_cases h13 : k5 = 13
  · have he : ∀ g m u, TB g 0 N n c m u → m_L_act g x1 x2 = m_X6_mend g := fun g m u hT => by
      unfold m_L_act
      rw [bnd_e (low_l (16 : Int32) (k := 16) rfl (by decide) (by decide)), hk5, bnd_e (z_c1 hT), nI_1, bnd_e (low_e (d := c + 1) (by omega) (by omega)), hq, bnd_e (low_l (990 : Int32) (k := 990) rfl (by decide) (by decide)), hf, if_pos (show (5 : Int32) ≤ nI k5 from (nI_leI (a := 5) (by omega) (by omega)).mpr (by omega)), if_neg (show ¬ nI k5 = (5 : Int32) from hne 5 (by omega) (by omega)), if_pos (show (8 : Int32) ≤ nI k5 from (nI_leI (a := 8) (by omega) (by omega)).mpr (by omega)), if_neg (show ¬ nI k5 = (8 : Int32) from hne 8 (by omega) (by omega)), if_neg (show ¬ nI k5 = (9 : Int32) from hne 9 (by omega) (by omega)), if_neg (show ¬ nI k5 = (10 : Int32) from hne 10 (by omega) (by omega)), if_neg (show ¬ nI k5 = (11 : Int32) from hne 11 (by omega) (by omega)), if_neg (show ¬ nI k5 = (12 : Int32) from hne 12 (by omega) (by omega)), if_pos (show nI k5 = (13 : Int32) by rw [h13]; rfl)]
      exact bnd2_id _
    rcases k_mend hk hG with ⟨r, h1, h2⟩ | ⟨r, N', n', c', h1, h2, h3, h4⟩
    · exact Or.inl ⟨r, h1, fun g m u hT hH => by
        show ∃ g', m_L_act g x1 x2 = _ ∧ _
        rw [he g m u hT]; exact h2 g m u hT hH⟩
    · exact Or.inr ⟨r, N', n', c', h1, h2, fun _ => h3, fun g m u hT hH => by
        show ∃ g', m_L_act g x1 x2 = _ ∧ _
        rw [he g m u hT]; exact h4 g m u hT hH⟩
  have h01 : ∀ z : Nat, z < 2 → nI z = 0 ∨ nI z = 1 := fun z hz => by
    rcases (show z = 0 ∨ z = 1 by omega) with rfl | rfl
    · exact Or.inl rfl
    · exact Or.inr rfl
  by_cases h14 : k5 = 14
  · skip
    refine ActX.z (Q := fun g => m_X6_set g (nI (lw x2 2)) (nI (lw (x2 >>> ((1 : Int32) &&& 31)) 2))) (e_set hk hG (h01 _ (lww_lt (by decide))) (h01 _ (lww_lt (by decide)))) (by omega) (fun g m u hT => ?_)
    show m_L_act g x1 x2 = _
    unfold m_L_act
    rw [bnd_e (low_l (16 : Int32) (k := 16) rfl (by decide) (by decide)), hk5, bnd_e (z_c1 hT), nI_1, bnd_e (low_e (d := c + 1) (by omega) (by omega)), hq, bnd_e (low_l (990 : Int32) (k := 990) rfl (by decide) (by decide)), hf, if_pos (show (5 : Int32) ≤ nI k5 from (nI_leI (a := 5) (by omega) (by omega)).mpr (by omega)), if_neg (show ¬ nI k5 = (5 : Int32) from hne 5 (by omega) (by omega)), if_pos (show (8 : Int32) ≤ nI k5 from (nI_leI (a := 8) (by omega) (by omega)).mpr (by omega)), if_neg (show ¬ nI k5 = (8 : Int32) from hne 8 (by omega) (by omega)), if_neg (show ¬ nI k5 = (9 : Int32) from hne 9 (by omega) (by omega)), if_neg (show ¬ nI k5 = (10 : Int32) from hne 10 (by omega) (by omega)), if_neg (show ¬ nI k5 = (11 : Int32) from hne 11 (by omega) (by omega)), if_neg (show ¬ nI k5 = (12 : Int32) from hne 12 (by omega) (by omega)), if_neg (show ¬ nI k5 = (13 : Int32) from hne 13 (by omega) (by omega)), if_pos (show nI k5 = (14 : Int32) by rw [h14]; rfl), bnd_e (low_l (x := x2) (2 : Int32) (k := 2) rfl (by decide) (by decide)), bnd_e (low_l (x := x2 >>> ((1 : Int32) &&& 31)) (2 : Int32) (k := 2) rfl (by decide) (by decide))]
    exact bnd2_id _
  by_cases e : nI (lw x2 3) = 0
  · by_cases e2 : nI (lw (x2 >>> ((2 : Int32) &&& 31)) 2) = 0
    · skip
      refine ActX.z (Q := fun g => m_X6_useDefault g 1) (e_useDefault hk hs hG (Or.inr rfl)) (by omega) (fun g m u hT => ?_)
      show m_L_act g x1 x2 = _
      unfold m_L_act
      rw [bnd_e (low_l (16 : Int32) (k := 16) rfl (by decide) (by decide)), hk5, bnd_e (z_c1 hT), nI_1, bnd_e (low_e (d := c + 1) (by omega) (by omega)), hq, bnd_e (low_l (990 : Int32) (k := 990) rfl (by decide) (by decide)), hf, if_pos (show (5 : Int32) ≤ nI k5 from (nI_leI (a := 5) (by omega) (by omega)).mpr (by omega)), if_neg (show ¬ nI k5 = (5 : Int32) from hne 5 (by omega) (by omega)), if_pos (show (8 : Int32) ≤ nI k5 from (nI_leI (a := 8) (by omega) (by omega)).mpr (by omega)), if_neg (show ¬ nI k5 = (8 : Int32) from hne 8 (by omega) (by omega)), if_neg (show ¬ nI k5 = (9 : Int32) from hne 9 (by omega) (by omega)), if_neg (show ¬ nI k5 = (10 : Int32) from hne 10 (by omega) (by omega)), if_neg (show ¬ nI k5 = (11 : Int32) from hne 11 (by omega) (by omega)), if_neg (show ¬ nI k5 = (12 : Int32) from hne 12 (by omega) (by omega)), if_neg (show ¬ nI k5 = (13 : Int32) from hne 13 (by omega) (by omega)), if_neg (show ¬ nI k5 = (14 : Int32) from hne 14 (by omega) (by omega)), bnd_e (low_l (x := x2) (3 : Int32) (k := 3) rfl (by decide) (by decide)), if_pos e, bnd_e (low_l (x := x2 >>> ((2 : Int32) &&& 31)) (2 : Int32) (k := 2) rfl (by decide) (by decide)), if_pos e2]
      exact bnd2_id _
    · skip
      refine ActX.z (Q := fun g => m_X6_useDefault g 0) (e_useDefault hk hs hG (Or.inl rfl)) (by omega) (fun g m u hT => ?_)
      show m_L_act g x1 x2 = _
      unfold m_L_act
      rw [bnd_e (low_l (16 : Int32) (k := 16) rfl (by decide) (by decide)), hk5, bnd_e (z_c1 hT), nI_1, bnd_e (low_e (d := c + 1) (by omega) (by omega)), hq, bnd_e (low_l (990 : Int32) (k := 990) rfl (by decide) (by decide)), hf, if_pos (show (5 : Int32) ≤ nI k5 from (nI_leI (a := 5) (by omega) (by omega)).mpr (by omega)), if_neg (show ¬ nI k5 = (5 : Int32) from hne 5 (by omega) (by omega)), if_pos (show (8 : Int32) ≤ nI k5 from (nI_leI (a := 8) (by omega) (by omega)).mpr (by omega)), if_neg (show ¬ nI k5 = (8 : Int32) from hne 8 (by omega) (by omega)), if_neg (show ¬ nI k5 = (9 : Int32) from hne 9 (by omega) (by omega)), if_neg (show ¬ nI k5 = (10 : Int32) from hne 10 (by omega) (by omega)), if_neg (show ¬ nI k5 = (11 : Int32) from hne 11 (by omega) (by omega)), if_neg (show ¬ nI k5 = (12 : Int32) from hne 12 (by omega) (by omega)), if_neg (show ¬ nI k5 = (13 : Int32) from hne 13 (by omega) (by omega)), if_neg (show ¬ nI k5 = (14 : Int32) from hne 14 (by omega) (by omega)), bnd_e (low_l (x := x2) (3 : Int32) (k := 3) rfl (by decide) (by decide)), if_pos e, bnd_e (low_l (x := x2 >>> ((2 : Int32) &&& 31)) (2 : Int32) (k := 2) rfl (by decide) (by decide)), if_neg e2]
      exact bnd2_id _
  · by_cases e2 : nI (lw x2 3) = 1
    · skip
      refine ActX.z (Q := fun g => m_X6_dropSlice g (nI q)) (e_dropSlice hk hG _) (by omega) (fun g m u hT => ?_)
      show m_L_act g x1 x2 = _
      unfold m_L_act
      rw [bnd_e (low_l (16 : Int32) (k := 16) rfl (by decide) (by decide)), hk5, bnd_e (z_c1 hT), nI_1, bnd_e (low_e (d := c + 1) (by omega) (by omega)), hq, bnd_e (low_l (990 : Int32) (k := 990) rfl (by decide) (by decide)), hf, if_pos (show (5 : Int32) ≤ nI k5 from (nI_leI (a := 5) (by omega) (by omega)).mpr (by omega)), if_neg (show ¬ nI k5 = (5 : Int32) from hne 5 (by omega) (by omega)), if_pos (show (8 : Int32) ≤ nI k5 from (nI_leI (a := 8) (by omega) (by omega)).mpr (by omega)), if_neg (show ¬ nI k5 = (8 : Int32) from hne 8 (by omega) (by omega)), if_neg (show ¬ nI k5 = (9 : Int32) from hne 9 (by omega) (by omega)), if_neg (show ¬ nI k5 = (10 : Int32) from hne 10 (by omega) (by omega)), if_neg (show ¬ nI k5 = (11 : Int32) from hne 11 (by omega) (by omega)), if_neg (show ¬ nI k5 = (12 : Int32) from hne 12 (by omega) (by omega)), if_neg (show ¬ nI k5 = (13 : Int32) from hne 13 (by omega) (by omega)), if_neg (show ¬ nI k5 = (14 : Int32) from hne 14 (by omega) (by omega)), bnd_e (low_l (x := x2) (3 : Int32) (k := 3) rfl (by decide) (by decide)), if_neg e, bnd_e (low_l (x := x2) (3 : Int32) (k := 3) rfl (by decide) (by decide)), if_pos e2]
      exact bnd2_id _
    · skip
      refine ActX.z (Q := fun g => m_X6_put g (nI f) 1) (e_put hk hG _ _) (by omega) (fun g m u hT => ?_)
      show m_L_act g x1 x2 = _
      unfold m_L_act
      rw [bnd_e (low_l (16 : Int32) (k := 16) rfl (by decide) (by decide)), hk5, bnd_e (z_c1 hT), nI_1, bnd_e (low_e (d := c + 1) (by omega) (by omega)), hq, bnd_e (low_l (990 : Int32) (k := 990) rfl (by decide) (by decide)), hf, if_pos (show (5 : Int32) ≤ nI k5 from (nI_leI (a := 5) (by omega) (by omega)).mpr (by omega)), if_neg (show ¬ nI k5 = (5 : Int32) from hne 5 (by omega) (by omega)), if_pos (show (8 : Int32) ≤ nI k5 from (nI_leI (a := 8) (by omega) (by omega)).mpr (by omega)), if_neg (show ¬ nI k5 = (8 : Int32) from hne 8 (by omega) (by omega)), if_neg (show ¬ nI k5 = (9 : Int32) from hne 9 (by omega) (by omega)), if_neg (show ¬ nI k5 = (10 : Int32) from hne 10 (by omega) (by omega)), if_neg (show ¬ nI k5 = (11 : Int32) from hne 11 (by omega) (by omega)), if_neg (show ¬ nI k5 = (12 : Int32) from hne 12 (by omega) (by omega)), if_neg (show ¬ nI k5 = (13 : Int32) from hne 13 (by omega) (by omega)), if_neg (show ¬ nI k5 = (14 : Int32) from hne 14 (by omega) (by omega)), bnd_e (low_l (x := x2) (3 : Int32) (k := 3) rfl (by decide) (by decide)), if_neg e, bnd_e (low_l (x := x2) (3 : Int32) (k := 3) rfl (by decide) (by decide)), if_neg e2]
      exact bnd2_id _
end
