/-! bestSplit -/
def UU (T A : Nat) : Nat := (T - 2 * A) + (2 * A - T)
theorem i_flip (a b : Int32) : 0 - (a - b) = b - a := by grind
theorem i_neg (a b : Int32) : -(a - b) = b - a := by grind
theorem uu_eq {T A : Nat} (hT : T ≤ 1000) (hA : A ≤ 1000) : (if 0 ≤ (nI T - ((2 : Int32) * nI A)) then (nI T - ((2 : Int32) * nI A)) else 0 - (nI T - ((2 : Int32) * nI A))) = nI (UU T A) := by
  rw [show (2 : Int32) = nI 2 from rfl, pk_mul]
  unfold UU
  rcases Nat.lt_or_ge T (2 * A) with w | w
  · rw [if_neg (Int32.not_le.mpr (pk_sneg (by omega) w)), i_flip, pk_sub (by omega), show T - 2 * A + (2 * A - T) = 2 * A - T by omega]
  · rw [pk_sub w, if_pos (nI_pos' (by omega)), show T - 2 * A + (2 * A - T) = T - 2 * A by omega]
theorem uu_eq2 {h : MG} {T A : Nat} (hT : T ≤ 1000) (hA : A ≤ 1000) : m_X7_abs h (nI T - ((2 : Int32) * nI A)) = some (nI (UU T A)) := by
  unfold m_X7_abs
  rw [show (2 : Int32) = nI 2 from rfl, pk_mul]
  unfold UU
  rcases Nat.lt_or_ge T (2 * A) with w | w
  · rw [if_neg (Int32.not_le.mpr (pk_sneg (by omega) w)), i_neg, pk_sub (by omega), show T - 2 * A + (2 * A - T) = 2 * A - T by omega]
  · rw [pk_sub w, if_pos (nI_pos' (by omega)), show T - 2 * A + (2 * A - T) = T - 2 * A by omega]
theorem i_nat {x : Int32} (h : 0 ≤ x.toInt) : ∃ k : Nat, x = nI k ∧ (k : Int) = x.toInt := by
  have := x.toInt_lt
  refine ⟨x.toInt.toNat, Int32.toInt_inj.mp ?_, by omega⟩
  rw [nI_toInt (by omega)]
  omega
section
variable {g h : MG} {n c m : Nat} {u : Nat → Nat} {N : Nat → Int32}
def cnK (N : Nat → Int32) (p : Int32) (n b : Nat) : Nat := cn (RB N p 0 (nI b)) n
def LX (U : Nat → Nat) (b b' : Nat) : Prop := U b < U b' ∨ (U b = U b' ∧ b ≤ b')
theorem aa_step {p : Int32} {b : Nat} (hb : b < 2000) (hno : ∀ i, i < n → N (805 + i) = p → ¬ N (5 + i) = nI b) : cnK N p n (b + 1) = cnK N p n b := by
  unfold cnK
  refine cn_congr (fun i hi => ?_)
  rw [Bool.eq_iff_iff, rb_iff, rb_iff]
  have h1 := nI_toInt (n := b) (by omega)
  have h2 := nI_toInt (n := b + 1) (by omega)
  constructor
  · rintro ⟨e1, e2, e3⟩
    refine ⟨e1, e2, ?_⟩
    have : ¬ (N (5 + i)).toInt = (nI b).toInt := fun e => hno i hi e1 (Int32.toInt_inj.mp e)
    omega
  · rintro ⟨e1, e2, e3⟩
    exact ⟨e1, e2, by omega⟩
/-- candidates -/
def CaB (N : Nat → Int32) (p : Int32) (L H i b : Nat) : Prop := b = L + 1 ∨ ∃ j, j < i ∧ N (805 + j) = p ∧ N (5 + j) + (1 : Int32) = nI b ∧ L < b ∧ b < H
theorem ca_ex {p : Int32} {L H : Nat} (hH : H ≤ 1000) : ∀ b, L < b → b < H → ∃ b', CaB N p L H n b' ∧ b' ≤ b ∧ cnK N p n b' = cnK N p n b := by
  intro b
  induction b with
  | zero => intro h1; omega
  | succ b ih =>
    intro h1 h2
    rcases Nat.lt_or_ge L b with w | w
    · by_cases e : ∃ i, i < n ∧ N (805 + i) = p ∧ N (5 + i) = nI b
      · obtain ⟨i, hi, e1, e2⟩ := e
        exact ⟨b + 1, Or.inr ⟨i, hi, e1, by rw [e2, nI_1], by omega, by omega⟩, Nat.le_refl _, rfl⟩
      · obtain ⟨b', k1, k2, k3⟩ := ih w (by omega)
        exact ⟨b', k1, by omega, by rw [k3, aa_step (by omega) (fun i hi e1 e2 => e ⟨i, hi, e1, e2⟩)]⟩
    · exact ⟨b + 1, Or.inl (by omega), Nat.le_refl _, rfl⟩
theorem lx_u {U : Nat → Nat} {b b' : Nat} (h : LX U b b') (h' : LX U b' b) : b = b' := by
  unfold LX at h h'
  omega
theorem lx_t {U : Nat → Nat} {a b d : Nat} (h : LX U a b) (h' : LX U b d) : LX U a d := by
  unfold LX at h h' ⊢
  omega
theorem p_bestSplit (hT : TB g 0 (h.1 1) n c m u) (x : Int32) : ∃ r, m_X6_bestSplit g x = some r ∧ m_X7_bestSplit h x = some r := by
  have hn := hT.n4
  have hc6 := hT.c6
  have hm12 := hT.m12
  have ne : ¬ (1 : Int32) = 0 := by decide
  unfold m_X6_bestSplit m_X7_bestSplit
  rcases sl_or hT x with ⟨j, hj, rfl⟩ | ho
  · obtain ⟨q1, q2⟩ := hT.2.1.2.1 j hj
    have hb := u_b hT.1 hT.2.1 hj
    obtain ⟨L, eL, eL'⟩ := i_nat (x := h.1 1 (1265 + u j)) (by omega)
    obtain ⟨Hh, eH, eH'⟩ := i_nat (x := h.1 1 (1325 + u j)) (by omega)
    have el : ((1265 : Int32) + nI (u j)).toNatClampNeg = 1265 + u j := a1265 (by omega)
    have eh : ((1325 : Int32) + nI (u j)).toNatClampNeg = 1325 + u j := a1325 (by omega)
    have hcn := cn_le (RP (h.1 1) (nI (u j))) n
    have hAA : ∀ b, cnK (h.1 1) (nI (u j)) n b ≤ 400 := fun b => by
      have := cn_le (RB (h.1 1) (nI (u j)) 0 (nI b)) n
      unfold cnK
      omega
    rw [bnd_e (c_pos hT hj), if_neg (nI_ne_m (by omega) (by decide)), bnd_e (c_low hT hj), bnd_e (c_high hT hj), bnd_e (r_isSlice hT.1 q1), if_pos q2, if_neg ne, bnd_e (c_amount hT _), bnd_e (r_rowsIn hT.1 _), if_pos (v1265 (by omega)), el, eL, eH]
    generalize hTT : cn (RP (h.1 1) (nI (u j))) n = T at hcn ⊢
    have hUc : ∀ b, b < 2000 → m_X6_unevenness g (nI (u j)) (nI b) (nI T) = some (nI (UU T (cnK (h.1 1) (nI (u j)) n b))) := fun b hb => by
      unfold m_X6_unevenness
      rw [bnd_e (c_amountK hT _ _ _), uu_eq (by omega) (by have := hAA b; unfold cnK at this; omega)]
      rfl
    have hUr : ∀ b, b < 2000 → ∃ r62, m_X7_rowsBetween h (nI (u j)) 0 (nI b) = some r62 ∧ m_X7_abs h (nI T - ((2 : Int32) * r62)) = some (nI (UU T (cnK (h.1 1) (nI (u j)) n b))) := fun b hb => by
      refine ⟨_, r_rowsBetween hT.1 _ _ _ (by rw [nI_toInt (by omega)]; omega), ?_⟩
      rw [uu_eq2 (by omega) (by have := hAA b; unfold cnK at this; omega)]
      rfl
    have hUb : ∀ b, UU T (cnK (h.1 1) (nI (u j)) n b) < 2000 := fun b => by
      have := hAA b
      unfold UU
      omega
    generalize hUU : (fun b => UU T (cnK (h.1 1) (nI (u j)) n b)) = U
    have hU : ∀ b, UU T (cnK (h.1 1) (nI (u j)) n b) = U b := fun b => by rw [← hUU]
    simp only [hU] at hUc hUr hUb
    have hext : ∀ b b', cnK (h.1 1) (nI (u j)) n b = cnK (h.1 1) (nI (u j)) n b' → U b = U b' := fun b b' e => by rw [← hU, ← hU, e]
    have hLH : L < Hh ∧ Hh ≤ 1000 := by omega
    have e1 : nI L + (1 : Int32) = nI (L + 1) := nI_1 L
    rw [pk_sub (show L ≤ Hh by omega), show (2 : Int32) = nI 2 from rfl, e1]
    -- the reference
    have hr : ∀ (B : Nat), (L + 1 < Hh → L < B ∧ B < Hh ∧ ∀ b, L < b → b < Hh → LX U B b) → lpo (b_X7_bestSplit_L39 h (nI (u j)) (nI T)) fuelN (-1005, 0, nI (L + 1)) = some (if L + 1 < Hh then nI B else -1005) := fun B hB => by
      refine lpo_eq (fun i z => (i = 0 ∧ z = (-1005, 0, nI (L + 1))) ∨ ∃ b, 0 < i ∧ L < b ∧ b < L + 1 + i ∧ b < Hh ∧ z = (nI b, nI (U b), nI (L + 1 + i)) ∧ ∀ b', L < b' → b' < L + 1 + i → LX U b b') (Hh - (L + 1)) (by omega) (Or.inl ⟨rfl, rfl⟩) ?_ ?_
      · rintro i z hi hz
        right
        obtain ⟨r62, k1, k2⟩ := hUr (L + 1 + i) (by omega)
        have hcond : ¬ h.1 1 ((1325 : Int32) + nI (u j)).toNatClampNeg ≤ nI (L + 1 + i) := by rw [eh, eH, nI_leI (by omega) (by omega)]; omega
        rcases hz with ⟨rfl, rfl⟩ | ⟨b, hi0, hb1, hb2, hb3, rfl, hb4⟩
        · refine ⟨(nI (L + 1), nI (U (L + 1)), nI (L + 1 + 1)), Or.inr ⟨L + 1, by omega, by omega, by omega, by omega, rfl, fun b' h1 h2 => ?_⟩, fun k => ?_⟩
          · have : b' = L + 1 := by omega
            rw [this]
            exact Or.inr ⟨rfl, Nat.le_refl _⟩
          · simp only [b_X7_bestSplit_L39, m_X7_bestSplit_L39]
            rw [if_pos (v1325 (by omega)), if_neg hcond, bnd_e k1, bnd_e k2, if_pos trivial, nI_1]
        · have hbn : ¬ nI b = -1005 := nI_ne_m (by omega) (by decide)
          by_cases w : U b ≤ U (L + 1 + i)
          · refine ⟨(nI b, nI (U b), nI (L + 1 + (i + 1))), Or.inr ⟨b, by omega, by omega, by omega, by omega, rfl, fun b' h1 h2 => ?_⟩, fun k => ?_⟩
            · rcases (show b' < L + 1 + i ∨ b' = L + 1 + i by omega) with w2 | rfl
              · exact hb4 b' h1 w2
              · unfold LX
                omega
            · simp only [b_X7_bestSplit_L39, m_X7_bestSplit_L39]
              rw [if_pos (v1325 (by omega)), if_neg hcond, bnd_e k1, bnd_e k2, if_neg hbn, if_pos (nI_le w (by have := hUb (L + 1 + i); omega)), nI_1]
              rfl
          · refine ⟨(nI (L + 1 + i), nI (U (L + 1 + i)), nI (L + 1 + (i + 1))), Or.inr ⟨L + 1 + i, by omega, by omega, by omega, by omega, rfl, fun b' h1 h2 => ?_⟩, fun k => ?_⟩
            · rcases (show b' < L + 1 + i ∨ b' = L + 1 + i by omega) with w2 | rfl
              · have := hb4 b' h1 w2
                unfold LX at this ⊢
                omega
              · exact Or.inr ⟨rfl, Nat.le_refl _⟩
            · simp only [b_X7_bestSplit_L39, m_X7_bestSplit_L39]
              rw [if_pos (v1325 (by omega)), if_neg hcond, bnd_e k1, bnd_e k2, if_neg hbn, if_neg (fun w3 => w ((nI_leI (by have := hUb b; omega) (by have := hUb (L + 1 + i); omega)).mp w3)), nI_1]
              rfl
      · rintro z hz k
        have hcond : h.1 1 ((1325 : Int32) + nI (u j)).toNatClampNeg ≤ nI (L + 1 + (Hh - (L + 1))) := by rw [eh, eH, nI_leI (by omega) (by omega)]; omega
        rcases hz with ⟨h0, rfl⟩ | ⟨b, hi0, hb1, hb2, hb3, rfl, hb4⟩
        · have hHL : Hh = L + 1 := by omega
          rw [h0] at hcond
          simp only [b_X7_bestSplit_L39, m_X7_bestSplit_L39]
          rw [if_pos (v1325 (by omega)), if_pos hcond, if_neg (by omega)]
        · obtain ⟨k1, k2, k3⟩ := hB (by omega)
          have : b = B := lx_u (hb4 B k1 (by omega)) (k3 b hb1 (by omega))
          simp only [b_X7_bestSplit_L39, m_X7_bestSplit_L39]
          rw [if_pos (v1325 (by omega)), if_pos hcond, if_pos (by omega), this]
    by_cases e2 : 2 ≤ Hh - L
    · rw [if_pos (nI_le e2 (by omega)), bnd_e (hUc (L + 1) (by omega))]
      have hcl : ∃ r, lpo (b_X6_bestSplit_L92 g (nI (u j)) (nI L) (nI Hh) (nI T)) fuelN (nI (L + 1), nI (U (L + 1)), 0) = some r ∧ ∃ B, r = nI B ∧ L < B ∧ B < Hh ∧ ∀ b, CaB (h.1 1) (nI (u j)) L Hh n b → LX U B b := by
        refine lpo_P (fun i z => ∃ B, z = (nI B, nI (U B), nI i) ∧ L < B ∧ B < Hh ∧ ∀ b, CaB (h.1 1) (nI (u j)) L Hh i b → LX U B b) n _ 0 (by omega) (by omega) ⟨L + 1, rfl, by omega, by omega, fun b hb => ?_⟩ ?_ ?_
        · rcases hb with rfl | ⟨j', hj', -⟩
          · exact Or.inr ⟨rfl, Nat.le_refl _⟩
          · omega
        · rintro i z hi ⟨B, rfl, hB1, hB2, hB3⟩
          have hkey := (hT.1.2.2.1 i hi).1
          obtain ⟨k, ek, ek'⟩ := i_nat hkey.1
          have hcond : ¬ nI n ≤ nI i := by rw [nI_leI (by omega) (by omega)]; omega
          have ek1 : nI k + (1 : Int32) = nI (k + 1) := nI_1 k
          right
          -- the candidates grow
          have grow : ∀ B', (∀ b, CaB (h.1 1) (nI (u j)) L Hh i b → LX U B' b) → (h.1 1 (805 + i) = nI (u j) → L < k + 1 → k + 1 < Hh → LX U B' (k + 1)) → ∀ b, CaB (h.1 1) (nI (u j)) L Hh (i + 1) b → LX U B' b := fun B' k1 k2 b hb => by
            rcases hb with rfl | ⟨j', hj', w1, w2, w3, w4⟩
            · exact k1 _ (Or.inl rfl)
            · rcases (show j' < i ∨ j' = i by omega) with w5 | rfl
              · exact k1 _ (Or.inr ⟨j', w5, w1, w2, w3, w4⟩)
              · rw [ek, ek1] at w2
                have : k + 1 = b := (nI_eq (by omega) (by omega)).mp w2
                subst this
                exact k2 w1 w3 w4
          have skip : ¬ (h.1 1 (805 + i) = nI (u j) ∧ L < k + 1 ∧ k + 1 < Hh) → ∃ B', ((nI B, nI (U B), nI (i + 1)) : Int32 × Int32 × Int32) = (nI B', nI (U B'), nI (i + 1)) ∧ L < B' ∧ B' < Hh ∧ ∀ b, CaB (h.1 1) (nI (u j)) L Hh (i + 1) b → LX U B' b := fun hn => ⟨B, rfl, hB1, hB2, grow B hB3 (fun w1 w2 w3 => absurd ⟨w1, w2, w3⟩ hn)⟩
          by_cases f1 : h.1 1 (805 + i) = nI (u j)
          · by_cases f2 : L < k + 1
            · by_cases f3 : k + 1 < Hh
              · have hu1 := hUb (k + 1)
                have hu2 := hUb B
                have pre : ∀ kk, b_X6_bestSplit_L92 g (nI (u j)) (nI L) (nI Hh) (nI T) kk (nI B, nI (U B), nI i) = if nI (U (k + 1)) < nI (U B) then kk (nI (k + 1), nI (U (k + 1)), nI (i + 1)) else if nI (U (k + 1)) = nI (U B) then if nI B ≤ nI (k + 1) then kk (nI B, nI (U B), nI (i + 1)) else kk (nI (k + 1), nI (U (k + 1)), nI (i + 1)) else kk (nI B, nI (U B), nI (i + 1)) := fun kk => by
                  simp only [b_X6_bestSplit_L92, m_X6_bestSplit_L92]
                  rw [hT.came, if_neg hcond, bnd_e (c_key hT hi), bnd_e (c_place hT hi), if_pos f1, ek, ek1, if_neg (by rw [nI_leI (by omega) (by omega)]; omega), if_neg (by rw [nI_leI (by omega) (by omega)]; omega), bnd_e (hUc (k + 1) (by omega)), nI_1]
                by_cases w : LX U B (k + 1)
                · refine ⟨_, ⟨B, rfl, hB1, hB2, grow B hB3 (fun _ _ _ => w)⟩, fun kk => ?_⟩
                  rw [pre kk]
                  unfold LX at w
                  rw [if_neg (by rw [nI_ltI (by omega) (by omega)]; omega)]
                  by_cases w2 : U (k + 1) = U B
                  · rw [if_pos (by rw [w2]), if_pos (nI_le (by omega) (by omega))]
                  · rw [if_neg (by rw [nI_eq (by omega) (by omega)]; exact w2)]
                · refine ⟨_, ⟨k + 1, rfl, f2, f3, grow (k + 1) (fun b hb => lx_t ?_ (hB3 b hb)) (fun _ _ _ => Or.inr ⟨rfl, Nat.le_refl _⟩)⟩, fun kk => ?_⟩
                  · unfold LX at w ⊢
                    omega
                  · rw [pre kk]
                    unfold LX at w
                    by_cases w2 : U (k + 1) < U B
                    · rw [if_pos (nI_lt w2 (by omega))]
                    · rw [if_neg (by rw [nI_ltI (by omega) (by omega)]; exact w2), if_pos (by rw [show U (k + 1) = U B by omega]), if_neg (by rw [nI_leI (by omega) (by omega)]; omega)]
              · refine ⟨_, skip (fun w => f3 w.2.2), fun kk => ?_⟩
                simp only [b_X6_bestSplit_L92, m_X6_bestSplit_L92]
                rw [hT.came, if_neg hcond, bnd_e (c_key hT hi), bnd_e (c_place hT hi), if_pos f1, ek, ek1, if_neg (by rw [nI_leI (by omega) (by omega)]; omega), if_pos (nI_le (by omega) (by omega)), nI_1]
            · refine ⟨_, skip (fun w => f2 w.2.1), fun kk => ?_⟩
              simp only [b_X6_bestSplit_L92, m_X6_bestSplit_L92]
              rw [hT.came, if_neg hcond, bnd_e (c_key hT hi), bnd_e (c_place hT hi), if_pos f1, ek, ek1, if_pos (nI_le (by omega) (by omega)), nI_1]
          · refine ⟨_, skip (fun w => f1 w.1), fun kk => ?_⟩
            simp only [b_X6_bestSplit_L92, m_X6_bestSplit_L92]
            rw [hT.came, if_neg hcond, bnd_e (c_key hT hi), bnd_e (c_place hT hi), if_neg f1, nI_1]
        · rintro z ⟨B, rfl, hB1, hB2, hB3⟩ k
          refine ⟨nI B, ?_, B, rfl, hB1, hB2, hB3⟩
          simp only [b_X6_bestSplit_L92, m_X6_bestSplit_L92]
          rw [hT.came, if_pos (nI_le (Nat.le_refl n) (by omega))]
      obtain ⟨r, k1, B, rfl, hB1, hB2, hB3⟩ := hcl
      refine ⟨nI B, k1, ?_⟩
      rw [hr B (fun _ => ⟨hB1, hB2, fun b w1 w2 => ?_⟩), if_pos (by omega)]
      obtain ⟨b', w3, w4, w5⟩ := ca_ex (N := h.1 1) (p := nI (u j)) (n := n) (L := L) (H := Hh) hLH.2 b w1 w2
      have w6 := hB3 b' w3
      have w7 := hext _ _ w5
      unfold LX at w6 ⊢
      omega
    · rw [if_neg (by rw [nI_leI (by omega) (by omega)]; exact e2)]
      refine ⟨-1005, rfl, ?_⟩
      rw [hr 0 (fun w => absurd w (by omega)), if_neg (by omega)]
  · rw [bnd_e (c_pos_no hT ho), if_pos rfl, bnd_e (r_isSlice_no hT.1 ho), if_pos rfl]
    exact ⟨_, rfl, rfl⟩
end
