/-! the slices by numbers and by bounds: how many, how many keys, the heaviest -/
theorem i_ss (a b d : Int32) : a - b - d = a - (b + d) := by grind
theorem i_s0 (a : Int32) : a - 0 = a := by grind
theorem sm_ins {p q : Nat → Bool} {v : Nat → Int32} {i : Nat} : ∀ {n : Nat}, i < n → (∀ j, j < n → (q j = true ↔ p j = true ∨ j = i)) → p i = false → smI q v n = smI p v n + v i
  | 0, hi, _, _ => absurd hi (Nat.not_lt_zero i)
  | n + 1, hi, h, hp => by
    rcases Nat.lt_or_ge i n with a | a
    · have ih := sm_ins (v := v) (n := n) a (fun j hj => h j (by omega)) hp
      cases hpn : p n with
      | false =>
        have hqn : q n = false := by
          rw [Bool.eq_false_iff]
          intro hq
          rcases (h n (Nat.lt_succ_self n)).mp hq with z | z
          · rw [hpn] at z; cases z
          · omega
        rw [sm_n hpn, sm_n hqn, ih]
      | true =>
        rw [sm_s hpn, sm_s ((h n (Nat.lt_succ_self n)).mpr (Or.inl hpn)), ih, Int32.add_assoc, Int32.add_assoc, Int32.add_comm (v i) (v n)]
    · have e : i = n := by omega
      subst e
      rw [sm_n hp, sm_s ((h i (Nat.lt_succ_self i)).mpr (Or.inr rfl))]
      have key : ∀ k, k ≤ i → smI q v k = smI p v k := by
        intro k
        induction k with
        | zero => intro _; rfl
        | succ k ih =>
          intro hk
          have hj' := h k (by omega)
          cases hpk : p k with
          | true => rw [sm_s hpk, sm_s (hj'.mpr (Or.inl hpk)), ih (by omega)]
          | false =>
            have hqk : q k = false := by
              rw [Bool.eq_false_iff]
              intro hq
              rcases hj'.mp hq with z | z
              · rw [hpk] at z; cases z
              · omega
            rw [sm_n hpk, sm_n hqk, ih (by omega)]
      rw [key i (Nat.le_refl i)]
theorem sm_0 {p : Nat → Bool} {v : Nat → Int32} : ∀ {n : Nat}, (∀ i, i < n → p i = false) → smI p v n = 0
  | 0, _ => rfl
  | n + 1, h => by rw [sm_n (h n (Nat.lt_succ_self n)), sm_0 (fun i hi => h i (by omega))]
def smU (f : Nat → Int32) (u : Nat → Nat) : Nat → Int32
  | 0 => 0
  | m + 1 => smU f u m + f (u m)
theorem bij {u : Nat → Nat} {c : Nat} {f : Nat → Int32} : ∀ (m : Nat) (al : Nat → Bool), (∀ j, j < m → u j < c ∧ al (u j) = true) → (∀ q, q < c → al q = true → ∃ j, j < m ∧ u j = q) → (∀ i j, i < m → j < m → u i = u j → i = j) → cn al c = m ∧ smI al f c = smU f u m
  | 0, al, _, h2, _ => by
    have hz : ∀ q, q < c → al q = false := fun q hq => by
      rw [Bool.eq_false_iff]
      intro ha
      obtain ⟨j, hj, -⟩ := h2 q hq ha
      omega
    exact ⟨cn_0 hz, sm_0 hz⟩
  | m + 1, al, h1, h2, h3 => by
    obtain ⟨e1, e2⟩ := bij (f := f) m (fun q => al q && !decide (q = u m)) (fun j hj => ⟨(h1 j (by omega)).1, by
      have : ¬ u j = u m := fun e => by
        have := h3 j m (by omega) (Nat.lt_succ_self m) e
        omega
      simp only [(h1 j (by omega)).2, this, decide_false, Bool.not_false, Bool.and_self]⟩) (fun q hq ha => by
      simp only [Bool.and_eq_true, Bool.not_eq_true', decide_eq_false_iff_not] at ha
      obtain ⟨j, hj, hju⟩ := h2 q hq ha.1
      refine ⟨j, ?_, hju⟩
      rcases Nat.lt_or_ge j m with a | a
      · exact a
      · have : j = m := by omega
        subst this
        exact absurd hju.symm ha.2) (fun i j hi hj e => h3 i j (by omega) (by omega) e)
    have hm := h1 m (Nat.lt_succ_self m)
    have hiff : ∀ j, j < c → (al j = true ↔ (al j && !decide (j = u m)) = true ∨ j = u m) := fun j _ => by
      simp only [Bool.and_eq_true, Bool.not_eq_true', decide_eq_false_iff_not]
      constructor
      · intro ha
        by_cases e : j = u m
        · exact Or.inr e
        · exact Or.inl ⟨ha, e⟩
      · rintro (ha | rfl)
        · exact ha.1
        · exact hm.2
    have hf : (al (u m) && !decide (u m = u m)) = false := by simp only [decide_true, Bool.not_true, Bool.and_false]
    exact ⟨by rw [cn_ins hm.1 hiff hf, e1], by rw [sm_ins hm.1 hiff hf, e2]; rfl⟩
def alB (N : Nat → Int32) (q : Nat) : Bool := decide (N (1205 + q) = 1)
theorem al_iff {N : Nat → Int32} {q : Nat} : alB N q = true ↔ N (1205 + q) = 1 := by simp only [alB, decide_eq_true_eq]
section
variable {g : MG} {t : Nat} {N : Nat → Int32} {n c m : Nat} {u : Nat → Nat}
theorem so_inj (hk : OkN N n c) (hs : SO N c m u) : ∀ i j, i < m → j < m → u i = u j → i = j := fun i j hi hj e => by
  have h1 := hs.2.1
  have ho := hk.2.2.2.1
  rcases Nat.lt_trichotomy i j with a | a | a
  · have h2 := hs.2.2.2 i j a hj
    have h3 := (ho (u j) (h1 j hj).1).2 (h1 j hj).2
    rw [e] at h2
    omega
  · exact a
  · have h2 := hs.2.2.2 j i a hi
    have h3 := (ho (u j) (h1 j hj).1).2 (h1 j hj).2
    rw [e] at h2
    omega
theorem al_bij (hk : OkN N n c) (hs : SO N c m u) (f : Nat → Int32) : cn (alB N) c = m ∧ smI (alB N) f c = smU f u m :=
  bij m (alB N) (fun j hj => ⟨(hs.2.1 j hj).1, al_iff.mpr (hs.2.1 j hj).2⟩) (fun q hq ha => hs.2.2.1 q hq (al_iff.mp ha)) (so_inj hk hs)
theorem c_isFull (h : TB g t N n c m u) : m_X4_isFull g t = some (if m = 12 ∨ c = 60 then 1 else 0) := by
  have hm := h.m12
  have hc := h.c6
  have hc1 : g.1 (22 + 15 * t) 4 = nI c := h.2.2.1.2.2.1.trans h.1.1.2.2.1
  unfold m_X4_isFull
  rw [h.am, hc1]
  by_cases h1 : m = 12
  · rw [if_pos (by rw [h1]; decide), if_pos (Or.inl h1)]
  · rw [if_neg (by rw [show (12 : Int32) = nI 12 from rfl, nI_leI (by omega) (by omega)]; omega)]
    by_cases h2 : c = 60
    · rw [if_neg (by rw [show (60 : Int32) = nI 60 from rfl, nI_ltI (by omega) (by omega)]; omega), if_pos (Or.inr h2)]
    · rw [if_pos (by rw [show (60 : Int32) = nI 60 from rfl, nI_ltI (by omega) (by omega)]; omega), if_neg (by omega)]
/-- the bounds of the a-th gap -/
def gLo (N : Nat → Int32) (u : Nat → Nat) (a : Nat) : Int32 := if a = 0 then 0 else N (1325 + u (a - 1))
def gHi (N : Nat → Int32) (u : Nat → Nat) (m a : Nat) : Int32 := if a = m then 1000 else N (1265 + u a)
theorem c_gapLow (h : TB g t N n c m u) {a : Nat} (ha : a ≤ m) : m_X4_gapLow g t (nI a) = some (gLo N u a) := by
  have hm := h.m12
  unfold m_X4_gapLow gLo
  by_cases e : a = 0
  · subst e
    rw [if_pos (show nI 0 = 0 from rfl), if_pos rfl]
  · rw [if_neg (nI_ne0 (by omega) (by omega)), if_neg e]
    obtain ⟨b, rfl⟩ : ∃ b, a = b + 1 := ⟨a - 1, by omega⟩
    rw [nI_pred, bnd_e (c_high h (by omega)), Nat.add_sub_cancel]
theorem c_gapHigh (h : TB g t N n c m u) {a : Nat} (ha : a ≤ m) : m_X4_gapHigh g t (nI a) = some (gHi N u m a) := by
  have hm := h.m12
  unfold m_X4_gapHigh gHi
  rw [h.am]
  by_cases e : a = m
  · rw [if_pos (by rw [e]), if_pos e]
  · rw [if_neg (by rw [nI_eq (by omega) (by omega)]; exact e), if_neg e, bnd_e (c_low h (by omega))]
theorem c_freeKeys (h : TB g t N n c m u) : m_X4_freeKeys g t = some (1000 - smU (fun q => N (1325 + q) - N (1265 + q)) u m) := by
  have hm := h.m12
  unfold m_X4_freeKeys
  refine lpo_eq (fun a x => x = ((if a = m + 1 then 1000 else gLo N u a) - smU (fun q => N (1325 + q) - N (1265 + q)) u (if a = m + 1 then m else a), nI a)) (m + 1) (by omega) ?_ ?_ ?_
  · rw [if_neg (by omega), if_neg (by omega)]
    show ((0 : Int32), (0 : Int32)) = (0 - 0, 0)
    decide
  · rintro a x ha rfl
    right
    refine ⟨_, rfl, fun k => ?_⟩
    simp only [b_X4_freeKeys_L4, m_X4_freeKeys_L4]
    rw [h.am, if_neg (by rw [nI_ltI (by omega) (by omega)]; omega), bnd_e (c_gapHigh h (by omega)), bnd_e (c_gapLow h (by omega)), nI_1, if_neg (show ¬ a = m + 1 by omega), if_neg (show ¬ a = m + 1 by omega)]
    congr 2
    by_cases e : a = m
    · subst e
      rw [if_pos rfl, if_pos rfl]
      simp only [gHi, if_pos]
      generalize gLo N u a = A
      generalize smU (fun q => N (1325 + q) - N (1265 + q)) u a = B
      grind
    · rw [if_neg (by omega), if_neg (by omega)]
      simp only [gHi, if_neg e, smU]
      have e2 : gLo N u (a + 1) = N (1325 + u a) := by simp only [gLo, Nat.add_sub_cancel]; rw [if_neg (by omega)]
      rw [e2]
      generalize gLo N u a = A
      generalize smU (fun q => N (1325 + q) - N (1265 + q)) u a = B
      grind
  · rintro x rfl k
    simp only [b_X4_freeKeys_L4, m_X4_freeKeys_L4]
    rw [h.am, if_pos (nI_lt (by omega) (by omega)), if_pos trivial, if_pos trivial]
end
section
variable {g h : MG} {n c m : Nat} {u : Nat → Nat}
theorem r_slices (hk : OkN (h.1 1) n c) : m_X7_slices h = some (nI (cn (alB (h.1 1)) c)) := by
  have hc := hk.1.2.2.2
  unfold m_X7_slices
  refine lpo_eq (fun i x => x = (nI (cn (alB (h.1 1)) i), nI i)) c (by omega) rfl ?_ ?_
  · rintro i x hi rfl
    have hcond : ¬ h.1 1 1 ≤ nI i := by rw [hk.1.2.2.1, nI_leI (by omega) (by omega)]; omega
    right
    rcases (hk.2.2.2.1 i hi).1 with e | e
    · refine ⟨_, rfl, fun k => ?_⟩
      simp only [b_X7_slices_L4, m_X7_slices_L4]
      rw [if_pos vk1, ak1, if_neg hcond, if_pos (v1205 (by omega)), a1205 (by omega), e, cn_n (by rw [Bool.eq_false_iff]; intro q; rw [al_iff.mp q] at e; exact absurd e (by decide)), nI_z, nI_1]
    · refine ⟨_, rfl, fun k => ?_⟩
      simp only [b_X7_slices_L4, m_X7_slices_L4]
      rw [if_pos vk1, ak1, if_neg hcond, if_pos (v1205 (by omega)), a1205 (by omega), e, cn_s (al_iff.mpr e), nI_1, nI_1]
  · rintro x rfl k
    simp only [b_X7_slices_L4, m_X7_slices_L4]
    rw [if_pos vk1, ak1, hk.1.2.2.1, if_pos (nI_le (Nat.le_refl c) (by omega))]
theorem r_isFull (hk : OkN (h.1 1) n c) (hs : SO (h.1 1) c m u) : m_X7_isFullOfSlices h = some (if m = 12 ∨ c = 60 then 1 else 0) := by
  have hm := hs.1
  have hc := hk.1.2.2.2
  unfold m_X7_isFullOfSlices
  rw [bnd_e (r_slices hk), (al_bij hk hs (fun _ => 0)).1, show (12 : Int32) = nI 12 from rfl]
  by_cases h1 : m = 12
  · rw [if_pos (by rw [h1]), if_pos (Or.inl h1)]
  · rw [if_neg (by rw [nI_eq (by omega) (by omega)]; exact h1), if_pos vk1, ak1, hk.1.2.2.1, show (60 : Int32) = nI 60 from rfl]
    by_cases h2 : c = 60
    · rw [if_pos (by rw [h2]), if_pos (Or.inr h2)]
    · rw [if_neg (by rw [nI_eq (by omega) (by omega)]; exact h2), if_neg (by omega)]
theorem r_freeKeys (hk : OkN (h.1 1) n c) (hs : SO (h.1 1) c m u) : m_X7_freeKeys h = some (1000 - smU (fun q => h.1 1 (1325 + q) - h.1 1 (1265 + q)) u m) := by
  have hc := hk.1.2.2.2
  rw [← (al_bij hk hs (fun q => h.1 1 (1325 + q) - h.1 1 (1265 + q))).2]
  unfold m_X7_freeKeys
  refine lpo_eq (fun i x => x = (1000 - smI (alB (h.1 1)) (fun q => h.1 1 (1325 + q) - h.1 1 (1265 + q)) i, nI i)) c (by omega) (by show ((1000 : Int32), (0 : Int32)) = (1000 - 0, 0); decide) ?_ ?_
  · rintro i x hi rfl
    have hcond : ¬ h.1 1 1 ≤ nI i := by rw [hk.1.2.2.1, nI_leI (by omega) (by omega)]; omega
    right
    by_cases e : h.1 1 (1205 + i) = 1
    · refine ⟨_, rfl, fun k => ?_⟩
      simp only [b_X7_freeKeys_L6, m_X7_freeKeys_L6]
      rw [if_pos vk1, ak1, if_neg hcond, if_pos (v1205 (by omega)), a1205 (by omega), if_pos e, if_pos (v1325 (by omega)), if_pos (v1265 (by omega)), a1325 (by omega), a1265 (by omega), sm_s (al_iff.mpr e), nI_1, i_ss]
    · refine ⟨_, rfl, fun k => ?_⟩
      simp only [b_X7_freeKeys_L6, m_X7_freeKeys_L6]
      rw [if_pos vk1, ak1, if_neg hcond, if_pos (v1205 (by omega)), a1205 (by omega), if_neg e, sm_n (by rw [Bool.eq_false_iff]; exact fun q => e (al_iff.mp q)), nI_1, i_s0]
  · rintro x rfl k
    simp only [b_X7_freeKeys_L6, m_X7_freeKeys_L6]
    rw [if_pos vk1, ak1, hk.1.2.2.1, if_pos (nI_le (Nat.le_refl c) (by omega))]
end
