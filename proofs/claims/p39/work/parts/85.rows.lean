/-! rows that a question has, on both sides -/
theorem YN.u {r r' : Int32} {P : Prop} (h : YN r P) (h' : YN r' P) : r = r' := by
  rcases h with ⟨rfl, a⟩ | ⟨rfl, a⟩ <;> rcases h' with ⟨rfl, b⟩ | ⟨rfl, b⟩
  · rfl
  · exact absurd a b
  · exact absurd b a
  · rfl
noncomputable def loB (tk : List TK) (N : Nat → Int32) (c : Nat) (pr : Int32) (i : Nat) : Bool := @decide (∃ q, q < 61 ∧ N (805 + i) = nI q ∧ LkP tk N c pr q) (Classical.propDecidable _)
theorem lo_t {tk : List TK} {N : Nat → Int32} {c : Nat} {pr : Int32} {i : Nat} : loB tk N c pr i = true ↔ ∃ q, q < 61 ∧ N (805 + i) = nI q ∧ LkP tk N c pr q := by
  unfold loB
  exact @decide_eq_true_iff _ (Classical.propDecidable _)
noncomputable def lkB (tk : List TK) (N : Nat → Int32) (c : Nat) (pr : Int32) (q : Nat) : Bool := @decide (LkP tk N c pr q) (Classical.propDecidable _)
theorem lk_t {tk : List TK} {N : Nat → Int32} {c : Nat} {pr : Int32} {q : Nat} : lkB tk N c pr q = true ↔ LkP tk N c pr q := by
  unfold lkB
  exact @decide_eq_true_iff _ (Classical.propDecidable _)
def paB (tk : List TK) (N : Nat → Int32) (i : Nat) : Bool := decide (qV (tC (N (5 + i)) (N (5 + i)) 1 (N (405 + i))) tk = 2)
noncomputable def anB (tk : List TK) (N : Nat → Int32) (c : Nat) (pr : Int32) (i : Nat) : Bool := loB tk N c pr i && paB tk N i
def waB (tk : List TK) (N : Nat → Int32) (i : Nat) : Bool := itB N i && paB tk N i
theorem lk_61 {tk : List TK} {N : Nat → Int32} {c : Nat} {pr : Int32} (hc : c ≤ 60) : ¬ LkP tk N c pr 61 := by
  rintro (⟨q, -⟩ | ⟨q, -⟩)
  · omega
  · omega
def b01 (b : Bool) : Int32 := if b = true then 1 else 0
theorem b01_e {b : Bool} : b01 b = (if b = true then 1 else 0) := rfl
theorem yn_b {r : Int32} {P : Prop} {b : Bool} (h : YN r P) (hb : b = true ↔ P) : r = b01 b := by
  rcases h with ⟨rfl, a⟩ | ⟨rfl, a⟩
  · rw [hb.mpr a]; rfl
  · rw [Bool.eq_false_iff.mpr (fun q => a (hb.mp q))]; rfl
theorem b01_0 {b : Bool} : b01 b = 0 ↔ b = false := by revert b; decide
theorem b01_1 {b : Bool} : b01 b = 1 ↔ b = true := by revert b; decide
theorem cn_b (p : Nat → Bool) (i : Nat) : nI (cn p i) + b01 (p i) = nI (cn p (i + 1)) := by
  cases h : p i with
  | true => rw [cn_s h]; exact nI_1 _
  | false => rw [cn_n h]; exact nI_z _
theorem sm_b (p : Nat → Bool) (v : Nat → Int32) (i : Nat) : smI p v i + (if b01 (p i) = 0 then 0 else v i) = smI p v (i + 1) := by
  cases h : p i with
  | true => rw [sm_s h, if_neg (by decide)]
  | false => rw [sm_n h, if_pos (by decide), Int32.add_zero]
section
variable {g : MG} {tk o : List TK} {N : Nat → Int32} {n c m : Nat} {u : Nat → Nat} {pr : Int32}
def CX (tk : List TK) (N : Nat → Int32) (n c m : Nat) (u : Nat → Nat) (pr : Int32) (g : MG) : Prop := TB g 0 N n c m u ∧ QC g tk ∧ ∀ q, q < 62 → YN (g.1 5 q) (LkP tk N c pr q)
theorem CX.cf {G : MG} (h : CX tk N n c m u pr g) (e : CF g G) : CX tk N n c m u pr G :=
  ⟨h.1.cong (fun k h1 h2 => e.2 k (by omega) (by omega) (by omega)), h.2.1.cf e, fun q hq => by rw [e.2 5 (by omega) (by omega) (by omega)]; exact h.2.2 q hq⟩
theorem c_isLooked (h : CX tk N n c m u pr g) {i : Nat} (hi : i < n) : m_X6_isLooked g (nI i) = some (b01 (loB tk N c pr i)) := by
  have hc6 := h.1.c6
  unfold m_X6_isLooked
  rw [bnd_e (c_place h.1 hi)]
  have at_ : ∀ q, q < 62 → N (805 + i) = nI q → (bnd (m_X0_at g 5 62 (N (805 + i))) fun (r15 : Int32) => if r15 = (1 : Int32) then some (1 : Int32) else some (0 : Int32)) = some (b01 (loB tk N c pr i)) := fun q hq e => by
    have hy := h.2.2 q hq
    have hb : loB tk N c pr i = true ↔ LkP tk N c pr q := by
      rw [lo_t]
      constructor
      · rintro ⟨q', q1, q2, q3⟩
        have : q = q' := (nI_eq (by omega) (by omega)).mp (e.symm.trans q2)
        rw [this]; exact q3
      · intro q3
        refine ⟨q, ?_, e, q3⟩
        rcases Nat.lt_or_ge q 61 with z | z
        · exact z
        · rw [show q = 61 by omega] at q3
          exact absurd q3 (lk_61 hc6)
    rw [e, bnd_e (e_at hq (by omega)), yn_b hy hb]
    cases loB tk N c pr i <;> rfl
  rcases h.1.1.pl hi with e | e | e | ⟨q, hq, e, -⟩
  · have hb : loB tk N c pr i = false := by
      rw [Bool.eq_false_iff]
      intro z
      obtain ⟨q', q1, q2, -⟩ := lo_t.mp z
      rw [e] at q2
      exact nI_ne_m (show q' < 2 ^ 31 by omega) (x := -1) (by decide) q2.symm
    rw [e, bnd_e (e_at_out (n := 62) (by omega) (Or.inl (by decide))), hb]
    rfl
  · exact at_ 60 (by omega) e
  · exact at_ 61 (by omega) e
  · exact at_ q (by omega) e
theorem c_rowPasses (hT : TB g 0 N n c m u) (hQ : QC g tk) (hV : QV tk o) {i : Nat} (hi : i < n) : ∃ g', m_X6_rowPasses g (nI i) = some (b01 (paB tk N i), g') ∧ CF g g' := by
  unfold m_X6_rowPasses
  obtain ⟨g', b1, b2⟩ := c_tru hQ hV (N (5 + i)) (N (5 + i)) 1 (N (405 + i))
  rw [bnd_e (c_key hT hi), bnd_e (c_val hT hi), bnd2_e b1]
  refine ⟨g', ?_, b2⟩
  unfold paB
  by_cases e : qV (tC (N (5 + i)) (N (5 + i)) 1 (N (405 + i))) tk = 2
  · rw [if_pos ((iv_2 _).mpr e), decide_eq_true e]; rfl
  · rw [if_neg (fun q => e ((iv_2 _).mp q)), decide_eq_false e]; rfl
theorem c_isAnswer (h : CX tk N n c m u pr g) (hV : QV tk o) {i : Nat} (hi : i < n) : ∃ g', m_X6_isAnswer g (nI i) = some (b01 (anB tk N c pr i), g') ∧ CF g g' := by
  unfold m_X6_isAnswer
  rw [bnd_e (c_isLooked h hi)]
  unfold anB
  cases hl : loB tk N c pr i with
  | false =>
    rw [if_pos (by decide)]
    exact ⟨g, rfl, CF.rf g⟩
  | true =>
    obtain ⟨g', b1, b2⟩ := c_rowPasses h.1 h.2.1 hV hi
    rw [if_neg (by decide), bnd2_e b1]
    refine ⟨g', ?_, b2⟩
    cases paB tk N i <;> rfl
theorem c_answerAmount (h : CX tk N n c m u pr g) (hV : QV tk o) : ∃ g', m_X6_answerAmount g = some (nI (cn (anB tk N c pr) n), g') ∧ CF g g' := by
  have hn := h.1.n4
  have main : ∃ r, m_X6_answerAmount g = some r ∧ r.1 = nI (cn (anB tk N c pr) n) ∧ CF g r.2 := by
    unfold m_X6_answerAmount
    refine lpo_P (fun i X => ∃ G, X = (nI (cn (anB tk N c pr) i), nI i, G) ∧ CF g G) n _ 0 (by omega) (by omega) ⟨g, rfl, CF.rf g⟩ ?_ ?_
    · rintro i X hi ⟨G, rfl, c1⟩
      right
      have hG := h.cf c1
      obtain ⟨g', b1, b2⟩ := c_isAnswer hG hV hi
      refine ⟨(nI (cn (anB tk N c pr) (i + 1)), nI (i + 1), g'), ⟨_, rfl, c1.tr b2⟩, fun k => ?_⟩
      simp only [b_X6_answerAmount_L4, m_X6_answerAmount_L4]
      rw [hG.1.came, if_neg (by rw [nI_leI (by omega) (by omega)]; omega), bnd2_e b1, ← cn_b, nI_1]
      cases anB tk N c pr i
      · rw [if_pos (by decide)]; exact congrArg (fun z => k (z, nI (i + 1), g')) (nI_z _).symm
      · rw [if_neg (by decide)]; rfl
    · rintro X ⟨G, rfl, c1⟩ k
      refine ⟨(nI (cn (anB tk N c pr) n), G), ?_, rfl, c1⟩
      simp only [b_X6_answerAmount_L4, m_X6_answerAmount_L4]
      rw [(h.cf c1).1.came, if_pos (nI_le (Nat.le_refl n) (by omega))]
  obtain ⟨⟨r, g'⟩, m1, m2, m3⟩ := main
  simp only at m2
  subst m2
  exact ⟨g', m1, m3⟩
theorem c_answerSum (h : CX tk N n c m u pr g) (hV : QV tk o) : ∃ g', m_X6_answerSum g = some (smI (anB tk N c pr) (fun i => N (405 + i)) n, g') ∧ CF g g' := by
  have hn := h.1.n4
  have main : ∃ r, m_X6_answerSum g = some r ∧ r.1 = smI (anB tk N c pr) (fun i => N (405 + i)) n ∧ CF g r.2 := by
    unfold m_X6_answerSum
    refine lpo_P (fun i X => ∃ G, X = (smI (anB tk N c pr) (fun i => N (405 + i)) i, nI i, G) ∧ CF g G) n _ 0 (by omega) (by omega) ⟨g, rfl, CF.rf g⟩ ?_ ?_
    · rintro i X hi ⟨G, rfl, c1⟩
      right
      have hG := h.cf c1
      obtain ⟨g', b1, b2⟩ := c_isAnswer hG hV hi
      refine ⟨(smI (anB tk N c pr) (fun i => N (405 + i)) (i + 1), nI (i + 1), g'), ⟨_, rfl, c1.tr b2⟩, fun k => ?_⟩
      simp only [b_X6_answerSum_L4, m_X6_answerSum_L4]
      rw [hG.1.came, if_neg (by rw [nI_leI (by omega) (by omega)]; omega), bnd2_e b1, nI_1]
      cases hb : anB tk N c pr i with
      | false => rw [if_pos (by decide), sm_n hb]
      | true => rw [if_neg (by decide), bnd_e (c_val (hG.cf b2).1 hi), sm_s hb]
    · rintro X ⟨G, rfl, c1⟩ k
      refine ⟨(smI (anB tk N c pr) (fun i => N (405 + i)) n, G), ?_, rfl, c1⟩
      simp only [b_X6_answerSum_L4, m_X6_answerSum_L4]
      rw [(h.cf c1).1.came, if_pos (nI_le (Nat.le_refl n) (by omega))]
  obtain ⟨⟨r, g'⟩, m1, m2, m3⟩ := main
  simp only at m2
  subst m2
  exact ⟨g', m1, m3⟩
theorem c_wholeAmount (h : CX tk N n c m u pr g) (hV : QV tk o) : ∃ g', m_X6_wholeAmount g = some (nI (cn (waB tk N) n), g') ∧ CF g g' := by
  have hn := h.1.n4
  have main : ∃ r, m_X6_wholeAmount g = some r ∧ r.1 = nI (cn (waB tk N) n) ∧ CF g r.2 := by
    unfold m_X6_wholeAmount
    refine lpo_P (fun i X => ∃ G, X = (nI (cn (waB tk N) i), nI i, G) ∧ CF g G) n _ 0 (by omega) (by omega) ⟨g, rfl, CF.rf g⟩ ?_ ?_
    · rintro i X hi ⟨G, rfl, c1⟩
      right
      have hG := h.cf c1
      have hcond : ¬ nI n ≤ nI i := by rw [nI_leI (by omega) (by omega)]; omega
      obtain ⟨g', b1, b2⟩ := c_rowPasses hG.1 hG.2.1 hV hi
      cases hit : itB N i with
      | false =>
        refine ⟨(nI (cn (waB tk N) (i + 1)), nI (i + 1), G), ⟨_, rfl, c1⟩, fun k => ?_⟩
        simp only [b_X6_wholeAmount_L4, m_X6_wholeAmount_L4]
        rw [hG.1.came, if_neg hcond, bnd_e (c_inT hG.1 hi), hit, if_neg Bool.false_ne_true, if_pos rfl, nI_1, cn_n (show waB tk N i = false by unfold waB; rw [hit, Bool.false_and])]
      | true =>
        have e : waB tk N i = paB tk N i := by unfold waB; rw [hit, Bool.true_and]
        refine ⟨(nI (cn (waB tk N) (i + 1)), nI (i + 1), g'), ⟨_, rfl, c1.tr b2⟩, fun k => ?_⟩
        simp only [b_X6_wholeAmount_L4, m_X6_wholeAmount_L4]
        rw [hG.1.came, if_neg hcond, bnd_e (c_inT hG.1 hi), hit, if_pos rfl, if_neg (by decide), bnd2_e b1, nI_1]
        cases hp : paB tk N i with
        | false => rw [if_pos (by decide), cn_n (e.trans hp)]
        | true => rw [if_neg (by decide), cn_s (e.trans hp), nI_1]
    · rintro X ⟨G, rfl, c1⟩ k
      refine ⟨(nI (cn (waB tk N) n), G), ?_, rfl, c1⟩
      simp only [b_X6_wholeAmount_L4, m_X6_wholeAmount_L4]
      rw [(h.cf c1).1.came, if_pos (nI_le (Nat.le_refl n) (by omega))]
  obtain ⟨⟨r, g'⟩, m1, m2, m3⟩ := main
  simp only at m2
  subst m2
  exact ⟨g', m1, m3⟩
theorem c_lookedPlaces (h : CX tk N n c m u pr g) : m_X6_lookedPlaces g = some (nI (cn (lkB tk N c pr) 61)) := by
  have hc6 := h.1.c6
  rw [← cn_n (p := lkB tk N c pr) (n := 61) (by rw [Bool.eq_false_iff]; exact fun q => lk_61 hc6 (lk_t.mp q))]
  unfold m_X6_lookedPlaces
  refine lpo_eq (fun i X => X = (nI (cn (lkB tk N c pr) i), nI i)) 62 (by omega) rfl ?_ ?_
  · rintro i X hi rfl
    right
    refine ⟨(nI (cn (lkB tk N c pr) (i + 1)), nI (i + 1)), rfl, fun k => ?_⟩
    simp only [b_X6_lookedPlaces_L4, m_X6_lookedPlaces_L4]
    rw [if_neg (by rw [show (62 : Int32) = nI 62 from rfl, nI_leI (by omega) (by omega)]; omega), bnd_e (e_at hi (by omega)), yn_b (h.2.2 i hi) lk_t, cn_b, nI_1]
  · rintro X rfl k
    simp only [b_X6_lookedPlaces_L4, m_X6_lookedPlaces_L4]
    rw [if_pos (show (62 : Int32) ≤ nI 62 by decide)]
theorem c_lookedRows (h : CX tk N n c m u pr g) : m_X6_lookedRows g = some (nI (cn (loB tk N c pr) n)) := by
  have hn := h.1.n4
  unfold m_X6_lookedRows
  refine lpo_eq (fun i X => X = (nI (cn (loB tk N c pr) i), nI i)) n (by omega) rfl ?_ ?_
  · rintro i X hi rfl
    right
    refine ⟨(nI (cn (loB tk N c pr) (i + 1)), nI (i + 1)), rfl, fun k => ?_⟩
    simp only [b_X6_lookedRows_L4, m_X6_lookedRows_L4]
    rw [h.1.came, if_neg (by rw [nI_leI (by omega) (by omega)]; omega), bnd_e (c_isLooked h hi), nI_1]
    cases hl : loB tk N c pr i with
    | false => rw [if_pos (by decide), cn_n hl]
    | true => rw [if_neg (by decide), cn_s hl, nI_1]
  · rintro X rfl k
    simp only [b_X6_lookedRows_L4, m_X6_lookedRows_L4]
    rw [h.1.came, if_pos (nI_le (Nat.le_refl n) (by omega))]
theorem c_answer (h : CX tk N n c m u pr g) (hV : QV tk o) (x : Int32) : ∃ r g', lpo (b_X6_answer_L37 x) fuelN ((0 : Int32), (0 : Int32), g) = some (r, g') ∧ CF g g' ∧ RkR (anB tk N c pr) n x r := by
  have hn := h.1.n4
  have main : ∃ r, lpo (b_X6_answer_L37 x) fuelN ((0 : Int32), (0 : Int32), g) = some r ∧ CF g r.2 ∧ RkR (anB tk N c pr) n x r.1 := by
    refine lpo_P (fun i X => ∃ G, X = (nI (cn (anB tk N c pr) i), nI i, G) ∧ CF g G ∧ ∀ j, j < i → anB tk N c pr j = true → x ≠ nI (cn (anB tk N c pr) j)) n _ 0 (by omega) (by omega) ⟨g, rfl, CF.rf g, fun j hj => absurd hj (Nat.not_lt_zero j)⟩ ?_ ?_
    · rintro i X hi ⟨G, rfl, c1, c2⟩
      have hG := h.cf c1
      have hcond : ¬ nI n ≤ nI i := by rw [nI_leI (by omega) (by omega)]; omega
      obtain ⟨g', b1, b2⟩ := c_isAnswer hG hV hi
      cases hb : anB tk N c pr i with
      | false =>
        rw [hb] at b1
        right
        refine ⟨(nI (cn (anB tk N c pr) (i + 1)), nI (i + 1), g'), ⟨_, rfl, c1.tr b2, lt_up c2 (fun q => absurd (hb.symm.trans q) Bool.false_ne_true)⟩, fun k => ?_⟩
        simp only [b_X6_answer_L37, m_X6_answer_L37]
        rw [hG.1.came, if_neg hcond, bnd2_e b1, if_pos (by decide), cn_n hb, nI_1]
      | true =>
        rw [hb] at b1
        by_cases e : nI (cn (anB tk N c pr) i) = x
        · left
          intro k
          refine ⟨(nI i, g'), ?_, c1.tr b2, Or.inl ⟨i, hi, hb, e.symm, rfl⟩⟩
          simp only [b_X6_answer_L37, m_X6_answer_L37]
          rw [hG.1.came, if_neg hcond, bnd2_e b1, if_neg (by decide), if_pos e]
        · right
          refine ⟨(nI (cn (anB tk N c pr) (i + 1)), nI (i + 1), g'), ⟨_, rfl, c1.tr b2, lt_up c2 (fun _ q => e q.symm)⟩, fun k => ?_⟩
          simp only [b_X6_answer_L37, m_X6_answer_L37]
          rw [hG.1.came, if_neg hcond, bnd2_e b1, if_neg (by decide), if_neg e, cn_s hb, nI_1, nI_1]
    · rintro X ⟨G, rfl, c1, c2⟩ k
      refine ⟨(-1005, G), ?_, c1, Or.inr ⟨c2, rfl⟩⟩
      simp only [b_X6_answer_L37, m_X6_answer_L37]
      rw [(h.cf c1).1.came, if_pos (nI_le (Nat.le_refl n) (by omega))]
  obtain ⟨⟨r, g'⟩, m1, m2, m3⟩ := main
  exact ⟨r, g', m1, m2, m3⟩
end
section
variable {h : MG} {tk o : List TK} {N : Nat → Int32} {n c : Nat} {pr : Int32}
def RX (tk o : List TK) (N : Nat → Int32) (n c : Nat) (pr : Int32) (h : MG) : Prop := h.1 1 = N ∧ OkN N n c ∧ QR h o ∧ ∀ q, q < 61 → YN (h.1 11 q) (LkP tk N c pr q)
theorem RX.rf {H : MG} (k : RX tk o N n c pr h) (e : RF h H) : RX tk o N n c pr H :=
  ⟨(e.1 1 (by omega) (by omega) (by omega)).trans k.1, k.2.1, k.2.2.1.rf e, fun q hq => by rw [e.1 11 (by omega) (by omega) (by omega)]; exact k.2.2.2 q hq⟩
theorem RX.ok (k : RX tk o N n c pr h) : OkN (h.1 1) n c := by rw [k.1]; exact k.2.1
theorem r_isPassed (hk : OkN (h.1 1) n c) (hQ : QR h o) (hV : QV tk o) {i : Nat} (hi : i < n) : ∃ h', m_X7_isPassed h (nI i) = some (b01 (paB tk (h.1 1) i), h') ∧ RF h h' := by
  have hn := hk.1.2.1
  unfold m_X7_isPassed
  obtain ⟨h', b1, b2⟩ := r_tru hQ hV (h.1 1 (5 + i)) (h.1 1 (405 + i)) 1
  rw [if_pos (v5 (by omega)), if_pos (v405 (by omega)), a5 (by omega), a405 (by omega), bnd2_e b1]
  refine ⟨h', ?_, b2⟩
  unfold paB
  by_cases e : qV (tC (h.1 1 (5 + i)) (h.1 1 (5 + i)) 1 (h.1 1 (405 + i))) tk = 2
  · rw [if_pos ((iv_2 _).mpr e), decide_eq_true e]; rfl
  · rw [if_neg (fun q => e ((iv_2 _).mp q)), decide_eq_false e]; rfl
/-- the place of a row in the table -/
theorem it_pl (hk : OkN N n c) {i : Nat} (hi : i < n) : (itB N i = true ∧ ∃ q, q < 61 ∧ N (805 + i) = nI q) ∨ (itB N i = false ∧ ∀ q, q < 61 → ¬ N (805 + i) = nI q) := by
  have hc := hk.1.2.2.2
  have far : ∀ x : Int32, N (805 + i) = x → (x = 60 ∨ ∃ q, q < 60 ∧ x = nI q) → itB N i = true := fun x hx h => by
    rcases h with h | ⟨q, hq, h⟩
    · exact it_t (by rw [hx, h]; decide) (by rw [hx, h]; decide)
    · exact it_t (by rw [hx, h]; exact nI_ne_m (by omega) (by decide)) (by rw [hx, h, show (61 : Int32) = nI 61 from rfl, nI_eq (by omega) (by omega)]; omega)
  rcases hk.pl hi with e | e | e | ⟨q, hq, e, -⟩
  · exact Or.inr ⟨it_1 e, fun q hq z => nI_ne_m (show q < 2 ^ 31 by omega) (x := -1) (by decide) (z.symm.trans e)⟩
  · exact Or.inl ⟨far _ e (Or.inl rfl), 60, by omega, e⟩
  · refine Or.inr ⟨it_2 e, fun q hq z => ?_⟩
    have := (nI_eq (a := q) (b := 61) (by omega) (by omega)).mp (z.symm.trans e)
    omega
  · exact Or.inl ⟨far _ e (Or.inr ⟨q, by omega, rfl⟩), q, by omega, e⟩
theorem lo_q {i q : Nat} (hq : q < 61) (e : N (805 + i) = nI q) : loB tk N c pr i = true ↔ LkP tk N c pr q := by
  rw [lo_t]
  constructor
  · rintro ⟨q', q1, q2, q3⟩
    have : q = q' := (nI_eq (by omega) (by omega)).mp (e.symm.trans q2)
    rw [this]; exact q3
  · exact fun q3 => ⟨q, hq, e, q3⟩
theorem lo_no {i : Nat} (hno : ∀ q, q < 61 → ¬ N (805 + i) = nI q) : loB tk N c pr i = false := by
  rw [Bool.eq_false_iff]
  intro z
  obtain ⟨q, q1, q2, -⟩ := lo_t.mp z
  exact hno q q1 q2
/-- the mark of a row's place -/
theorem r_mark (k : RX tk o N n c pr h) {i : Nat} (hi : i < n) (hit : itB N i = true) : vin ((805 : Int32) + nI i) 1385 ∧ vin (h.1 1 ((805 : Int32) + nI i).toNatClampNeg) 61 ∧ h.1 11 (h.1 1 ((805 : Int32) + nI i).toNatClampNeg).toNatClampNeg = b01 (loB tk N c pr i) := by
  have hn := k.2.1.1.2.1
  rcases it_pl k.2.1 hi with ⟨-, q, hq, e⟩ | ⟨h1, -⟩
  · rw [a805 (by omega), k.1, e, nI_clamp (by omega)]
    exact ⟨v805 (by omega), vin_nI hq (by omega), yn_b (k.2.2.2 q hq) (lo_q hq e)⟩
  · rw [h1] at hit
    cases hit
theorem r_isAnswer (k : RX tk o N n c pr h) (hV : QV tk o) {i : Nat} (hi : i < n) : ∃ h', m_X7_isAnswer h (nI i) = some (b01 (anB tk N c pr i), h') ∧ RF h h' := by
  unfold m_X7_isAnswer anB
  have hi' := r_inT k.ok hi
  rw [k.1] at hi'
  rw [bnd_e hi']
  rcases it_pl k.2.1 hi with ⟨h1, -⟩ | ⟨h1, hno⟩
  · obtain ⟨m1, m2, m3⟩ := r_mark k hi h1
    rw [h1, if_pos rfl, if_neg (by decide), if_pos m1, if_pos m2, m3]
    cases hl : loB tk N c pr i with
    | false =>
      rw [if_neg (by decide)]
      exact ⟨h, rfl, RF.rf h⟩
    | true =>
      obtain ⟨h', b1, b2⟩ := r_isPassed k.ok k.2.2.1 hV hi
      rw [k.1] at b1
      rw [if_pos (by decide), bnd2_e b1]
      refine ⟨h', ?_, b2⟩
      cases paB tk N i <;> rfl
  · rw [h1, if_neg Bool.false_ne_true, if_pos rfl, lo_no hno]
    exact ⟨h, rfl, RF.rf h⟩
/-- the places that are looked into are counted -/
theorem r_places (k : RX tk o N n c pr h) (x : Int32) : lpo (b_X7_ask_L47 h x 0 0 0 0) fuelN ((0 : Int32), (0 : Int32)) = lpo (b_X7_ask_L75 x (nI (cn (lkB tk N c pr) 61))) fuelN ((0 : Int32), (0 : Int32), (0 : Int32), (0 : Int32), (0 : Int32), h) := by
  obtain ⟨X, h1, h2⟩ := lpo_fin (body := b_X7_ask_L47 h x 0 0 0 0) (x0 := ((0 : Int32), (0 : Int32))) (fun i X => X = (nI (cn (lkB tk N c pr) i), nI i)) 61 (fun X => lpo (b_X7_ask_L75 x X.1) fuelN ((0 : Int32), (0 : Int32), (0 : Int32), (0 : Int32), (0 : Int32), h)) (by omega) rfl (fun i X hi hX => by
    subst hX
    refine ⟨(nI (cn (lkB tk N c pr) (i + 1)), nI (i + 1)), rfl, fun kk => ?_⟩
    simp only [b_X7_ask_L47, m_X7_ask_L47]
    rw [if_neg (by rw [show (60 : Int32) = nI 60 from rfl, nI_ltI (by omega) (by omega)]; omega), if_pos (vin_nI hi (by omega)), nI_clamp (by omega), yn_b (k.2.2.2 i hi) lk_t, cn_b, nI_1]) (fun X hX kk => by
    subst hX
    simp only [b_X7_ask_L47, m_X7_ask_L47]
    rw [if_pos (show (60 : Int32) < nI 61 by decide)])
  subst h1
  exact h2
def askR (a s c4 l w x : Int32) : Int32 := if x = 0 then a else if x = 1 then s else if x = 2 then c4 else if x = 3 then l else if x = 4 then w else w - a
/-- the rows are counted -/
theorem r_askRows (k : RX tk o N n c pr h) (hV : QV tk o) (x c4 : Int32) : ∃ h', lpo (b_X7_ask_L75 x c4) fuelN ((0 : Int32), (0 : Int32), (0 : Int32), (0 : Int32), (0 : Int32), h) = some (askR (nI (cn (anB tk N c pr) n)) (smI (anB tk N c pr) (fun i => N (405 + i)) n) c4 (nI (cn (loB tk N c pr) n)) (nI (cn (waB tk N) n)) x, h') ∧ RF h h' := by
  have hn := k.2.1.1.2.1
  have main : ∃ r, lpo (b_X7_ask_L75 x c4) fuelN ((0 : Int32), (0 : Int32), (0 : Int32), (0 : Int32), (0 : Int32), h) = some r ∧ r.1 = (askR (nI (cn (anB tk N c pr) n)) (smI (anB tk N c pr) (fun i => N (405 + i)) n) c4 (nI (cn (loB tk N c pr) n)) (nI (cn (waB tk N) n)) x) ∧ RF h r.2 := by
    refine lpo_P (fun i X => ∃ G, X = (nI (cn (anB tk N c pr) i), smI (anB tk N c pr) (fun i => N (405 + i)) i, nI (cn (loB tk N c pr) i), nI (cn (waB tk N) i), nI i, G) ∧ RF h G) n _ 0 (by omega) (by omega) ⟨h, rfl, RF.rf h⟩ ?_ ?_
    · rintro i X hi ⟨G, rfl, c1⟩
      right
      have kG := k.rf c1
      have hcond : ¬ G.1 1 (0 : Int32).toNatClampNeg ≤ nI i := by rw [ak0, kG.1, k.2.1.1.1, nI_leI (by omega) (by omega)]; omega
      have hi' := r_inT kG.ok hi
      rw [kG.1] at hi'
      rcases it_pl k.2.1 hi with ⟨h1, -⟩ | ⟨h1, hno⟩
      · obtain ⟨g1, b1, b2⟩ := r_isAnswer kG hV hi
        have kg1 := kG.rf b2
        obtain ⟨m1, m2, m3⟩ := r_mark kg1 hi h1
        obtain ⟨g2, d1, d2⟩ := r_isPassed kg1.ok kg1.2.2.1 hV hi
        rw [kg1.1] at d1
        have ewa : waB tk N i = paB tk N i := by unfold waB; rw [h1, Bool.true_and]
        refine ⟨(nI (cn (anB tk N c pr) (i + 1)), smI (anB tk N c pr) (fun i => N (405 + i)) (i + 1), nI (cn (loB tk N c pr) (i + 1)), nI (cn (waB tk N) (i + 1)), nI (i + 1), g2), ⟨_, rfl, (c1.tr b2).tr d2⟩, fun kk => ?_⟩
        have j137 : ∀ (v2 w0 w1 v5 v6 : Int32), m_X7_ask_J137 kk x c4 v2 v5 v6 (nI i) w0 w1 g1 = kk (v2, w0 + w1, v5 + b01 (loB tk N c pr i), v6 + b01 (waB tk N i), nI (i + 1), g2) := fun v2 w0 w1 v5 v6 => by
          unfold m_X7_ask_J137
          rw [if_pos m1, if_pos m2, bnd2_e d1, m3, nI_1, ewa]
          cases paB tk N i
          · rw [if_pos (by decide)]; rfl
          · rw [if_neg (by decide)]; rfl
        have j114 : m_X7_ask_J114 kk x c4 (smI (anB tk N c pr) (fun i => N (405 + i)) i) (nI (cn (loB tk N c pr) i)) (nI (cn (waB tk N) i)) (nI i) (b01 (anB tk N c pr i)) (nI (cn (anB tk N c pr) i)) (b01 (anB tk N c pr i)) g1 = kk (nI (cn (anB tk N c pr) (i + 1)), smI (anB tk N c pr) (fun i => N (405 + i)) (i + 1), nI (cn (loB tk N c pr) (i + 1)), nI (cn (waB tk N) (i + 1)), nI (i + 1), g2) := by
          unfold m_X7_ask_J114
          rw [← cn_b (anB tk N c pr) i, ← cn_b (loB tk N c pr) i, ← cn_b (waB tk N) i, ← sm_b]
          by_cases e : b01 (anB tk N c pr i) = 0
          · rw [if_pos e, j137, if_pos e]
          · rw [if_neg e, if_pos (v405 (by omega)), j137, a405 (by omega), kg1.1, if_neg e]
        simp only [b_X7_ask_L75, m_X7_ask_L75]
        rw [if_pos vk0, if_neg hcond, bnd_e hi', h1, if_pos rfl, if_neg (by decide), bnd2_e b1, ← j114]
        cases anB tk N c pr i
        · rw [if_pos (by decide)]; rfl
        · rw [if_neg (by decide)]; rfl
      · have e1 : loB tk N c pr i = false := lo_no hno
        have e2 : anB tk N c pr i = false := by unfold anB; rw [e1, Bool.false_and]
        have e3 : waB tk N i = false := by unfold waB; rw [h1, Bool.false_and]
        refine ⟨(nI (cn (anB tk N c pr) (i + 1)), smI (anB tk N c pr) (fun i => N (405 + i)) (i + 1), nI (cn (loB tk N c pr) (i + 1)), nI (cn (waB tk N) (i + 1)), nI (i + 1), G), ⟨_, rfl, c1⟩, fun kk => ?_⟩
        simp only [b_X7_ask_L75, m_X7_ask_L75]
        rw [if_pos vk0, if_neg hcond, bnd_e hi', h1, if_neg Bool.false_ne_true, if_pos rfl, cn_n e1, cn_n e2, cn_n e3, sm_n e2, nI_1]
    · rintro X ⟨G, rfl, c1⟩ kk
      have kG := k.rf c1
      have hcond : G.1 1 (0 : Int32).toNatClampNeg ≤ nI n := by rw [ak0, kG.1, k.2.1.1.1]; exact nI_le (Nat.le_refl n) (by omega)
      refine ⟨(askR (nI (cn (anB tk N c pr) n)) (smI (anB tk N c pr) (fun i => N (405 + i)) n) c4 (nI (cn (loB tk N c pr) n)) (nI (cn (waB tk N) n)) x, G), ?_, rfl, c1⟩
      simp only [b_X7_ask_L75, m_X7_ask_L75]
      rw [if_pos vk0, if_pos hcond]
      unfold askR
      by_cases x0 : x = 0
      · rw [if_pos x0, if_pos x0]
      rw [if_neg x0, if_neg x0]
      by_cases x1 : x = 1
      · rw [if_pos x1, if_pos x1]
      rw [if_neg x1, if_neg x1]
      by_cases x2 : x = 2
      · rw [if_pos x2, if_pos x2]
      rw [if_neg x2, if_neg x2]
      by_cases x3 : x = 3
      · rw [if_pos x3, if_pos x3]
      rw [if_neg x3, if_neg x3]
      by_cases x4 : x = 4
      · rw [if_pos x4, if_pos x4]
      rw [if_neg x4, if_neg x4]
  obtain ⟨⟨r, h'⟩, m1, m2, m3⟩ := main
  simp only at m2
  subst m2
  exact ⟨h', m1, m3⟩
theorem r_answer (k : RX tk o N n c pr h) (hV : QV tk o) {x : Int32} (hx : ¬ x < 0) : ∃ r h', lpo (b_X7_answer_L30 x) fuelN (x, (0 : Int32), h) = some (r, h') ∧ RF h h' ∧ RkR (anB tk N c pr) n x r := by
  have hn := k.2.1.1.2.1
  obtain ⟨X, hX, rfl⟩ := nI_of hx
  have main : ∃ r, lpo (b_X7_answer_L30 (nI X)) fuelN (nI X, (0 : Int32), h) = some r ∧ RF h r.2 ∧ RkR (anB tk N c pr) n (nI X) r.1 := by
    refine lpo_P (fun i Y => ∃ G, Y = (nI (X - cn (anB tk N c pr) i), nI i, G) ∧ RF h G ∧ cn (anB tk N c pr) i ≤ X ∧ ∀ j, j < i → anB tk N c pr j = true → nI X ≠ nI (cn (anB tk N c pr) j)) n _ 0 (by omega) (by omega) ⟨h, rfl, RF.rf h, Nat.zero_le X, fun j hj => absurd hj (Nat.not_lt_zero j)⟩ ?_ ?_
    · rintro i Y hi ⟨G, rfl, c1, c2, c3⟩
      have kG := k.rf c1
      have hcond : ¬ G.1 1 (0 : Int32).toNatClampNeg ≤ nI i := by rw [ak0, kG.1, k.2.1.1.1, nI_leI (by omega) (by omega)]; omega
      have hci := cn_le (anB tk N c pr) i
      obtain ⟨g', b1, b2⟩ := r_isAnswer kG hV hi
      cases hb : anB tk N c pr i with
      | false =>
        rw [hb] at b1
        right
        refine ⟨(nI (X - cn (anB tk N c pr) (i + 1)), nI (i + 1), g'), ⟨_, rfl, c1.tr b2, by rw [cn_n hb]; exact c2, lt_up c3 (fun q => absurd (hb.symm.trans q) Bool.false_ne_true)⟩, fun kk => ?_⟩
        simp only [b_X7_answer_L30, m_X7_answer_L30]
        rw [if_pos vk0, if_neg hcond, bnd2_e b1, if_pos (by decide), cn_n hb, nI_1]
      | true =>
        rw [hb] at b1
        by_cases e : X = cn (anB tk N c pr) i
        · left
          intro kk
          refine ⟨(nI i, g'), ?_, c1.tr b2, Or.inl ⟨i, hi, hb, by rw [← e], rfl⟩⟩
          simp only [b_X7_answer_L30, m_X7_answer_L30]
          rw [if_pos vk0, if_neg hcond, bnd2_e b1, if_neg (by decide), if_pos (by rw [← e, Nat.sub_self]; rfl)]
        · right
          refine ⟨(nI (X - cn (anB tk N c pr) (i + 1)), nI (i + 1), g'), ⟨_, rfl, c1.tr b2, by rw [cn_s hb]; omega, lt_up c3 (fun _ q => e ((nI_eq hX (by omega)).mp q))⟩, fun kk => ?_⟩
          simp only [b_X7_answer_L30, m_X7_answer_L30]
          rw [if_pos vk0, if_neg hcond, bnd2_e b1, if_neg (by decide), if_neg (nI_ne0 (by omega) (by omega)), cn_s hb, nI_1, show X - cn (anB tk N c pr) i = (X - (cn (anB tk N c pr) i + 1)) + 1 by omega, pk_m1]
    · rintro Y ⟨G, rfl, c1, c2, c3⟩ kk
      have kG := k.rf c1
      refine ⟨(-1005, G), ?_, c1, Or.inr ⟨c3, rfl⟩⟩
      simp only [b_X7_answer_L30, m_X7_answer_L30]
      rw [if_pos vk0, if_pos (by rw [ak0, kG.1, k.2.1.1.1]; exact nI_le (Nat.le_refl n) (by omega))]
  obtain ⟨⟨r, h'⟩, m1, m2, m3⟩ := main
  exact ⟨r, h', m1, m2, m3⟩
end
