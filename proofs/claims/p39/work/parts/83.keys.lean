/-! a question that was read without a fault; keys with which it is not false -/
def qV (τ : TAU) (tk : List TK) : Fin 3 := match evC τ tk with
  | some (z :: _) => mx z.1 z.2.1
  | _ => 0
def QV (tk o : List TK) : Prop := ∀ τ, ∃ z, evC τ tk = some [z] ∧ qV τ tk = mx z.1 z.2.1 ∧ evR τ o = some [qV τ tk]
def QC (g : MG) (tk : List TK) : Prop := g.1 3 7 = nI tk.length ∧ tk.length ≤ 60 ∧ TkF (g.1 9) (g.1 11) (g.1 13) tk
def QR (h : MG) (o : List TK) : Prop := h.1 0 8 = nI o.length ∧ o.length ≤ 60 ∧ RowM (h.1 5) (h.1 6) (h.1 7) o
theorem QV.of {tk o : List TK} (h : ∀ τ, ∃ z, evC τ tk = some [z] ∧ evR τ o = some [mx z.1 z.2.1]) : QV tk o := fun τ => by
  obtain ⟨z, h1, h2⟩ := h τ
  have e : qV τ tk = mx z.1 z.2.1 := by unfold qV; rw [h1]
  exact ⟨z, h1, e, by rw [e]; exact h2⟩
theorem QC.cong {g G : MG} {tk : List TK} (h : QC g tk) (e : ∀ x, x = 3 ∨ x = 9 ∨ x = 11 ∨ x = 13 → G.1 x = g.1 x) : QC G tk := by
  obtain ⟨h1, h2, h3⟩ := h
  refine ⟨?_, h2, ?_⟩
  · rw [e 3 (by omega)]; exact h1
  · rw [e 9 (by omega), e 11 (by omega), e 13 (by omega)]; exact h3
theorem QC.cf {g G : MG} {tk : List TK} (h : QC g tk) (e : CF g G) : QC G tk := h.cong (fun x hx => e.2 x (by omega) (by omega) (by omega))
theorem QR.cong {h H : MG} {o : List TK} (k : QR h o) (e0 : H.1 0 8 = h.1 0 8) (e : ∀ x, x = 5 ∨ x = 6 ∨ x = 7 → H.1 x = h.1 x) : QR H o := by
  obtain ⟨h1, h2, h3⟩ := k
  refine ⟨e0.trans h1, h2, ?_⟩
  rw [e 5 (by omega), e 6 (by omega), e 7 (by omega)]; exact h3
theorem QR.rf {h H : MG} {o : List TK} (k : QR h o) (e : RF h H) : QR H o := k.cong (e.2 8 (by omega)) (fun x hx => e.1 x (by omega) (by omega) (by omega))
theorem c_tru {g : MG} {tk o : List TK} (hQ : QC g tk) (hV : QV tk o) (x y k v : Int32) : ∃ g', m_X2_truth g x y k v = some (iv (qV (tC x y k v) tk), g') ∧ CF g g' := by
  obtain ⟨z, h1, h2, -⟩ := hV (tC x y k v)
  rw [h2]
  exact c_truth hQ.1 hQ.2.1 hQ.2.2 x y k v h1
theorem r_tru {h : MG} {tk o : List TK} (hQ : QR h o) (hV : QV tk o) (x v k : Int32) : ∃ h', m_X7_truth h x v k = some (iv (qV (tC x x k v) tk), h') ∧ RF h h' := by
  obtain ⟨z, -, -, h3⟩ := hV (tC x x k v)
  exact r_truth hQ.1 hQ.2.1 hQ.2.2 x v k (by rw [tR_tC]; exact h3)
theorem iv_0 (v : Fin 3) : iv v = 0 ↔ v = 0 := by revert v; decide
theorem iv_2 (v : Fin 3) : iv v = 2 ↔ v = 2 := by revert v; decide
theorem iv_le0 (v : Fin 3) : iv v ≤ 0 ↔ v = 0 := by revert v; decide
theorem p1_0 (v : Fin 3) : p1 v = 0 ↔ v = 0 := by revert v; decide
/-- what the question is with a key -/
def kV (tk : List TK) (x : Int32) : Fin 3 := qV (tC x x 0 0) tk
theorem evC_cong {τ τ' : TAU} : ∀ {tk : List TK}, (∀ t, t ∈ tk → (t.1 = 107 → τ true t.2.1 t.2.2 = τ' true t.2.1 t.2.2) ∧ (t.1 = 118 → τ false t.2.1 t.2.2 = τ' false t.2.1 t.2.2)) → evC τ tk = evC τ' tk
  | [], _ => rfl
  | t :: r, h => by
    have ih := evC_cong (fun t' ht' => h t' (List.mem_cons_of_mem _ ht'))
    have h0 := h t List.mem_cons_self
    have e : cstp τ t = cstp τ' t := by
      funext cs
      unfold cstp
      by_cases e1 : t.1 = 107
      · rw [h0.1 e1, if_pos e1, if_pos e1]
      · rw [if_neg e1, if_neg e1]
        by_cases e2 : t.1 = 118
        · rw [h0.2 e2]
        · rw [if_neg e2, if_neg e2]
    show (evC τ r).bind (cstp τ t) = (evC τ' r).bind (cstp τ' t)
    rw [ih, e]
theorem kV_step {tk : List TK} {j : Nat} (hj : j < 2000) (hno : ∀ t, t ∈ tk → t.1 = 107 → ¬ nI (j + 1) = t.2.2 ∧ ¬ nI (j + 1) = t.2.2 + 1) : kV tk (nI (j + 1)) = kV tk (nI j) := by
  have e : evC (tC (nI (j + 1)) (nI (j + 1)) 0 0) tk = evC (tC (nI j) (nI j) 0 0) tk := by
    refine evC_cong (fun t ht => ⟨fun h1 => ?_, fun _ => ?_⟩)
    · obtain ⟨n1, n2⟩ := hno t ht h1
      have t1 : (nI (j + 1)).toInt = (j : Int) + 1 := by rw [nI_toInt (by omega)]; omega
      have t0 : (nI j).toInt = (j : Int) := nI_toInt (by omega)
      have m1 : ¬ t.2.2.toInt = (j : Int) + 1 := fun q => n1 (Int32.toInt_inj.mp (t1.trans q.symm))
      have m0 : ¬ t.2.2.toInt = (j : Int) := fun q => n2 (by
        have : t.2.2 = nI j := Int32.toInt_inj.mp (q.trans t0.symm)
        rw [this, nI_1])
      have hp : ps (nI (j + 1)) t.2.1 t.2.2 = ps (nI j) t.2.1 t.2.2 := by
        have q0 : ¬ nI j = t.2.2 := fun q => m0 (by rw [← q]; exact t0)
        unfold ps
        by_cases s1 : t.2.1 = 60
        · rw [if_pos s1, if_pos s1, Bool.eq_iff_iff, decide_eq_true_eq, decide_eq_true_eq, Int32.lt_iff_toInt_lt, Int32.lt_iff_toInt_lt, t1, t0]
          omega
        rw [if_neg s1, if_neg s1]
        by_cases s2 : t.2.1 = 62
        · rw [if_pos s2, if_pos s2, Bool.eq_iff_iff, decide_eq_true_eq, decide_eq_true_eq, Int32.lt_iff_toInt_lt, Int32.lt_iff_toInt_lt, t1, t0]
          omega
        rw [if_neg s2, if_neg s2, decide_eq_false n1, decide_eq_false q0]
      show (if true = true then tb _ _ _ _ else _) = (if true = true then tb _ _ _ _ else _)
      rw [if_pos rfl, if_pos rfl, tb_ps, tb_ps, hp]
    · show (if false = true then _ else if (0 : Int32) = 0 then _ else _) = (if false = true then _ else if (0 : Int32) = 0 then _ else _)
      rw [if_neg Bool.false_ne_true, if_neg Bool.false_ne_true, if_pos rfl]
  unfold kV qV
  rw [e]
/-- keys that are looked at -/
def CaK (tk : List TK) (a b : Nat) : Prop := b = a ∨ ∃ t, t ∈ tk ∧ t.1 = 107 ∧ (nI b = t.2.2 ∨ nI b = t.2.2 + 1)
theorem caK_ex {tk : List TK} {a : Nat} : ∀ j, a ≤ j → j < 1000 → ∃ b, CaK tk a b ∧ a ≤ b ∧ b ≤ j ∧ kV tk (nI b) = kV tk (nI j)
  | 0, h1, _ => ⟨0, Or.inl (by omega), h1, Nat.le_refl _, rfl⟩
  | j + 1, h1, h2 => by
    by_cases e : ∃ t, t ∈ tk ∧ t.1 = 107 ∧ (nI (j + 1) = t.2.2 ∨ nI (j + 1) = t.2.2 + 1)
    · exact ⟨j + 1, Or.inr e, h1, Nat.le_refl _, rfl⟩
    · rcases Nat.lt_or_ge j a with z | z
      · exact ⟨j + 1, Or.inl (by omega), h1, Nat.le_refl _, rfl⟩
      · obtain ⟨b, b1, b2, b3, b4⟩ := caK_ex (tk := tk) j z (by omega)
        refine ⟨b, b1, b2, by omega, ?_⟩
        rw [b4, kV_step (by omega) (fun t ht h3 => ⟨fun q => e ⟨t, ht, h3, Or.inl q⟩, fun q => e ⟨t, ht, h3, Or.inr q⟩⟩)]
theorem TkF.mem {K S M : Nat → Int32} : ∀ {tk : List TK}, TkF K S M tk → ∀ t, t ∈ tk → ∃ i, i < tk.length ∧ K i = t.1 ∧ (t.1 = 107 → M i = t.2.2)
  | [], _, t, ht => absurd ht List.not_mem_nil
  | a :: r, h, t, ht => by
    rcases List.mem_cons.mp ht with e | e
    · subst e
      exact ⟨r.length, Nat.lt_succ_self _, h.1.1, fun q => (h.1.2 (Or.inl q)).2⟩
    · obtain ⟨i, h1, h2⟩ := TkF.mem h.2 t e
      exact ⟨i, Nat.lt_succ_of_lt h1, h2⟩
/-- some key from a to b with which the question is not false -/
def SK (tk : List TK) (a b : Nat) : Prop := ∃ j, a ≤ j ∧ j ≤ b ∧ ¬ kV tk (nI j) = 0
def YN (r : Int32) (P : Prop) : Prop := (r = 1 ∧ P) ∨ (r = 0 ∧ ¬ P)
theorem YN.bz {r : Int32} {P : Prop} (h : YN r P) : bz r = true := by
  rcases h with ⟨rfl, -⟩ | ⟨rfl, -⟩ <;> decide
section
variable {g : MG} {tk o : List TK}
theorem c_keyMay (hQ : QC g tk) (hV : QV tk o) (x a b : Int32) : ∃ r g', m_X2_keyMayHold g x a b = some (r, g') ∧ CF g g' ∧ YN r (a ≤ x ∧ x ≤ b ∧ ¬ kV tk x = 0) := by
  unfold m_X2_keyMayHold
  by_cases h1 : x < a
  · rw [if_pos h1]
    exact ⟨_, _, rfl, CF.rf g, Or.inr ⟨rfl, fun q => Int32.not_le.mpr h1 q.1⟩⟩
  rw [if_neg h1]
  by_cases h2 : b < x
  · rw [if_pos h2]
    exact ⟨_, _, rfl, CF.rf g, Or.inr ⟨rfl, fun q => Int32.not_le.mpr h2 q.2.1⟩⟩
  rw [if_neg h2]
  obtain ⟨g', b1, b2⟩ := c_tru hQ hV x x 0 0
  have b1 : m_X2_truth g x x 0 0 = some (iv (kV tk x), g') := b1
  rw [bnd2_e b1]
  by_cases h3 : kV tk x = 0
  · rw [if_pos ((iv_0 _).mpr h3)]
    exact ⟨_, _, rfl, b2, Or.inr ⟨rfl, fun q => q.2.2 h3⟩⟩
  · rw [if_neg (fun q => h3 ((iv_0 _).mp q))]
    exact ⟨_, _, rfl, b2, Or.inl ⟨rfl, Int32.not_lt.mp h1, Int32.not_lt.mp h2, h3⟩⟩
theorem c_someKey (hQ : QC g tk) (hV : QV tk o) {a b : Nat} (hab : a ≤ b) (hb : b < 1000) : ∃ r g', m_X2_someKeyMayHold g (nI a) (nI b) = some (r, g') ∧ CF g g' ∧ YN r (SK tk a b) := by
  have wit : ∀ x : Int32, (nI a ≤ x ∧ x ≤ nI b ∧ ¬ kV tk x = 0) → SK tk a b := fun x hx => by
    have h0 : ¬ x < 0 := fun q => by
      have h1 := Int32.lt_iff_toInt_lt.mp q
      have h2 := Int32.le_iff_toInt_le.mp hx.1
      rw [nI_toInt (by omega)] at h2
      have h3 : (0 : Int32).toInt = 0 := by decide
      omega
    obtain ⟨j, hj, rfl⟩ := nI_of h0
    exact ⟨j, (nI_leI (by omega) hj).mp hx.1, (nI_leI hj (by omega)).mp hx.2.1, hx.2.2⟩
  unfold m_X2_someKeyMayHold
  obtain ⟨r0, g0, a1, a2, a3⟩ := c_keyMay hQ hV (nI a) (nI a) (nI b)
  rw [bnd2_e a1]
  rcases a3 with ⟨rfl, a3⟩ | ⟨rfl, a3⟩
  · rw [if_neg (by decide)]
    exact ⟨_, _, rfl, a2, Or.inl ⟨rfl, wit _ a3⟩⟩
  · rw [if_pos rfl]
    have main : ∃ r, lpo (b_X2_someKeyMayHold_L14 (nI a) (nI b)) fuelN ((0 : Int32), g0) = some r ∧ CF g r.2 ∧ YN r.1 (SK tk a b) := by
      refine lpo_P (fun i X => ∃ G, X = (nI i, G) ∧ CF g G ∧ ∀ i', i' < i → g.1 9 i' = 107 → ¬ (nI a ≤ g.1 13 i' ∧ g.1 13 i' ≤ nI b ∧ ¬ kV tk (g.1 13 i') = 0) ∧ ¬ (nI a ≤ g.1 13 i' + 1 ∧ g.1 13 i' + 1 ≤ nI b ∧ ¬ kV tk (g.1 13 i' + 1) = 0)) tk.length _ 0 (by omega) (by have := hQ.2.1; omega) ⟨g0, rfl, a2, fun i' hi' => absurd hi' (Nat.not_lt_zero i')⟩ ?_ ?_
      · rintro i X hi ⟨G, rfl, c1, c2⟩
        have h60 := hQ.2.1
        have hcond : ¬ G.1 3 7 ≤ nI i := by rw [c1.2 3 (by omega) (by omega) (by omega), hQ.1, nI_leI (by omega) (by omega)]; omega
        have e13 := e_at' (g := G) (k := 13) (n := 60) (j := i) (by omega) (by omega) (congrFun (c1.2 13 (by omega) (by omega) (by omega)) i)
        have e9 := e_at' (g := G) (k := 9) (n := 60) (j := i) (by omega) (by omega) (congrFun (c1.2 9 (by omega) (by omega) (by omega)) i)
        by_cases hk : g.1 9 i = 107
        · obtain ⟨r1, g1, d1, d2, d3⟩ := c_keyMay (hQ.cf c1) hV (g.1 13 i) (nI a) (nI b)
          obtain ⟨r2, g2, d4, d5, d6⟩ := c_keyMay ((hQ.cf c1).cf d2) hV (g.1 13 i + 1) (nI a) (nI b)
          rcases d3 with ⟨rfl, d3⟩ | ⟨rfl, d3⟩
          · left
            intro k
            refine ⟨(1, g1), ?_, c1.tr d2, Or.inl ⟨rfl, wit _ d3⟩⟩
            simp only [b_X2_someKeyMayHold_L14, m_X2_someKeyMayHold_L14]
            rw [if_neg hcond, bnd_e e13, bnd_e e9, if_pos hk, bnd2_e d1, if_neg (by decide)]
          · rcases d6 with ⟨rfl, d6⟩ | ⟨rfl, d6⟩
            · left
              intro k
              refine ⟨(1, g2), ?_, (c1.tr d2).tr d5, Or.inl ⟨rfl, wit _ d6⟩⟩
              simp only [b_X2_someKeyMayHold_L14, m_X2_someKeyMayHold_L14]
              rw [if_neg hcond, bnd_e e13, bnd_e e9, if_pos hk, bnd2_e d1, if_pos rfl, bnd2_e d4, if_neg (by decide)]
            · right
              refine ⟨(nI (i + 1), g2), ⟨_, rfl, (c1.tr d2).tr d5, lt_up c2 (fun _ => ⟨d3, d6⟩)⟩, fun k => ?_⟩
              simp only [b_X2_someKeyMayHold_L14, m_X2_someKeyMayHold_L14]
              rw [if_neg hcond, bnd_e e13, bnd_e e9, if_pos hk, bnd2_e d1, if_pos rfl, bnd2_e d4, if_pos rfl, nI_1]
        · right
          refine ⟨(nI (i + 1), G), ⟨_, rfl, c1, lt_up c2 (fun q => absurd q hk)⟩, fun k => ?_⟩
          simp only [b_X2_someKeyMayHold_L14, m_X2_someKeyMayHold_L14]
          rw [if_neg hcond, bnd_e e13, bnd_e e9, if_neg hk, nI_1]
      · rintro X ⟨G, rfl, c1, c2⟩ k
        have h60 := hQ.2.1
        refine ⟨(0, G), ?_, c1, Or.inr ⟨rfl, ?_⟩⟩
        · simp only [b_X2_someKeyMayHold_L14, m_X2_someKeyMayHold_L14]
          rw [c1.2 3 (by omega) (by omega) (by omega), hQ.1, if_pos (nI_le (Nat.le_refl _) (by omega))]
        · rintro ⟨j, j1, j2, j3⟩
          obtain ⟨x, x1, x2, x3, x4⟩ := caK_ex (tk := tk) j j1 (by omega)
          rw [← x4] at j3
          have hr : nI a ≤ nI x ∧ nI x ≤ nI b := ⟨nI_le x2 (by omega), nI_le (by omega) (by omega)⟩
          rcases x1 with rfl | ⟨t, t1, t2, t3⟩
          · exact a3 ⟨hr.1, hr.2, j3⟩
          · obtain ⟨i, i1, i2, i3⟩ := hQ.2.2.mem t t1
            have hno := c2 i i1 (i2.trans t2)
            rw [i3 t2] at hno
            rcases t3 with t3 | t3
            · rw [t3] at hr j3
              exact hno.1 ⟨hr.1, hr.2, j3⟩
            · rw [t3] at hr j3
              exact hno.2 ⟨hr.1, hr.2, j3⟩
    obtain ⟨⟨r, g'⟩, m1, m2, m3⟩ := main
    exact ⟨r, g', m1, m2, m3⟩
end
/-! which places are looked into -/
def LkS (tk : List TK) (N : Nat → Int32) (pr : Int32) (q : Nat) : Prop := pr = 0 ∨ (pr = 1 ∧ ¬ qV (tC (N (1265 + q)) (N (1325 + q) - 1) 0 0) tk = 0) ∨ (pr = 2 ∧ ∃ j : Nat, (N (1265 + q)).toInt ≤ (j : Int) ∧ (j : Int) < (N (1325 + q)).toInt ∧ ¬ kV tk (nI j) = 0)
def FrK (tk : List TK) (N : Nat → Int32) (c : Nat) : Prop := ∃ j, j < 1000 ∧ frB N c j = true ∧ ¬ kV tk (nI j) = 0
def LkD (tk : List TK) (N : Nat → Int32) (c : Nat) (pr : Int32) : Prop := N 2 = 1 ∧ (¬ pr = 2 ∨ FrK tk N c)
def LkP (tk : List TK) (N : Nat → Int32) (c : Nat) (pr : Int32) (q : Nat) : Prop := (q < c ∧ N (1205 + q) = 1 ∧ LkS tk N pr q) ∨ (q = 60 ∧ LkD tk N c pr)
theorem free_gap {N : Nat → Int32} {n c m : Nat} {u : Nat → Nat} (hk : OkN N n c) (hs : SO N c m u) {j : Nat} (hj : j < 1000) (hf : frB N c j = true) : ∃ a, a ≤ m ∧ glN N u a ≤ j ∧ j < ghN N u m a := by
  have key : ∀ a, a ≤ m → (∃ a', a' < a ∧ glN N u a' ≤ j ∧ j < ghN N u m a') ∨ glN N u a ≤ j := by
    intro a
    induction a with
    | zero =>
      intro _
      right
      have : glN N u 0 = 0 := rfl
      omega
    | succ a ih =>
      intro ha
      rcases ih (by omega) with ⟨a', h1, h2, h3⟩ | h1
      · exact Or.inl ⟨a', by omega, h2, h3⟩
      · rcases Nat.lt_or_ge j (ghN N u m a) with z | z
        · exact Or.inl ⟨a, by omega, h1, z⟩
        · right
          rcases Nat.lt_or_ge j (glN N u (a + 1)) with y | y
          · exact absurd (own_in hk hs (by omega) z y) (fr_t.mp hf _)
          · exact y
  rcases key m (Nat.le_refl m) with ⟨a', h1, h2, h3⟩ | h1
  · exact ⟨a', by omega, h2, h3⟩
  · refine ⟨m, Nat.le_refl m, h1, ?_⟩
    have : ghN N u m m = 1000 := by
      unfold ghN gHi
      rw [if_pos rfl]
      decide
    omega
theorem i_pred {x : Int32} (h : 0 < x.toInt) : (x - 1).toInt = x.toInt - 1 := by
  have h1 : (1 : Int32).toInt = 1 := by decide
  have := x.toInt_lt
  rw [i_sub (by rw [h1]; omega) (by rw [h1]; omega), h1]
section
variable {g : MG} {tk o : List TK} {N : Nat → Int32} {n c m : Nat} {u : Nat → Nat}
/-- the bounds of a slice as numbers -/
theorem sl_ab (hk : OkN N n c) {q : Nat} (hq : q < c) (ha : N (1205 + q) = 1) : ∃ a b, a ≤ b ∧ b < 1000 ∧ N (1265 + q) = nI a ∧ N (1325 + q) - 1 = nI b ∧ (N (1265 + q)).toInt = a ∧ (N (1325 + q)).toInt = (b : Int) + 1 := by
  obtain ⟨h1, h2, h3⟩ := (hk.2.2.2.1 q hq).2 ha
  obtain ⟨a, ea, ea'⟩ := i_nat h1
  have hp := i_pred (x := N (1325 + q)) (by omega)
  obtain ⟨b, eb, eb'⟩ := i_nat (x := N (1325 + q) - 1) (by omega)
  exact ⟨a, b, by omega, by omega, ea, eb, by omega, by omega⟩
theorem c_sliceMay (hT : TB g 0 N n c m u) (hQ : QC g tk) (hV : QV tk o) {j : Nat} (hj : j < m) {pr : Int32} (hpr : pr = 0 ∨ pr = 1 ∨ pr = 2) : ∃ r g', m_X6_sliceMayHold g (nI j) pr = some (r, g') ∧ CF g g' ∧ YN r (LkS tk N pr (u j)) := by
  obtain ⟨q1, q2⟩ := hT.2.1.2.1 j hj
  obtain ⟨a, b, hab, hb, ea, eb, ea', eb'⟩ := sl_ab hT.1 q1 q2
  unfold m_X6_sliceMayHold LkS
  rw [bnd_e (c_low hT hj), bnd_e (c_high hT hj)]
  rcases hpr with rfl | rfl | rfl
  · rw [if_neg (by decide), if_neg (by decide)]
    exact ⟨_, _, rfl, CF.rf g, Or.inl ⟨rfl, Or.inl rfl⟩⟩
  · obtain ⟨g', b1, b2⟩ := c_tru hQ hV (N (1265 + u j)) (N (1325 + u j) - 1) 0 0
    rw [if_pos rfl, bnd2_e b1]
    by_cases e : qV (tC (N (1265 + u j)) (N (1325 + u j) - 1) 0 0) tk = 0
    · rw [if_pos ((iv_0 _).mpr e)]
      refine ⟨_, _, rfl, b2, Or.inr ⟨rfl, ?_⟩⟩
      rintro (q | ⟨-, q⟩ | ⟨q, -⟩)
      · exact absurd q (by decide)
      · exact q e
      · exact absurd q (by decide)
    · rw [if_neg (fun q => e ((iv_0 _).mp q))]
      exact ⟨_, _, rfl, b2, Or.inl ⟨rfl, Or.inr (Or.inl ⟨rfl, e⟩)⟩⟩
  · rw [if_neg (by decide), if_pos rfl, ea, eb]
    obtain ⟨r, g', b1, b2, b3⟩ := c_someKey hQ hV hab hb
    rw [bnd2_e b1, if_pos b3.bz]
    refine ⟨_, _, rfl, b2, ?_⟩
    rw [← ea, ← eb, ea', eb']
    rcases b3 with ⟨rfl, j', j1, j2, j3⟩ | ⟨rfl, b3⟩
    · exact Or.inl ⟨rfl, Or.inr (Or.inr ⟨rfl, j', by omega, by omega, j3⟩)⟩
    · refine Or.inr ⟨rfl, ?_⟩
      rintro (q | ⟨q, -⟩ | ⟨-, j', j1, j2, j3⟩)
      · exact absurd q (by decide)
      · exact absurd q (by decide)
      · exact b3 ⟨j', by omega, by omega, j3⟩
theorem c_someFree (hT : TB g 0 N n c m u) (hQ : QC g tk) (hV : QV tk o) : ∃ r g', m_X6_someFreeKeyMayHold g = some (r, g') ∧ CF g g' ∧ YN r (FrK tk N c) := by
  have hm := hT.m12
  have main : ∃ r, m_X6_someFreeKeyMayHold g = some r ∧ CF g r.2 ∧ YN r.1 (FrK tk N c) := by
    unfold m_X6_someFreeKeyMayHold
    refine lpo_P (fun i X => ∃ G, X = (nI i, G) ∧ CF g G ∧ ∀ a, a < i → ∀ j, glN N u a ≤ j → j < ghN N u m a → kV tk (nI j) = 0) (m + 1) _ 0 (by omega) (by omega) ⟨g, rfl, CF.rf g, fun i' hi' => absurd hi' (Nat.not_lt_zero i')⟩ ?_ ?_
    · rintro i X hi ⟨G, rfl, c1, c2⟩
      have hTG : TB G 0 N n c m u := hT.cong (fun k h1 h2 => c1.2 k (by omega) (by omega) (by omega))
      have hcond : ¬ G.1 (22 + 15 * 0) 3 < nI i := by rw [hTG.am, nI_ltI (by omega) (by omega)]; omega
      have gl := gl_b hT.1 hT.2.1 (a := i) (by omega)
      have gh := gh_b hT.1 hT.2.1 (a := i) (by omega)
      have hgl : glN N u i ≤ 1000 := by unfold glN; omega
      have hgh : ghN N u m i ≤ 1000 := by unfold ghN; omega
      rcases Nat.lt_or_ge (glN N u i) (ghN N u m i) with z | z
      · obtain ⟨b, hb⟩ : ∃ b, ghN N u m i = b + 1 := ⟨ghN N u m i - 1, by omega⟩
        obtain ⟨r, g', d1, d2, d3⟩ := c_someKey (hQ.cf c1) hV (a := glN N u i) (b := b) (by omega) (by omega)
        have pre : ∀ k, b_X6_someFreeKeyMayHold_L2 k (nI i, G) = if r = 0 then k (nI (i + 1), g') else some ((1 : Int32), g') := fun k => by
          simp only [b_X6_someFreeKeyMayHold_L2, m_X6_someFreeKeyMayHold_L2]
          rw [if_neg hcond, bnd_e (c_gapLow hTG (by omega)), bnd_e (c_gapHigh hTG (by omega)), gl_eq hT.1 hT.2.1 (by omega), gh_eq hT.1 hT.2.1 (by omega), hb, nI_pred, if_neg (nI_nlt (by omega) (by omega)), bnd2_e d1, nI_1]
        rcases d3 with ⟨rfl, j, j1, j2, j3⟩ | ⟨rfl, d3⟩
        · left
          intro k
          refine ⟨(1, g'), ?_, c1.tr d2, Or.inl ⟨rfl, j, by omega, free_in hT.1 hT.2.1 (a := i) (by omega) j1 (by omega), j3⟩⟩
          rw [pre k, if_neg (by decide)]
        · right
          refine ⟨(nI (i + 1), g'), ⟨_, rfl, c1.tr d2, lt_up c2 (fun j j1 j2 => ?_)⟩, fun k => ?_⟩
          · refine Classical.byContradiction (fun hn => d3 ⟨j, j1, by omega, hn⟩)
          · rw [pre k, if_pos rfl]
      · right
        refine ⟨(nI (i + 1), G), ⟨_, rfl, c1, lt_up c2 (fun j j1 j2 => by omega)⟩, fun k => ?_⟩
        have hlt : gHi N u m i - 1 < gLo N u i := by
          rw [gl_eq hT.1 hT.2.1 (by omega), gh_eq hT.1 hT.2.1 (by omega)]
          rcases Nat.eq_zero_or_pos (ghN N u m i) with y | y
          · rw [y]
            exact Int32.lt_iff_toInt_lt.mpr (by rw [nI_toInt (n := glN N u i) (by omega), show (nI 0 - 1).toInt = -1 by decide]; omega)
          · obtain ⟨b, hb⟩ : ∃ b, ghN N u m i = b + 1 := ⟨ghN N u m i - 1, by omega⟩
            rw [hb, nI_pred]
            exact nI_lt (by omega) (by omega)
        simp only [b_X6_someFreeKeyMayHold_L2, m_X6_someFreeKeyMayHold_L2]
        rw [if_neg hcond, bnd_e (c_gapLow hTG (by omega)), bnd_e (c_gapHigh hTG (by omega)), if_pos hlt, nI_1]
    · rintro X ⟨G, rfl, c1, c2⟩ k
      have hTG : TB G 0 N n c m u := hT.cong (fun k h1 h2 => c1.2 k (by omega) (by omega) (by omega))
      refine ⟨(0, G), ?_, c1, Or.inr ⟨rfl, ?_⟩⟩
      · simp only [b_X6_someFreeKeyMayHold_L2, m_X6_someFreeKeyMayHold_L2]
        rw [hTG.am, if_pos (nI_lt (by omega) (by omega))]
      · rintro ⟨j, j1, j2, j3⟩
        obtain ⟨a, a1, a2, a3⟩ := free_gap hT.1 hT.2.1 j1 j2
        exact j3 (c2 a (by omega) j a2 a3)
  obtain ⟨⟨r, g'⟩, m1, m2, m3⟩ := main
  exact ⟨r, g', m1, m2, m3⟩
theorem c_clear : ∃ G : MG, m_X0_clear g 5 62 = some G ∧ G.2 = g.2 ∧ (∀ k, k ≠ 5 → G.1 k = g.1 k) ∧ ∀ q, q < 62 → G.1 5 q = 0 := by
  unfold m_X0_clear
  refine lpo_P (fun i z => ∃ G : MG, z = (nI i, G) ∧ G.2 = g.2 ∧ (∀ k, k ≠ 5 → G.1 k = g.1 k) ∧ ∀ q, q < i → G.1 5 q = 0) 62 _ 0 (by omega) (by omega) ⟨g, rfl, rfl, fun _ _ => rfl, fun j hj => absurd hj (Nat.not_lt_zero j)⟩ ?_ ?_
  · rintro i z hi ⟨G, rfl, b1, b2, b3⟩
    right
    refine ⟨(nI (i + 1), g_w G 5 i 0), ⟨_, rfl, b1, fun k hk => by rw [gw_ne hk, b2 k hk], lt_up (fun j hj => by rw [gw_at, if_neg (by omega), b3 j hj]) (by rw [gw_at, if_pos rfl])⟩, fun k => ?_⟩
    simp only [b_X0_clear_L2, m_X0_clear_L2]
    rw [if_neg (by rw [nI_leI (by omega) (by omega)]; omega), if_pos (vin_nI hi (by omega)), nI_clamp (by omega), nI_1]
  · rintro z ⟨G, rfl, b1, b2, b3⟩ k
    refine ⟨G, ?_, b1, b2, b3⟩
    simp only [b_X0_clear_L2, m_X0_clear_L2]
    rw [if_pos (nI_le (Nat.le_refl 62) (by omega))]
/-- what changes in the class' memory as it marks places -/
def CL5 (g g' : MG) : Prop := g'.2 = g.2 ∧ ∀ c, c ≠ 5 → c ≠ 15 → c ≠ 17 → c ≠ 19 → g'.1 c = g.1 c
theorem c_mark (hT : TB g 0 N n c m u) (hQ : QC g tk) (hV : QV tk o) {pr : Int32} (hpr : pr = 0 ∨ pr = 1 ∨ pr = 2) : ∃ g', m_X6_markLooked g pr = some g' ∧ CL5 g g' ∧ ∀ q, q < 62 → YN (g'.1 5 q) (LkP tk N c pr q) := by
  have hm := hT.m12
  have hc6 := hT.c6
  obtain ⟨G0, a1, a2, a3, a4⟩ := c_clear (g := g)
  unfold m_X6_markLooked
  rw [bnd_e a1]
  refine lpo_P (fun i X => ∃ G, X = (nI i, G) ∧ CL5 g G ∧ ∀ q, q < 62 → YN (G.1 5 q) (∃ j, j < i ∧ q = u j ∧ LkS tk N pr q)) m _ 0 (by omega) (by omega) ⟨G0, rfl, ⟨a2, fun c h5 _ _ _ => a3 c h5⟩, fun q hq => Or.inr ⟨a4 q hq, fun ⟨j, hj, _⟩ => absurd hj (Nat.not_lt_zero j)⟩⟩ ?_ ?_
  · rintro i X hi ⟨G, rfl, c1, c2⟩
    right
    have hTG : TB G 0 N n c m u := hT.cong (fun k h1 h2 => c1.2 k (by omega) (by omega) (by omega) (by omega))
    have hQG : QC G tk := hQ.cong (fun x hx => c1.2 x (by omega) (by omega) (by omega) (by omega))
    have hcond : ¬ G.1 (22 + 15 * 0) 3 ≤ nI i := by rw [hTG.am, nI_leI (by omega) (by omega)]; omega
    obtain ⟨q1, q2⟩ := hT.2.1.2.1 i hi
    obtain ⟨r, g1, d1, d2, d3⟩ := c_sliceMay hTG hQG hV hi hpr
    have hc1 : CL5 g g1 := ⟨d2.1.trans c1.1, fun x h5 h15 h17 h19 => (d2.2 x h15 h17 h19).trans (c1.2 x h5 h15 h17 h19)⟩
    have h5 : g1.1 5 = G.1 5 := d2.2 5 (by omega) (by omega) (by omega)
    have old : ∀ q, (∃ j, j < i ∧ q = u j ∧ LkS tk N pr q) → ∃ j, j < i + 1 ∧ q = u j ∧ LkS tk N pr q := fun q ⟨j, j1, j2⟩ => ⟨j, by omega, j2⟩
    rcases d3 with ⟨rfl, d3⟩ | ⟨rfl, d3⟩
    · have hT1 : TB g1 0 N n c m u := hT.cong (fun k h1 h2 => hc1.2 k (by omega) (by omega) (by omega) (by omega))
      refine ⟨(nI (i + 1), g_w g1 5 (u i) 1), ⟨_, rfl, ⟨hc1.1, fun x h5 h15 h17 h19 => by rw [gw_ne h5, hc1.2 x h5 h15 h17 h19]⟩, fun q hq => ?_⟩, fun k => ?_⟩
      · rw [gw_at]
        by_cases e : q = u i
        · rw [if_pos e]
          exact Or.inl ⟨rfl, i, by omega, e, by rw [e]; exact d3⟩
        · rw [if_neg e, h5]
          rcases c2 q hq with ⟨k1, k2⟩ | ⟨k1, k2⟩
          · exact Or.inl ⟨k1, old q k2⟩
          · refine Or.inr ⟨k1, ?_⟩
            rintro ⟨j, j1, j2, j3⟩
            rcases Nat.lt_or_ge j i with z | z
            · exact k2 ⟨j, z, j2, j3⟩
            · exact e (by rw [j2, show j = i by omega])
      · simp only [b_X6_markLooked_L9, m_X6_markLooked_L9]
        rw [if_neg hcond, bnd2_e d1, if_neg (by decide), bnd_e (c_number hT1 hi), bnd_e (e_wr (show u i < 62 by omega) (by omega)), nI_1]
    · refine ⟨(nI (i + 1), g1), ⟨_, rfl, hc1, fun q hq => ?_⟩, fun k => ?_⟩
      · rw [h5]
        rcases c2 q hq with ⟨k1, k2⟩ | ⟨k1, k2⟩
        · exact Or.inl ⟨k1, old q k2⟩
        · refine Or.inr ⟨k1, ?_⟩
          rintro ⟨j, j1, j2, j3⟩
          rcases Nat.lt_or_ge j i with z | z
          · exact k2 ⟨j, z, j2, j3⟩
          · have : j = i := by omega
            subst this
            rw [j2] at j3
            exact d3 j3
      · simp only [b_X6_markLooked_L9, m_X6_markLooked_L9]
        rw [if_neg hcond, bnd2_e d1, if_pos rfl, nI_1]
  · rintro X ⟨G, rfl, c1, c2⟩ k
    have hTG : TB G 0 N n c m u := hT.cong (fun k h1 h2 => c1.2 k (by omega) (by omega) (by omega) (by omega))
    have hQG : QC G tk := hQ.cong (fun x hx => c1.2 x (by omega) (by omega) (by omega) (by omega))
    have hon : G.1 (20 + 15 * 0) 2 = N 2 := hTG.2.2.1.2.2.2.1
    have hend : G.1 (22 + 15 * 0) 3 ≤ nI m := by rw [hTG.am]; exact nI_le (Nat.le_refl m) (by omega)
    -- slices
    have sl : ∀ (q : Nat) (v : Int32), q < 62 → ¬ q = 60 → YN v (∃ j, j < m ∧ q = u j ∧ LkS tk N pr q) → YN v (LkP tk N c pr q) := fun q v hq h60 hy => by
      rcases hy with ⟨k1, j, j1, j2, j3⟩ | ⟨k1, k2⟩
      · obtain ⟨q1, q2⟩ := hT.2.1.2.1 j j1
        rw [← j2] at q1 q2
        exact Or.inl ⟨k1, Or.inl ⟨q1, q2, j3⟩⟩
      · refine Or.inr ⟨k1, ?_⟩
        rintro (⟨q1, q2, q3⟩ | ⟨q1, -⟩)
        · obtain ⟨j, hj, e⟩ := hT.2.1.2.2.1 q q1 q2
          exact k2 ⟨j, hj, e.symm, q3⟩
        · exact h60 q1
    have d60 : ∀ v : Int32, YN v (LkD tk N c pr) → YN v (LkP tk N c pr 60) := fun v hy => by
      rcases hy with ⟨k1, k2⟩ | ⟨k1, k2⟩
      · exact Or.inl ⟨k1, Or.inr ⟨rfl, k2⟩⟩
      · refine Or.inr ⟨k1, ?_⟩
        rintro (⟨q1, -⟩ | ⟨-, q1⟩)
        · omega
        · exact k2 q1
    have old60 : G.1 5 60 = 0 := by
      rcases c2 60 (by omega) with ⟨-, j, j1, j2, -⟩ | ⟨k1, -⟩
      · have := (hT.2.1.2.1 j j1).1
        omega
      · exact k1
    have off : ∀ G' : MG, CL5 g G' → (∀ q, G'.1 5 q = G.1 5 q) → ¬ LkD tk N c pr → CL5 g G' ∧ ∀ q, q < 62 → YN (G'.1 5 q) (LkP tk N c pr q) := fun G' k1 k2 k3 => ⟨k1, fun q hq => by
      rw [k2 q]
      by_cases e : q = 60
      · rw [e, old60]
        exact d60 0 (Or.inr ⟨rfl, k3⟩)
      · exact sl q _ hq e (c2 q hq)⟩
    have on : ∀ G' : MG, CL5 g G' → (∀ q, G'.1 5 q = if q = 60 then 1 else G.1 5 q) → LkD tk N c pr → CL5 g G' ∧ ∀ q, q < 62 → YN (G'.1 5 q) (LkP tk N c pr q) := fun G' k1 k2 k3 => ⟨k1, fun q hq => by
      rw [k2 q]
      by_cases e : q = 60
      · rw [if_pos e, e]
        exact d60 1 (Or.inl ⟨rfl, k3⟩)
      · rw [if_neg e]
        exact sl q _ hq e (c2 q hq)⟩
    simp only [b_X6_markLooked_L9, m_X6_markLooked_L9]
    rw [if_pos hend, hon]
    have w60 : ∀ G' : MG, m_X0_write G' 5 62 (60 : Int32) (1 : Int32) = some (g_w G' 5 60 1) := fun G' => e_wr (j := 60) (by omega) (by omega)
    by_cases h2 : N 2 = 0
    · rw [if_pos h2]
      exact ⟨G, rfl, off G c1 (fun _ => rfl) (fun q => absurd (h2.symm.trans q.1) (by decide))⟩
    · rw [if_neg h2]
      have h21 : N 2 = 1 := by
        rcases hT.1.2.1.1 with e | e
        · exact absurd e h2
        · exact e
      by_cases hp2 : pr = 2
      · rw [if_pos hp2]
        obtain ⟨r, g1, d1, d2, d3⟩ := c_someFree hTG hQG hV
        have hc1 : CL5 g g1 := ⟨d2.1.trans c1.1, fun x h5 h15 h17 h19 => (d2.2 x h15 h17 h19).trans (c1.2 x h5 h15 h17 h19)⟩
        have h5 : g1.1 5 = G.1 5 := d2.2 5 (by omega) (by omega) (by omega)
        rw [bnd2_e d1]
        rcases d3 with ⟨rfl, d3⟩ | ⟨rfl, d3⟩
        · rw [if_neg (by decide), bnd_e (w60 g1)]
          exact ⟨_, rfl, on _ ⟨hc1.1, fun x h5 h15 h17 h19 => by rw [gw_ne h5, hc1.2 x h5 h15 h17 h19]⟩ (fun q => by rw [gw_at, h5]) ⟨h21, Or.inr d3⟩⟩
        · rw [if_pos rfl]
          exact ⟨_, rfl, off _ hc1 (fun q => by rw [h5]) (fun q => q.2.elim (fun z => z hp2) d3)⟩
      · rw [if_neg hp2, bnd_e (w60 G)]
        exact ⟨_, rfl, on _ ⟨c1.1, fun x h5 h15 h17 h19 => by rw [gw_ne h5, c1.2 x h5 h15 h17 h19]⟩ (fun q => by rw [gw_at]) ⟨h21, Or.inl hp2⟩⟩
end
