/-! what a question comes to: the reference -/
theorem RowM.sfx {f5 f6 f7 : Nat → Int32} : ∀ {p l : List TK}, RowM f5 f6 f7 (p ++ l) → RowM f5 f6 f7 l
  | [], _, h => h
  | _ :: p, _, h => RowM.sfx (p := p) h.2
theorem evR_ex {τ : TAU} {t : TK} {r : List TK} {cs : List (Fin 3)} (h : evR τ (t :: r) = some cs) : ∃ c2, evR τ r = some c2 ∧ rst τ t c2 = some cs := by
  have h' : (evR τ r).bind (rst τ t) = some cs := h
  cases e : evR τ r with
  | none => rw [e] at h'; cases h'
  | some c2 =>
    rw [e] at h'
    exact ⟨c2, rfl, h'⟩
theorem evR_sfx {τ : TAU} : ∀ {p l : List TK} {cs : List (Fin 3)}, evR τ (p ++ l) = some cs → ∃ c2, evR τ l = some c2
  | [], _, cs, h => ⟨cs, h⟩
  | _ :: p, _, _, h => by
    obtain ⟨c2, h2, -⟩ := evR_ex h
    exact evR_sfx (p := p) h2
theorem evR_len {τ : TAU} : ∀ {l : List TK} {vs : List (Fin 3)}, evR τ l = some vs → vs.length ≤ l.length
  | [], vs, h => by cases h; exact Nat.le_refl _
  | t :: r, vs, h => by
    obtain ⟨c2, h1, h2⟩ := evR_ex h
    have := evR_len h1
    unfold rst at h2
    split at h2
    · cases h2; simp only [List.length_cons]; omega
    split at h2
    · cases h2; simp only [List.length_cons]; omega
    split at h2
    · cases c2 with
      | nil => cases h2
      | cons x c2 => cases h2; simp only [List.length_cons] at this ⊢; omega
    · cases c2 with
      | nil => cases h2
      | cons x c2 =>
        cases c2 with
        | nil => cases h2
        | cons y c2 => cases h2; simp only [List.length_cons] at this ⊢; omega
/-- values in a cell, as e writes them -/
def V1 (e : Fin 3 → Int32) (f : Nat → Int32) : List (Fin 3) → Prop
  | [] => True
  | v :: r => f r.length = e v ∧ V1 e f r
theorem V1.cong {e : Fin 3 → Int32} {f g : Nat → Int32} : ∀ {vs : List (Fin 3)}, V1 e f vs → (∀ i, i < vs.length → g i = f i) → V1 e g vs
  | [], _, _ => trivial
  | v :: r, h, k => ⟨(k r.length (Nat.lt_succ_self _)).trans h.1, h.2.cong (fun i hi => k i (Nat.lt_succ_of_lt hi))⟩
theorem V1.up {e : Fin 3 → Int32} {f g : Nat → Int32} {vs : List (Fin 3)} {v : Fin 3} (h : V1 e f vs) (k : ∀ i, g i = if i = vs.length then e v else f i) : V1 e g (v :: vs) :=
  ⟨by rw [k, if_pos rfl], h.cong (fun i hi => by rw [k, if_neg (by omega)])⟩
def RF (h h' : MG) : Prop := (∀ c, c ≠ 0 → c ≠ 9 → c ≠ 10 → h'.1 c = h.1 c) ∧ ∀ j, j ≠ 13 → h'.1 0 j = h.1 0 j
theorem RF.rf (h : MG) : RF h h := ⟨fun _ _ _ _ => rfl, fun _ _ => rfl⟩
theorem RF.tr {a b d : MG} (h : RF a b) (h' : RF b d) : RF a d := ⟨fun c h1 h2 h3 => (h'.1 c h1 h2 h3).trans (h.1 c h1 h2 h3), fun j hj => (h'.2 j hj).trans (h.2 j hj)⟩
theorem RF.w {h H : MG} (k : RF h H) {c j : Nat} {v : Int32} (hc : c = 9 ∨ c = 10) : RF h (g_w H c j v) := ⟨fun x h1 h2 h3 => by rw [gw_ne (by omega)]; exact k.1 x h1 h2 h3, fun i hi => by rw [gw_ne (by omega)]; exact k.2 i hi⟩
theorem RF.t {h H : MG} (k : RF h H) {v : Int32} : RF h (g_w H 0 13 v) := ⟨fun x h1 h2 h3 => by rw [gw_ne h1]; exact k.1 x h1 h2 h3, fun i hi => by rw [gw_at, if_neg hi]; exact k.2 i hi⟩
/-- whether a number passes a test -/
def ps (x s m : Int32) : Bool := if s = 60 then decide (x < m) else if s = 62 then decide (m < x) else if s = 61 then decide (x = m) else !decide (x = m)
theorem tb_ps (x s m : Int32) : tb x x s m = if ps x s m = true then 2 else 0 := by
  have hab : aB x x m = decide (x = m) := by
    unfold aB
    rw [Bool.and_self]
    by_cases e : x = m
    · rw [decide_eq_true e, decide_eq_true e.symm]
    · rw [decide_eq_false e, decide_eq_false (fun q => e q.symm)]
  have hob : oB x x m = !decide (x = m) := by
    unfold oB
    by_cases e : x = m
    · subst e
      rw [decide_eq_false (fun q : x < x => by have := Int32.lt_iff_toInt_lt.mp q; omega), decide_eq_true rfl]
      rfl
    · rw [decide_eq_false e]
      have hne : ¬ x.toInt = m.toInt := fun q => e (Int32.toInt_inj.mp q)
      rcases (show x.toInt < m.toInt ∨ m.toInt < x.toInt by omega) with z | z
      · rw [decide_eq_true (Int32.lt_iff_toInt_lt.mpr z), Bool.or_true]; rfl
      · rw [decide_eq_true (Int32.lt_iff_toInt_lt.mpr z), Bool.true_or]; rfl
  unfold tb ps
  rw [hab, hob]
  by_cases h1 : s = 60
  · rw [if_pos h1, if_pos h1]
    cases decide (x < m) <;> rfl
  rw [if_neg h1, if_neg h1]
  by_cases h2 : s = 61
  · rw [if_pos h2, if_neg (show ¬ s = 62 by rw [h2]; decide), if_pos h2]
    cases decide (x = m) <;> rfl
  rw [if_neg h2]
  by_cases h3 : s = 62
  · rw [if_pos h3, if_pos h3]
    cases decide (m < x) <;> rfl
  rw [if_neg h3, if_neg h3, if_neg h2]
  cases decide (x = m) <;> rfl
def p1 (v : Fin 3) : Int32 := if v = 0 then 0 else 1
def p2 (v : Fin 3) : Int32 := if v = 2 then 1 else 0
section
variable {h : MG}
theorem r_passesTest (x s m : Int32) : m_X7_passesTest h x s m = some (if ps x s m = true then 1 else 0) := by
  unfold m_X7_passesTest ps
  by_cases h1 : s = 60
  · rw [if_pos h1, if_pos h1]
    by_cases e : m ≤ x
    · rw [if_pos e, decide_eq_false (Int32.not_lt.mpr e)]; rfl
    · rw [if_neg e, decide_eq_true (Int32.not_le.mp e)]; rfl
  rw [if_neg h1, if_neg h1]
  by_cases h2 : s = 62
  · rw [if_pos h2, if_pos h2]
    by_cases e : x ≤ m
    · rw [if_pos e, decide_eq_false (Int32.not_lt.mpr e)]; rfl
    · rw [if_neg e, decide_eq_true (Int32.not_le.mp e)]; rfl
  rw [if_neg h2, if_neg h2]
  by_cases h3 : s = 61
  · rw [if_pos h3, if_pos h3]
    by_cases e : x = m
    · rw [if_pos e, decide_eq_true e]; rfl
    · rw [if_neg e, decide_eq_false e]; rfl
  rw [if_neg h3, if_neg h3]
  by_cases e : x = m
  · rw [if_pos e, decide_eq_true e]; rfl
  · rw [if_neg e, decide_eq_false e]; rfl
theorem r_push {n : Nat} (h13 : h.1 0 13 = nI n) (hl : n < 120) (a b : Int32) : ∃ h', m_X7_push h a b = some h' ∧ RF h h' ∧ h'.1 0 13 = nI (n + 1) ∧ (∀ i, h'.1 9 i = if i = n then a else h.1 9 i) ∧ ∀ i, h'.1 10 i = if i = n then b else h.1 10 i := by
  have hv : vin (nI n) 120 := vin_nI hl (by omega)
  have hc : (nI n).toNatClampNeg = n := nI_clamp (by omega)
  have k1 : (g_w h 9 n a).1 0 13 = nI n := by rw [gw_ne (by omega), h13]
  have k2 : (g_w (g_w h 9 n a) 10 n b).1 0 13 = nI n := by rw [gw_ne (by omega), k1]
  have key : m_X7_push h a b = some (g_w (g_w (g_w h 9 n a) 10 n b) 0 13 (nI (n + 1))) := by
    unfold m_X7_push
    rw [h13, if_pos hv, hc, k1, if_pos hv, hc, k2, nI_1]
  refine ⟨_, key, (((RF.rf h).w (Or.inl rfl)).w (Or.inr rfl)).t, by rw [gw_at, if_pos rfl], fun i => ?_, fun i => ?_⟩
  · rw [gw_ne (by omega), gw_ne (by omega), gw_at]
  · rw [gw_ne (by omega), gw_at, gw_ne (by omega)]
/-- what a key, and a value if it is known, come to -/
def tR (x v k : Int32) : TAU := fun b s m => if b = true then (if ps x s m = true then 2 else 0) else if k = 0 then 1 else if ps v s m = true then 2 else 0
theorem tR_tC (x v k : Int32) : tR x v k = tC x x k v := by
  funext b s m
  unfold tR tC
  rw [tb_ps, tb_ps]
theorem iv_le1 (a b : Fin 3) : iv b ≤ iv a → iv (mx a b) = iv a ∧ iv (mn a b) = iv b := by revert a b; decide
theorem iv_le2 (a b : Fin 3) : ¬ iv b ≤ iv a → iv (mx a b) = iv b ∧ iv (mn a b) = iv a := by revert a b; decide
theorem r_J214 {kk : (Int32 × MG) → Option (Int32 × MG)} {x0 x1 x2 v4 : Int32} {j : Nat} (hj : j < 120) (a b : Fin 3) : m_X7_truth_J214 kk x0 x1 x2 v4 (iv a) (iv b) (nI j) 1 h = kk (v4 + 1, g_w h 9 j (iv (mn a b))) ∧ m_X7_truth_J214 kk x0 x1 x2 v4 (iv a) (iv b) (nI j) 0 h = kk (v4 + 1, g_w h 9 j (iv (mx a b))) := by
  have hv : vin (nI j) 120 := vin_nI hj (by omega)
  unfold m_X7_truth_J214
  by_cases e : iv b ≤ iv a
  · obtain ⟨k1, k2⟩ := iv_le1 a b e
    rw [if_pos e, if_pos e, k1, k2, if_neg (show ¬ (1 : Int32) = 0 by decide), if_pos hv, if_pos rfl, if_pos hv, nI_clamp (by omega)]
    exact ⟨rfl, rfl⟩
  · obtain ⟨k1, k2⟩ := iv_le2 a b e
    rw [if_neg e, if_neg e, k1, k2, if_pos rfl, if_pos hv, if_neg (show ¬ (0 : Int32) = 1 by decide), if_pos hv, nI_clamp (by omega)]
    exact ⟨rfl, rfl⟩
/-- an entry of the row is worked out -/
theorem r_sign {t : TK} {l : List TK} {vs v2 : List (Fin 3)} {x v k : Int32} (hl : l.length < 60) (h5 : h.1 5 l.length = t.1) (h6 : h.1 6 l.length = t.2.1) (h7 : h.1 7 l.length = t.2.2) (h13 : h.1 0 13 = nI vs.length) (hV : V1 iv (h.1 9) vs) (hvl : vs.length ≤ l.length) (hs : rst (tR x v k) t vs = some v2) : ∃ h', RF h h' ∧ h'.1 0 13 = nI v2.length ∧ V1 iv (h'.1 9) v2 ∧ ∀ kk : (Int32 × MG) → Option (Int32 × MG), ¬ h.1 0 8 ≤ nI l.length → m_X7_truth_L8 kk x v k (nI l.length) h = kk (nI (l.length + 1), h') := by
  have hv : vin (nI l.length) 120 := vin_nI (by omega) (by omega)
  have hc : (nI l.length).toNatClampNeg = l.length := nI_clamp (by omega)
  have k5 : h.1 5 (nI l.length).toNatClampNeg = t.1 := by rw [hc, h5]
  have k6 : h.1 6 (nI l.length).toNatClampNeg = t.2.1 := by rw [hc, h6]
  have k7 : h.1 7 (nI l.length).toNatClampNeg = t.2.2 := by rw [hc, h7]
  unfold rst at hs
  by_cases e5 : t.1 = 5
  · rw [if_pos e5] at hs
    cases hs
    obtain ⟨h', b1, b2, b3, b4, -⟩ := r_push h13 (by omega) (iv (tR x v k true t.2.1 t.2.2)) 0
    refine ⟨h', b2, b3, hV.up b4, fun kk hcond => ?_⟩
    unfold m_X7_truth_L8
    rw [if_neg hcond, if_pos hv, k5, if_pos e5, if_pos hv, if_pos hv, k6, k7, bnd_e (r_passesTest _ _ _), nI_1]
    unfold tR at b1
    rw [if_pos (rfl : true = true)] at b1
    by_cases e : ps x t.2.1 t.2.2 = true
    · rw [if_pos e] at b1
      rw [if_pos e, if_neg (by decide), show (2 : Int32) = iv 2 from rfl, bnd_e b1]
    · rw [if_neg e] at b1
      rw [if_neg e, if_pos rfl, bnd_e (show m_X7_push h 0 0 = some h' from b1)]
  rw [if_neg e5] at hs
  by_cases e6 : t.1 = 6
  · rw [if_pos e6] at hs
    cases hs
    obtain ⟨h', b1, b2, b3, b4, -⟩ := r_push h13 (by omega) (iv (tR x v k false t.2.1 t.2.2)) 0
    refine ⟨h', b2, b3, hV.up b4, fun kk hcond => ?_⟩
    unfold m_X7_truth_L8
    rw [if_neg hcond, if_pos hv, k5, if_neg e5, if_pos hv, if_pos e6]
    unfold tR at b1
    rw [if_neg Bool.false_ne_true] at b1
    by_cases ek : k = 0
    · rw [if_pos ek] at b1
      rw [if_pos ek, show m_X7_push h 1 0 = some h' from b1, bnd_e rfl, nI_1]
    · rw [if_neg ek] at b1
      rw [if_neg ek, if_pos hv, if_pos hv, k6, k7, bnd_e (r_passesTest _ _ _), nI_1]
      by_cases e : ps v t.2.1 t.2.2 = true
      · rw [if_pos e] at b1
        rw [if_pos e, if_neg (by decide), show (2 : Int32) = iv 2 from rfl, bnd_e b1]
      · rw [if_neg e] at b1
        rw [if_neg e, if_pos rfl, bnd_e (show m_X7_push h 0 0 = some h' from b1)]
  rw [if_neg e6] at hs
  by_cases e1 : t.1 = 1
  · rw [if_pos e1] at hs
    cases vs with
    | nil => cases hs
    | cons z r =>
      cases hs
      have h13 : h.1 0 13 = nI (r.length + 1) := h13
      rw [List.length_cons] at hvl
      have hv2 : vin (nI r.length) 120 := vin_nI (by omega) (by omega)
      have k9 : h.1 9 (nI r.length).toNatClampNeg = iv z := by rw [nI_clamp (by omega)]; exact hV.1
      refine ⟨g_w h 9 r.length (iv (ng z)), (RF.rf h).w (Or.inl rfl), by rw [gw_ne (by omega)]; exact h13, ⟨by rw [gw_at, if_pos rfl], hV.2.cong (fun i hi => by rw [gw_at, if_neg (by omega)])⟩, fun kk hcond => ?_⟩
      unfold m_X7_truth_L8
      rw [if_neg hcond, if_pos hv, k5, if_neg e5, if_pos hv, if_neg e6, if_pos hv, if_pos e1, h13, nI_pred, if_pos hv2, if_pos hv2, k9, iv_ng, nI_clamp (by omega), nI_1]
  rw [if_neg e1] at hs
  cases vs with
  | nil => cases hs
  | cons b r =>
    cases r with
    | nil => cases hs
    | cons a r =>
      cases hs
      have h13 : h.1 0 13 = nI (r.length + 1 + 1) := h13
      simp only [List.length_cons] at hvl
      have hv2 : vin (nI r.length) 120 := vin_nI (by omega) (by omega)
      have hv3 : vin (nI (r.length + 1)) 120 := vin_nI (by omega) (by omega)
      have m13 : (g_w h 0 13 (nI (r.length + 1))).1 0 13 = nI (r.length + 1) := by rw [gw_at, if_pos rfl]
      have m9 : (g_w h 0 13 (nI (r.length + 1))).1 9 = h.1 9 := gw_ne (by omega)
      have m5 : (g_w h 0 13 (nI (r.length + 1))).1 5 (nI l.length).toNatClampNeg = t.1 := by rw [gw_ne (by omega), k5]
      have ka : h.1 9 (nI r.length).toNatClampNeg = iv a := by rw [nI_clamp (by omega)]; exact hV.2.1
      have kb : h.1 9 (nI (r.length + 1)).toNatClampNeg = iv b := by rw [nI_clamp (by omega)]; exact hV.1
      refine ⟨g_w (g_w h 0 13 (nI (r.length + 1))) 9 r.length (iv (if t.1 = 2 then mn a b else mx a b)), (RF.rf h).t.w (Or.inl rfl), by rw [gw_ne (by omega), m13]; rfl, ⟨by rw [gw_at, if_pos rfl], hV.2.2.cong (fun i hi => by rw [gw_at, if_neg (by omega), m9])⟩, fun kk hcond => ?_⟩
      unfold m_X7_truth_L8
      rw [if_neg hcond, if_pos hv, k5, if_neg e5, if_pos hv, if_neg e6, if_pos hv, if_neg e1, h13, nI_pred, m13, nI_pred, if_pos hv2, if_pos hv3, if_pos hv, m5, m9, ka, kb]
      by_cases e2 : t.1 = 2
      · rw [if_pos e2, if_pos e2, (r_J214 (by omega) a b).1, nI_1]
      · rw [if_neg e2, if_neg e2, (r_J214 (by omega) a b).2, nI_1]
theorem r_truth {o : List TK} (h8 : h.1 0 8 = nI o.length) (ho : o.length ≤ 60) (hM : RowM (h.1 5) (h.1 6) (h.1 7) o) (x v k : Int32) {z : Fin 3} (he : evR (tR x v k) o = some [z]) : ∃ h', m_X7_truth h x v k = some (iv z, h') ∧ RF h h' := by
  unfold m_X7_truth
  have main : ∃ r, lpo (b_X7_truth_L8 x v k) fuelN ((0 : Int32), g_w h 0 13 (0 : Int32)) = some r ∧ r.1 = iv z ∧ RF h r.2 := by
    refine lpo_P (fun i X => ∃ G l p vs, p ++ l = o ∧ l.length = i ∧ evR (tR x v k) l = some vs ∧ X = (nI i, G) ∧ RF h G ∧ G.1 0 13 = nI vs.length ∧ V1 iv (G.1 9) vs) o.length _ 0 (by omega) (by omega) ⟨g_w h 0 13 (0 : Int32), [], o, [], List.append_nil o, rfl, rfl, rfl, (RF.rf h).t, by rw [gw_at, if_pos rfl]; rfl, trivial⟩ ?_ ?_
    · rintro i X hi ⟨G, l, p, vs, c1, rfl, c3, rfl, c5, c6, c7⟩
      right
      have hp : 0 < p.length := by
        have := congrArg List.length c1
        rw [List.length_append] at this
        omega
      obtain ⟨t, p', hp'⟩ := sfx_s p l hp
      have hp2 := hp'.trans c1
      have hT := hM
      rw [← hp2] at hT he
      have hT := hT.sfx
      obtain ⟨cs2, d1⟩ := evR_sfx he
      obtain ⟨c2, d2, d3⟩ := evR_ex d1
      rw [c3] at d2
      cases d2
      have hlen := evR_len c3
      obtain ⟨h', e1, e2, e3, e4⟩ := r_sign (h := G) (t := t) (l := l) (x := x) (v := v) (k := k) (by omega) (by rw [c5.1 5 (by omega) (by omega) (by omega)]; exact hT.1.1) (by rw [c5.1 6 (by omega) (by omega) (by omega)]; exact hT.1.2.1) (by rw [c5.1 7 (by omega) (by omega) (by omega)]; exact hT.1.2.2) c6 c7 hlen d3
      refine ⟨_, ⟨h', t :: l, p', cs2, hp2, rfl, d1, rfl, c5.tr e1, e2, e3⟩, fun kk => ?_⟩
      exact e4 kk (by rw [c5.2 8 (by omega), h8, nI_leI (by omega) (by omega)]; omega)
    · rintro X ⟨G, l, p, vs, c1, c2, c3, rfl, c5, c6, c7⟩ kk
      have hp : p = [] := by
        have := congrArg List.length c1
        rw [List.length_append] at this
        exact List.eq_nil_of_length_eq_zero (by omega)
      subst hp
      have c1 : l = o := c1
      subst c1
      rw [he] at c3
      cases c3
      refine ⟨(iv z, G), ?_, rfl, c5⟩
      simp only [b_X7_truth_L8, m_X7_truth_L8]
      rw [c5.2 8 (by omega), h8, if_pos (nI_le (Nat.le_refl _) (by omega)), if_pos (show vin (0 : Int32) 120 by decide), show (0 : Int32).toNatClampNeg = 0 by decide, show G.1 9 0 = iv z from c7.1]
  obtain ⟨⟨r1, r2⟩, m1, m2, m3⟩ := main
  simp only at m2
  subst m2
  exact ⟨r2, m1, m3⟩
/-! by bounds -/
theorem p_all {a b : Nat} (hab : a ≤ b) (hb : b < 1000) (s m : Int32) : (tb (nI a) (nI b) s m = 2 ↔ ∀ j, a ≤ j → j ≤ b → ps (nI j) s m = true) ∧ (tb (nI a) (nI b) s m = 0 ↔ ∀ j, a ≤ j → j ≤ b → ps (nI j) s m = false) := by
  have ta : (nI a).toInt = a := nI_toInt (by omega)
  have tb' : (nI b).toInt = b := nI_toInt (by omega)
  have tj : ∀ j, j ≤ b → (nI j).toInt = j := fun j hj => nI_toInt (by omega)
  have o2 : ∀ f a : Bool, (tO f a = 2 ↔ a = true) ∧ (tO f a = 0 ↔ a = false ∧ f = false) := by decide
  have eqm : ∀ j, j ≤ b → (nI j = m ↔ (j : Int) = m.toInt) := fun j hj => by
    rw [← tj j hj]
    exact Int32.toInt_inj.symm
  unfold tb ps
  by_cases h1 : s = 60
  · simp only [if_pos h1, (o2 _ _).1, (o2 _ _).2, decide_eq_true_eq, decide_eq_false_iff_not, Int32.lt_iff_toInt_lt]
    refine ⟨⟨fun h j h1 h2 => ?_, fun h => h b hab (Nat.le_refl _)⟩, ⟨fun h j h1 h2 => ?_, fun h => ⟨h b hab (Nat.le_refl _), h a (Nat.le_refl _) hab⟩⟩⟩
    · rw [tj j h2]; omega
    · rw [tj j h2]; omega
  by_cases h2 : s = 61
  · have n62 : ¬ s = 62 := by rw [h2]; decide
    simp only [if_neg h1, if_pos h2, if_neg n62, (o2 _ _).1, (o2 _ _).2, oB, aB, Bool.not_eq_false', Bool.and_eq_true, Bool.or_eq_true, Bool.and_eq_false_iff, decide_eq_true_eq, decide_eq_false_iff_not, Int32.lt_iff_toInt_lt]
    refine ⟨⟨fun h j h1 h2 => ?_, fun h => ?_⟩, ⟨fun h j h1 h2 => ?_, fun h => ?_⟩⟩
    · rw [eqm j h2]
      have e1 := (eqm a hab).mp h.1.symm
      have e2 := (eqm b (Nat.le_refl _)).mp h.2.symm
      omega
    · exact ⟨(h a (Nat.le_refl _) hab).symm, (h b hab (Nat.le_refl _)).symm⟩
    · rw [eqm j h2]
      have := h.2
      omega
    · have ea := h a (Nat.le_refl _) hab
      have ho : m.toInt < (nI a).toInt ∨ (nI b).toInt < m.toInt := by
        rw [ta, tb']
        refine Classical.byContradiction (fun hn => ?_)
        have h3 := h m.toInt.toNat (by omega) (by omega)
        rw [eqm _ (by omega)] at h3
        omega
      exact ⟨Or.inl (fun q => ea q.symm), ho⟩
  by_cases h3 : s = 62
  · simp only [if_neg h1, if_neg h2, if_pos h3, (o2 _ _).1, (o2 _ _).2, decide_eq_true_eq, decide_eq_false_iff_not, Int32.lt_iff_toInt_lt]
    refine ⟨⟨fun h j h1 h2 => ?_, fun h => h a (Nat.le_refl _) hab⟩, ⟨fun h j h1 h2 => ?_, fun h => ⟨h a (Nat.le_refl _) hab, h b hab (Nat.le_refl _)⟩⟩⟩
    · rw [tj j h2]; omega
    · rw [tj j h2]; omega
  · simp only [if_neg h1, if_neg h2, if_neg h3, (o2 _ _).1, (o2 _ _).2, oB, aB, Bool.not_eq_false', Bool.not_eq_true', Bool.and_eq_true, Bool.or_eq_true, Bool.or_eq_false_iff, decide_eq_true_eq, decide_eq_false_iff_not, Int32.lt_iff_toInt_lt]
    refine ⟨⟨fun h j h1 h2 => ?_, fun h => ?_⟩, ⟨fun h j h1 h2 => ?_, fun h => ?_⟩⟩
    · rw [eqm j h2]
      omega
    · rw [ta, tb']
      refine Classical.byContradiction (fun hn => ?_)
      have h3 := h m.toInt.toNat (by omega) (by omega)
      rw [eqm _ (by omega)] at h3
      omega
    · rw [eqm j h2]
      have e1 := (eqm a hab).mp h.2.1.symm
      have e2 := (eqm b (Nat.le_refl _)).mp h.2.2.symm
      omega
    · have ea := h a (Nat.le_refl _) hab
      have eb := h b hab (Nat.le_refl _)
      have ea' := (eqm a hab).mp ea
      have eb' := (eqm b (Nat.le_refl _)).mp eb
      exact ⟨⟨by rw [ta]; omega, by rw [tb']; omega⟩, ea.symm, eb.symm⟩
theorem cn_full {p : Nat → Bool} : ∀ {n : Nat}, cn p n = n ↔ ∀ i, i < n → p i = true
  | 0 => ⟨fun _ i hi => absurd hi (Nat.not_lt_zero i), fun _ => rfl⟩
  | n + 1 => by
    have hle := cn_le p n
    constructor
    · intro h i hi
      cases hp : p n with
      | false => rw [cn_n hp] at h; omega
      | true =>
        rw [cn_s hp] at h
        have h2 := cn_full.mp (show cn p n = n by omega)
        rcases Nat.lt_or_ge i n with a | a
        · exact h2 i a
        · rw [show i = n by omega]; exact hp
    · intro h
      rw [cn_s (h n (Nat.lt_succ_self n)), cn_full.mpr (fun i hi => h i (by omega))]
theorem cn_none {p : Nat → Bool} {n : Nat} : cn p n = 0 ↔ ∀ i, i < n → p i = false := by
  constructor
  · intro h i hi
    rw [Bool.eq_false_iff]
    intro hp
    have := cn_pos hi hp
    omega
  · exact cn_0
theorem r_passing {a b : Nat} (hab : a ≤ b) (hb : b < 1000) (s m : Int32) : ∃ c, m_X7_passing h (nI a) (nI b) s m = some c ∧ (c ≤ 0 ↔ tb (nI a) (nI b) s m = 0) ∧ (c = nI b - nI a + 1 ↔ tb (nI a) (nI b) s m = 2) := by
  have hL : nI b - nI a + (1 : Int32) = nI (b - a + 1) := by rw [pk_sub hab, nI_1]
  have hcn := cn_le (fun j => ps (nI (a + j)) s m) (b - a + 1)
  refine ⟨nI (cn (fun j => ps (nI (a + j)) s m) (b - a + 1)), ?_, ?_, ?_⟩
  · unfold m_X7_passing
    refine lpo_eq (fun i X => X = (nI (cn (fun j => ps (nI (a + j)) s m) i), nI (a + i))) (b - a + 1) (by omega) rfl ?_ ?_
    · rintro i X hi rfl
      right
      have hcond : ¬ nI b < nI (a + i) := nI_nlt (by omega) (by omega)
      cases hp : ps (nI (a + i)) s m with
      | true =>
        refine ⟨_, rfl, fun k => ?_⟩
        simp only [b_X7_passing_L6, m_X7_passing_L6]
        rw [if_neg hcond, bnd_e (r_passesTest _ _ _), if_pos hp, if_neg (by decide), cn_s (p := fun j => ps (nI (a + j)) s m) hp, nI_1, nI_1]
        rfl
      | false =>
        refine ⟨_, rfl, fun k => ?_⟩
        simp only [b_X7_passing_L6, m_X7_passing_L6]
        rw [if_neg hcond, bnd_e (r_passesTest _ _ _), hp, if_neg Bool.false_ne_true, if_pos rfl, cn_n (p := fun j => ps (nI (a + j)) s m) hp, nI_z, nI_1]
        rfl
    · rintro X rfl k
      simp only [b_X7_passing_L6, m_X7_passing_L6]
      rw [if_pos (nI_lt (by omega) (by omega))]
  · rw [nI_le0 (by omega), cn_none, (p_all hab hb s m).2]
    constructor
    · intro h j h1 h2
      have := h (j - a) (by omega)
      simp only [show a + (j - a) = j by omega] at this
      exact this
    · intro h i hi
      exact h (a + i) (by omega) (by omega)
  · rw [hL, nI_eq (by omega) (by omega), cn_full, (p_all hab hb s m).1]
    constructor
    · intro h j h1 h2
      have := h (j - a) (by omega)
      simp only [show a + (j - a) = j by omega] at this
      exact this
    · intro h i hi
      exact h (a + i) (by omega) (by omega)
theorem p1_ng (x : Fin 3) : (1 : Int32) - p2 x = p1 (ng x) := by revert x; decide
theorem p2_ng (x : Fin 3) : (1 : Int32) - p1 x = p2 (ng x) := by revert x; decide
theorem p_and (a b : Fin 3) : p1 a &&& p1 b = p1 (mn a b) ∧ p2 a &&& p2 b = p2 (mn a b) := by revert a b; decide
theorem p_or (a b : Fin 3) : p1 a ||| p1 b = p1 (mx a b) ∧ p2 a ||| p2 b = p2 (mx a b) := by revert a b; decide
theorem r_J55 {kk : (Int32 × MG) → Option (Int32 × MG)} {n : Nat} (h13 : h.1 0 13 = nI n) (hl : n < 120) {lo hi v3 v4 : Int32} {v : Fin 3} (hc : v4 = hi - lo + 1 ↔ v = 2) (w : Int32) : m_X7_canHold_J55 kk lo hi v3 v4 w h = bnd (m_X7_push h w (p2 v)) fun g70 => kk (v3 + 1, g70) := by
  unfold m_X7_canHold_J55 p2
  by_cases e : v = 2
  · rw [if_pos (hc.mpr e), if_pos e]
  · rw [if_neg (fun q => e (hc.mp q)), if_neg e]
/-- an entry of the row is worked out for keys from one to another -/
theorem r_signH {t : TK} {l : List TK} {vs v2 : List (Fin 3)} {a0 b0 : Nat} (hab : a0 ≤ b0) (hb0 : b0 < 1000) (hl : l.length < 60) (h5 : h.1 5 l.length = t.1) (h6 : h.1 6 l.length = t.2.1) (h7 : h.1 7 l.length = t.2.2) (h13 : h.1 0 13 = nI vs.length) (hV : V1 p1 (h.1 9) vs) (hW : V1 p2 (h.1 10) vs) (hvl : vs.length ≤ l.length) (hs : rst (tC (nI a0) (nI b0) 0 0) t vs = some v2) : ∃ h', RF h h' ∧ h'.1 0 13 = nI v2.length ∧ V1 p1 (h'.1 9) v2 ∧ V1 p2 (h'.1 10) v2 ∧ ∀ kk : (Int32 × MG) → Option (Int32 × MG), ¬ h.1 0 8 ≤ nI l.length → m_X7_canHold_L7 kk (nI a0) (nI b0) (nI l.length) h = kk (nI (l.length + 1), h') := by
  have hv : vin (nI l.length) 120 := vin_nI (by omega) (by omega)
  have hc : (nI l.length).toNatClampNeg = l.length := nI_clamp (by omega)
  have k5 : h.1 5 (nI l.length).toNatClampNeg = t.1 := by rw [hc, h5]
  have k6 : h.1 6 (nI l.length).toNatClampNeg = t.2.1 := by rw [hc, h6]
  have k7 : h.1 7 (nI l.length).toNatClampNeg = t.2.2 := by rw [hc, h7]
  unfold rst at hs
  by_cases e5 : t.1 = 5
  · rw [if_pos e5] at hs
    cases hs
    obtain ⟨c, d1, d2, d3⟩ := r_passing (h := h) hab hb0 t.2.1 t.2.2
    have ht : tC (nI a0) (nI b0) 0 0 true t.2.1 t.2.2 = tb (nI a0) (nI b0) t.2.1 t.2.2 := by unfold tC; rw [if_pos rfl]
    rw [ht]
    obtain ⟨h', b1, b2, b3, b4, b5⟩ := r_push h13 (by omega) (p1 (tb (nI a0) (nI b0) t.2.1 t.2.2)) (p2 (tb (nI a0) (nI b0) t.2.1 t.2.2))
    refine ⟨h', b2, b3, hV.up b4, hW.up b5, fun kk hcond => ?_⟩
    unfold m_X7_canHold_L7
    rw [if_neg hcond, if_pos hv, k5, if_pos e5, if_pos hv, if_pos hv, k6, k7, bnd_e d1]
    have b1' := b1
    unfold p1 at b1'
    by_cases e : tb (nI a0) (nI b0) t.2.1 t.2.2 = 0
    · rw [if_pos e] at b1'
      rw [if_pos (d2.mpr e), r_J55 h13 (by omega) d3, bnd_e b1', nI_1]
    · rw [if_neg e] at b1'
      rw [if_neg (fun q => e (d2.mp q)), r_J55 h13 (by omega) d3, bnd_e b1', nI_1]
  rw [if_neg e5] at hs
  by_cases e6 : t.1 = 6
  · rw [if_pos e6] at hs
    cases hs
    have ht : tC (nI a0) (nI b0) 0 0 false t.2.1 t.2.2 = 1 := by unfold tC; rw [if_neg Bool.false_ne_true, if_pos rfl]
    rw [ht]
    obtain ⟨h', b1, b2, b3, b4, b5⟩ := r_push h13 (by omega) (p1 1) (p2 1)
    refine ⟨h', b2, b3, hV.up b4, hW.up b5, fun kk hcond => ?_⟩
    unfold m_X7_canHold_L7
    rw [if_neg hcond, if_pos hv, k5, if_neg e5, if_pos hv, if_pos e6, show m_X7_push h 1 0 = some h' from b1, bnd_e rfl, nI_1]
  rw [if_neg e6] at hs
  by_cases e1 : t.1 = 1
  · rw [if_pos e1] at hs
    cases vs with
    | nil => cases hs
    | cons z r =>
      cases hs
      have h13 : h.1 0 13 = nI (r.length + 1) := h13
      rw [List.length_cons] at hvl
      have hv2 : vin (nI r.length) 120 := vin_nI (by omega) (by omega)
      have hcr : (nI r.length).toNatClampNeg = r.length := nI_clamp (by omega)
      have k9 : h.1 9 (nI r.length).toNatClampNeg = p1 z := by rw [hcr]; exact hV.1
      have k10 : h.1 10 (nI r.length).toNatClampNeg = p2 z := by rw [hcr]; exact hW.1
      have m13 : (g_w h 9 (nI r.length).toNatClampNeg (p1 (ng z))).1 0 13 = nI (r.length + 1) := by rw [gw_ne (by omega), h13]
      refine ⟨g_w (g_w h 9 r.length (p1 (ng z))) 10 r.length (p2 (ng z)), ((RF.rf h).w (Or.inl rfl)).w (Or.inr rfl), by rw [gw_ne (by omega), gw_ne (by omega)]; exact h13, ⟨by rw [gw_ne (by omega), gw_at, if_pos rfl], hV.2.cong (fun i hi => by rw [gw_ne (by omega), gw_at, if_neg (by omega)])⟩, ⟨by rw [gw_at, if_pos rfl], hW.2.cong (fun i hi => by rw [gw_at, if_neg (by omega), gw_ne (by omega)])⟩, fun kk hcond => ?_⟩
      unfold m_X7_canHold_L7
      rw [if_neg hcond, if_pos hv, k5, if_neg e5, if_pos hv, if_neg e6, if_pos hv, if_pos e1, h13, nI_pred, if_pos hv2, if_pos hv2, if_pos hv2, k9, k10, p1_ng, p2_ng, m13, nI_pred, if_pos hv2, hcr, nI_1]
  rw [if_neg e1] at hs
  cases vs with
  | nil => cases hs
  | cons b r =>
    cases r with
    | nil => cases hs
    | cons a r =>
      cases hs
      have h13 : h.1 0 13 = nI (r.length + 1 + 1) := h13
      simp only [List.length_cons] at hvl
      have hv2 : vin (nI r.length) 120 := vin_nI (by omega) (by omega)
      have hv3 : vin (nI (r.length + 1)) 120 := vin_nI (by omega) (by omega)
      have hcr : (nI r.length).toNatClampNeg = r.length := nI_clamp (by omega)
      have hcs : (nI (r.length + 1)).toNatClampNeg = r.length + 1 := nI_clamp (by omega)
      have m13 : (g_w h 0 13 (nI (r.length + 1))).1 0 13 = nI (r.length + 1) := by rw [gw_at, if_pos rfl]
      have m9 : (g_w h 0 13 (nI (r.length + 1))).1 9 = h.1 9 := gw_ne (by omega)
      have m5 : (g_w h 0 13 (nI (r.length + 1))).1 5 (nI l.length).toNatClampNeg = t.1 := by rw [gw_ne (by omega), k5]
      have ka : h.1 9 (nI r.length).toNatClampNeg = p1 a := by rw [hcr]; exact hV.2.1
      have kb : h.1 9 (nI (r.length + 1)).toNatClampNeg = p1 b := by rw [hcs]; exact hV.1
      have j236 : ∀ (kk : (Int32 × MG) → Option (Int32 × MG)) (w2 : Int32), m_X7_canHold_J236 kk (nI a0) (nI b0) (nI l.length) (nI r.length) w2 (g_w h 0 13 (nI (r.length + 1))) = kk (nI (l.length + 1), g_w (g_w (g_w h 0 13 (nI (r.length + 1))) 9 r.length w2) 10 r.length (if t.1 = 2 then p2 a &&& p2 b else p2 a ||| p2 b)) := fun kk w2 => by
        have n5 : (g_w (g_w h 0 13 (nI (r.length + 1))) 9 r.length w2).1 5 (nI l.length).toNatClampNeg = t.1 := by rw [gw_ne (by omega), m5]
        have n13 : (g_w (g_w h 0 13 (nI (r.length + 1))) 9 r.length w2).1 0 13 = nI (r.length + 1) := by rw [gw_ne (by omega), m13]
        have na : (g_w (g_w h 0 13 (nI (r.length + 1))) 9 r.length w2).1 10 (nI r.length).toNatClampNeg = p2 a := by rw [gw_ne (by omega), gw_ne (by omega), hcr]; exact hW.2.1
        have nb : (g_w (g_w h 0 13 (nI (r.length + 1))) 9 r.length w2).1 10 (nI (r.length + 1)).toNatClampNeg = p2 b := by rw [gw_ne (by omega), gw_ne (by omega), hcs]; exact hW.1
        unfold m_X7_canHold_J236
        rw [if_pos hv2, if_pos hv, hcr, n5, n13, nI_pred, nI_1]
        by_cases e2 : t.1 = 2
        · rw [if_pos e2, if_pos hv2, if_pos hv3, if_pos hv2, na, nb, hcr, if_pos e2]
        · rw [if_neg e2, if_pos hv2, if_pos hv3, if_pos hv2, na, nb, hcr, if_neg e2]
      refine ⟨g_w (g_w (g_w h 0 13 (nI (r.length + 1))) 9 r.length (p1 (if t.1 = 2 then mn a b else mx a b))) 10 r.length (p2 (if t.1 = 2 then mn a b else mx a b)), ((RF.rf h).t.w (Or.inl rfl)).w (Or.inr rfl), by rw [gw_ne (by omega), gw_ne (by omega), m13]; rfl, ⟨by rw [gw_ne (by omega), gw_at, if_pos rfl], hV.2.2.cong (fun i hi => by rw [gw_ne (by omega), gw_at, if_neg (by omega), m9])⟩, ⟨by rw [gw_at, if_pos rfl], hW.2.2.cong (fun i hi => by rw [gw_at, if_neg (by omega), gw_ne (by omega), gw_ne (by omega)])⟩, fun kk hcond => ?_⟩
      unfold m_X7_canHold_L7
      rw [if_neg hcond, if_pos hv, k5, if_neg e5, if_pos hv, if_neg e6, if_pos hv, if_neg e1, if_pos hv, h13, nI_pred, m5, m13, nI_pred, m9]
      by_cases e2 : t.1 = 2
      · rw [if_pos e2, if_pos hv2, if_pos hv3, ka, kb, (p_and a b).1, j236, if_pos e2, (p_and a b).2, if_pos e2]
      · rw [if_neg e2, if_pos hv2, if_pos hv3, ka, kb, (p_or a b).1, j236, if_neg e2, (p_or a b).2, if_neg e2]
theorem r_canHold {o : List TK} (h8 : h.1 0 8 = nI o.length) (ho : o.length ≤ 60) (hM : RowM (h.1 5) (h.1 6) (h.1 7) o) {a0 b0 : Nat} (hab : a0 ≤ b0) (hb0 : b0 < 1000) {z : Fin 3} (he : evR (tC (nI a0) (nI b0) 0 0) o = some [z]) : ∃ h', m_X7_canHold h (nI a0) (nI b0) = some (p1 z, h') ∧ RF h h' := by
  unfold m_X7_canHold
  have main : ∃ r, lpo (b_X7_canHold_L7 (nI a0) (nI b0)) fuelN ((0 : Int32), g_w h 0 13 (0 : Int32)) = some r ∧ r.1 = p1 z ∧ RF h r.2 := by
    refine lpo_P (fun i X => ∃ G l p vs, p ++ l = o ∧ l.length = i ∧ evR (tC (nI a0) (nI b0) 0 0) l = some vs ∧ X = (nI i, G) ∧ RF h G ∧ G.1 0 13 = nI vs.length ∧ V1 p1 (G.1 9) vs ∧ V1 p2 (G.1 10) vs) o.length _ 0 (by omega) (by omega) ⟨g_w h 0 13 (0 : Int32), [], o, [], List.append_nil o, rfl, rfl, rfl, (RF.rf h).t, by rw [gw_at, if_pos rfl]; rfl, trivial, trivial⟩ ?_ ?_
    · rintro i X hi ⟨G, l, p, vs, c1, rfl, c3, rfl, c5, c6, c7, c8⟩
      right
      have hp : 0 < p.length := by
        have := congrArg List.length c1
        rw [List.length_append] at this
        omega
      obtain ⟨t, p', hp'⟩ := sfx_s p l hp
      have hp2 := hp'.trans c1
      have hT := hM
      rw [← hp2] at hT he
      have hT := hT.sfx
      obtain ⟨cs2, d1⟩ := evR_sfx he
      obtain ⟨c2, d2, d3⟩ := evR_ex d1
      rw [c3] at d2
      cases d2
      have hlen := evR_len c3
      obtain ⟨h', e1, e2, e3, e3', e4⟩ := r_signH (h := G) (t := t) (l := l) hab hb0 (by omega) (by rw [c5.1 5 (by omega) (by omega) (by omega)]; exact hT.1.1) (by rw [c5.1 6 (by omega) (by omega) (by omega)]; exact hT.1.2.1) (by rw [c5.1 7 (by omega) (by omega) (by omega)]; exact hT.1.2.2) c6 c7 c8 hlen d3
      refine ⟨_, ⟨h', t :: l, p', cs2, hp2, rfl, d1, rfl, c5.tr e1, e2, e3, e3'⟩, fun kk => ?_⟩
      exact e4 kk (by rw [c5.2 8 (by omega), h8, nI_leI (by omega) (by omega)]; omega)
    · rintro X ⟨G, l, p, vs, c1, c2, c3, rfl, c5, c6, c7, c8⟩ kk
      have hp : p = [] := by
        have := congrArg List.length c1
        rw [List.length_append] at this
        exact List.eq_nil_of_length_eq_zero (by omega)
      subst hp
      have c1 : l = o := c1
      subst c1
      rw [he] at c3
      cases c3
      refine ⟨(p1 z, G), ?_, rfl, c5⟩
      simp only [b_X7_canHold_L7, m_X7_canHold_L7]
      rw [c5.2 8 (by omega), h8, if_pos (nI_le (Nat.le_refl _) (by omega)), if_pos (show vin (0 : Int32) 120 by decide), show (0 : Int32).toNatClampNeg = 0 by decide, show G.1 9 0 = p1 z from c7.1]
      have : ∀ z : Fin 3, (if p1 z = 1 then some ((1 : Int32), G) else some ((0 : Int32), G)) = some (p1 z, G) := fun z => by
        by_cases e : p1 z = 1
        · rw [if_pos e, e]
        · rw [if_neg e]
          have : p1 z = 0 := by revert e; revert z; decide
          rw [this]
      exact this z
  obtain ⟨⟨r1, r2⟩, m1, m2, m3⟩ := main
  simp only at m2
  subst m2
  exact ⟨r2, m1, m3⟩
end
