/-! what a question comes to: the class -/
theorem sfx_s {α : Type} : ∀ (p l : List α), 0 < p.length → ∃ t p', p' ++ t :: l = p ++ l
  | [], _, h => absurd h (Nat.lt_irrefl 0)
  | [t], l, _ => ⟨t, [], rfl⟩
  | a :: b :: p, l, _ => by
    obtain ⟨t, p', h⟩ := sfx_s (b :: p) l (Nat.succ_pos _)
    exact ⟨t, a :: p', by rw [List.cons_append, h]; rfl⟩
theorem TkF.sfx {K S M : Nat → Int32} : ∀ {p l : List TK}, TkF K S M (p ++ l) → TkF K S M l
  | [], _, h => h
  | _ :: p, _, h => TkF.sfx (p := p) h.2
theorem evC_ex {τ : TAU} {t : TK} {r : List TK} {cs : List CL} (h : evC τ (t :: r) = some cs) : ∃ c2, evC τ r = some c2 ∧ cstp τ t c2 = some cs := by
  have h' : (evC τ r).bind (cstp τ t) = some cs := h
  cases e : evC τ r with
  | none => rw [e] at h'; cases h'
  | some c2 =>
    rw [e] at h'
    exact ⟨c2, rfl, h'⟩
theorem evC_sfx {τ : TAU} : ∀ {p l : List TK} {cs : List CL}, evC τ (p ++ l) = some cs → ∃ c2, evC τ l = some c2
  | [], _, cs, h => ⟨cs, h⟩
  | _ :: p, _, _, h => by
    obtain ⟨c2, h2, -⟩ := evC_ex h
    exact evC_sfx (p := p) h2
theorem cAdd_len {v : Fin 3} : ∀ {cs c2 : List CL}, cAdd v cs = some c2 → c2.length = cs.length ∧ 1 ≤ c2.length
  | [], _, h => by cases h
  | _ :: _, _, h => by cases h; exact ⟨rfl, Nat.succ_pos _⟩
theorem cstp_len {τ : TAU} {t : TK} {cs c2 : List CL} (h : cstp τ t cs = some c2) (h1 : 1 ≤ cs.length ∧ cs.length ≤ 6) : 1 ≤ c2.length ∧ c2.length ≤ 6 := by
  unfold cstp at h
  split at h
  · cases cs with
    | nil => cases h
    | cons z r => cases h; exact h1
  split at h
  · split at h
    · cases h
      rw [List.length_cons]
      omega
    · cases h
  split at h
  · cases cs with
    | nil => cases h
    | cons z r =>
      cases r with
      | nil => cases h
      | cons y r =>
        have := cAdd_len (cs := y :: r) (v := mx z.1 z.2.1) h
        simp only [List.length_cons] at this h1
        omega
  split at h
  · have := cAdd_len h
    omega
  split at h
  · have := cAdd_len h
    omega
  split at h
  · cases cs with
    | nil => cases h
    | cons z r => cases h; exact h1
  · cases h; exact h1
theorem evC_len {τ : TAU} : ∀ {l : List TK} {cs : List CL}, evC τ l = some cs → 1 ≤ cs.length ∧ cs.length ≤ 6
  | [], cs, h => by cases h; exact ⟨by decide, by decide⟩
  | t :: r, cs, h => by
    obtain ⟨c2, h1, h2⟩ := evC_ex h
    exact cstp_len h2 (evC_len h1)
/-! the depths in the class' cells -/
def tv (b : Bool) : Int32 := if b = true then 1 else 0
def CM (f15 f17 f19 : Nat → Int32) : List CL → Prop
  | [] => True
  | z :: r => (f15 r.length = iv z.1 ∧ f17 r.length = iv z.2.1 ∧ f19 r.length = tv z.2.2) ∧ CM f15 f17 f19 r
theorem CM.cong {f15 f17 f19 e15 e17 e19 : Nat → Int32} : ∀ {cs : List CL}, CM f15 f17 f19 cs → (∀ i, i < cs.length → e15 i = f15 i ∧ e17 i = f17 i ∧ e19 i = f19 i) → CM e15 e17 e19 cs
  | [], _, _ => trivial
  | z :: r, h, e => by
    obtain ⟨⟨h1, h2, h3⟩, h4⟩ := h
    have e0 := e r.length (Nat.lt_succ_self _)
    exact ⟨⟨e0.1.trans h1, e0.2.1.trans h2, e0.2.2.trans h3⟩, h4.cong (fun i hi => e i (Nat.lt_succ_of_lt hi))⟩
def CF (g g' : MG) : Prop := g'.2 = g.2 ∧ ∀ c, c ≠ 15 → c ≠ 17 → c ≠ 19 → g'.1 c = g.1 c
theorem CF.rf (g : MG) : CF g g := ⟨rfl, fun _ _ _ _ => rfl⟩
theorem CF.tr {a b d : MG} (h : CF a b) (h' : CF b d) : CF a d := ⟨h'.1.trans h.1, fun c h1 h2 h3 => (h'.2 c h1 h2 h3).trans (h.2 c h1 h2 h3)⟩
theorem CF.w {g G : MG} (h : CF g G) {c j : Nat} {v : Int32} (hc : c = 15 ∨ c = 17 ∨ c = 19) : CF g (g_w G c j v) := ⟨h.1, fun x h1 h2 h3 => by rw [gw_ne (by omega)]; exact h.2 x h1 h2 h3⟩
abbrev CMg (g : MG) (cs : List CL) : Prop := CM (g.1 15) (g.1 17) (g.1 19) cs
theorem iv_mn (a b : Fin 3) : (if iv b < iv a then iv b else iv a) = iv (mn a b) := by revert a b; decide
theorem iv_mx (a b : Fin 3) : (if iv a < iv b then iv b else iv a) = iv (mx a b) := by revert a b; decide
theorem iv_ng (a : Fin 3) : (2 : Int32) - iv a = iv (ng a) := by revert a; decide
theorem tv_not (b : Bool) : (1 : Int32) - tv b = tv (!b) := by revert b; decide
theorem tv_1 (b : Bool) : tv b = 1 ↔ b = true := by revert b; decide
section
variable {g : MG} {z y : CL} {r : List CL}
/-- one depth is written -/
theorem cm_top (hM : CMg g (y :: r)) {a b d : Int32} {z : CL} (ha : a = iv z.1) (hb : b = iv z.2.1) (hd : d = tv z.2.2) : CMg (g_w (g_w (g_w g 15 r.length a) 17 r.length b) 19 r.length d) (z :: r) := by
  refine ⟨⟨?_, ?_, ?_⟩, hM.2.cong (fun i hi => ⟨?_, ?_, ?_⟩)⟩
  · rw [gw_ne (by omega), gw_ne (by omega), gw_at, if_pos rfl, ha]
  · rw [gw_ne (by omega), gw_at, if_pos rfl, hb]
  · rw [gw_at, if_pos rfl, hd]
  · rw [gw_ne (by omega), gw_ne (by omega), gw_at, if_neg (by omega)]
  · rw [gw_ne (by omega), gw_at, if_neg (by omega), gw_ne (by omega)]
  · rw [gw_at, if_neg (by omega), gw_ne (by omega), gw_ne (by omega)]
theorem e_at' {g : MG} {k n j : Nat} (hj : j < n) (hn : n ≤ 6000) {v : Int32} (h : g.1 k j = v) : m_X0_at g k n (nI j) = some v := by rw [e_at hj hn, h]
theorem c_startDepth (hM : CMg g r) (hl : r.length < 6) : ∃ g', m_X2_startDepth g (nI r.length) = some g' ∧ CF g g' ∧ CMg g' ((0, 2, false) :: r) := by
  unfold m_X2_startDepth
  rw [bnd_e (e_wr hl (by omega)), bnd_e (e_wr hl (by omega)), bnd_e (e_wr hl (by omega))]
  refine ⟨_, rfl, (((CF.rf g).w (Or.inl rfl)).w (Or.inr (Or.inl rfl))).w (Or.inr (Or.inr rfl)), ⟨⟨?_, ?_, ?_⟩, hM.cong (fun i hi => ⟨?_, ?_, ?_⟩)⟩⟩
  · rw [gw_ne (by omega), gw_ne (by omega), gw_at, if_pos rfl]; rfl
  · rw [gw_ne (by omega), gw_at, if_pos rfl]; rfl
  · rw [gw_at, if_pos rfl]; rfl
  · rw [gw_ne (by omega), gw_ne (by omega), gw_at, if_neg (by omega)]
  · rw [gw_ne (by omega), gw_at, if_neg (by omega), gw_ne (by omega)]
  · rw [gw_at, if_neg (by omega), gw_ne (by omega), gw_ne (by omega)]
theorem c_addTruth (hM : CMg g (z :: r)) (hl : r.length < 6) (v : Fin 3) : ∃ g', m_X2_addTruth g (nI r.length) (iv v) = some g' ∧ CF g g' ∧ CMg g' ((z.1, mn z.2.1 (if z.2.2 = true then ng v else v), false) :: r) := by
  obtain ⟨⟨h1, h2, h3⟩, h4⟩ := hM
  have key : ∀ x : Fin 3, x = (if z.2.2 = true then ng v else v) → ∃ g', (bnd (m_X0_at g 17 6 (nI r.length)) fun (r30 : Int32) => bnd (m_X0_write g 17 6 (nI r.length) (if iv x < r30 then iv x else r30)) fun (g37 : MG) => bnd (m_X0_write g37 19 6 (nI r.length) (0 : Int32)) fun (g46 : MG) => some g46) = some g' ∧ CF g g' ∧ CMg g' ((z.1, mn z.2.1 (if z.2.2 = true then ng v else v), false) :: r) := fun x hx => by
    rw [bnd_e (e_at' hl (by omega) h2), iv_mn, bnd_e (e_wr hl (by omega)), bnd_e (e_wr hl (by omega))]
    refine ⟨_, rfl, ((CF.rf g).w (Or.inr (Or.inl rfl))).w (Or.inr (Or.inr rfl)), ⟨⟨?_, ?_, ?_⟩, h4.cong (fun i hi => ⟨?_, ?_, ?_⟩)⟩⟩
    · rw [gw_ne (by omega), gw_ne (by omega)]; exact h1
    · rw [gw_ne (by omega), gw_at, if_pos rfl, hx]
    · rw [gw_at, if_pos rfl]; rfl
    · rw [gw_ne (by omega), gw_ne (by omega)]
    · rw [gw_ne (by omega), gw_at, if_neg (by omega)]
    · rw [gw_at, if_neg (by omega), gw_ne (by omega)]
  unfold m_X2_addTruth
  rw [bnd_e (e_at' hl (by omega) h3)]
  by_cases e : z.2.2 = true
  · rw [if_pos ((tv_1 _).mpr e), iv_ng]
    exact key (ng v) (by rw [if_pos e])
  · rw [if_neg (fun q => e ((tv_1 _).mp q))]
    exact key v (by rw [if_neg e])
theorem c_endPart (hM : CMg g (z :: r)) (hl : r.length < 6) : ∃ g', m_X2_endPart g (nI r.length) = some g' ∧ CF g g' ∧ CMg g' ((mx z.1 z.2.1, 2, z.2.2) :: r) := by
  obtain ⟨⟨h1, h2, h3⟩, h4⟩ := hM
  unfold m_X2_endPart
  rw [bnd_e (e_at' hl (by omega) h1), bnd_e (e_at' hl (by omega) h2), iv_mx, bnd_e (e_wr hl (by omega)), bnd_e (e_wr hl (by omega))]
  refine ⟨_, rfl, ((CF.rf g).w (Or.inl rfl)).w (Or.inr (Or.inl rfl)), ⟨⟨?_, ?_, ?_⟩, h4.cong (fun i hi => ⟨?_, ?_, ?_⟩)⟩⟩
  · rw [gw_ne (by omega), gw_at, if_pos rfl]
  · rw [gw_at, if_pos rfl]; rfl
  · rw [gw_ne (by omega), gw_ne (by omega)]; exact h3
  · rw [gw_ne (by omega), gw_at, if_neg (by omega)]
  · rw [gw_at, if_neg (by omega), gw_ne (by omega)]
  · rw [gw_ne (by omega), gw_ne (by omega)]
end
/-! tests -/
def tO (f a : Bool) : Fin 3 := if a = true then 2 else if f = true then 1 else 0
def oB (x y m : Int32) : Bool := decide (m < x) || decide (y < m)
def aB (x y m : Int32) : Bool := decide (m = x) && decide (m = y)
/-- a test for the numbers from x to y -/
def tb (x y s m : Int32) : Fin 3 := if s = 60 then tO (decide (x < m)) (decide (y < m)) else if s = 61 then tO (!oB x y m) (aB x y m) else if s = 62 then tO (decide (m < y)) (decide (m < x)) else tO (!aB x y m) (oB x y m)
def tC (x y k v : Int32) : TAU := fun b s m => if b = true then tb x y s m else if k = 0 then 1 else tb v v s m
section
variable {g : MG}
theorem c_truthOf (f a : Bool) : m_X2_truthOf g (tv f) (tv a) = some (iv (tO f a)) := by
  cases f <;> cases a <;> rfl
theorem c_J46 {i : Nat} (hi : i < 60) {s m x y : Int32} (hs : g.1 11 i = s) : m_X2_testTruth_J46 (nI i) x y g m (tv (oB x y m)) (tv (aB x y m)) = some (iv (tb x y s m)) := by
  unfold m_X2_testTruth_J46 tb
  rw [bnd_e (e_at' hi (by omega) hs)]
  by_cases h1 : s = 60
  · rw [if_pos h1, if_pos h1]
    unfold m_X2_testTruth_J95
    have hx : ∀ b : Bool, (if m ≤ y then bnd (m_X2_truthOf g (tv b) (0 : Int32)) fun (r106 : Int32) => some r106 else bnd (m_X2_truthOf g (tv b) (1 : Int32)) fun (r106 : Int32) => some r106) = some (iv (tO b (decide (y < m)))) := fun b => by
      by_cases e : m ≤ y
      · rw [if_pos e, decide_eq_false (Int32.not_lt.mpr e), show (0 : Int32) = tv false from rfl, bnd_e (c_truthOf b false)]
      · rw [if_neg e, decide_eq_true (Int32.not_le.mp e), show (1 : Int32) = tv true from rfl, bnd_e (c_truthOf b true)]
    by_cases e : m ≤ x
    · rw [if_pos e, decide_eq_false (Int32.not_lt.mpr e)]
      exact hx false
    · rw [if_neg e, decide_eq_true (Int32.not_le.mp e)]
      exact hx true
  rw [if_neg h1, if_neg h1]
  by_cases h1 : s = 61
  · rw [if_pos h1, if_pos h1]
    cases oB x y m
    · rw [if_pos (show tv false = 0 by decide), show (1 : Int32) = tv true from rfl, bnd_e (c_truthOf true _)]; rfl
    · rw [if_neg (show ¬ tv true = 0 by decide), show (0 : Int32) = tv false from rfl, bnd_e (c_truthOf false _)]; rfl
  rw [if_neg h1, if_neg h1]
  by_cases h1 : s = 62
  · rw [if_pos h1, if_pos h1]
    unfold m_X2_testTruth_J121
    have hx : ∀ b : Bool, (if x ≤ m then bnd (m_X2_truthOf g (tv b) (0 : Int32)) fun (r132 : Int32) => some r132 else bnd (m_X2_truthOf g (tv b) (1 : Int32)) fun (r132 : Int32) => some r132) = some (iv (tO b (decide (m < x)))) := fun b => by
      by_cases e : x ≤ m
      · rw [if_pos e, decide_eq_false (Int32.not_lt.mpr e), show (0 : Int32) = tv false from rfl, bnd_e (c_truthOf b false)]
      · rw [if_neg e, decide_eq_true (Int32.not_le.mp e), show (1 : Int32) = tv true from rfl, bnd_e (c_truthOf b true)]
    by_cases e : y ≤ m
    · rw [if_pos e, decide_eq_false (Int32.not_lt.mpr e)]
      exact hx false
    · rw [if_neg e, decide_eq_true (Int32.not_le.mp e)]
      exact hx true
  rw [if_neg h1, if_neg h1]
  cases aB x y m
  · rw [if_pos (show tv false = 0 by decide), show (1 : Int32) = tv true from rfl, bnd_e (c_truthOf true _)]; rfl
  · rw [if_neg (show ¬ tv true = 0 by decide), show (0 : Int32) = tv false from rfl, bnd_e (c_truthOf false _)]; rfl
theorem c_testTruth {i : Nat} (hi : i < 60) {s m : Int32} (hs : g.1 11 i = s) (hm : g.1 13 i = m) (x y : Int32) : m_X2_testTruth g (nI i) x y = some (iv (tb x y s m)) := by
  unfold m_X2_testTruth
  rw [bnd_e (e_at' hi (by omega) hm)]
  have h27 : ∀ b : Bool, b = oB x y m → m_X2_testTruth_J27 (nI i) x y g m (tv b) = some (iv (tb x y s m)) := fun b hb => by
    unfold m_X2_testTruth_J27
    have h46 := c_J46 (x := x) (y := y) (m := m) hi hs
    rw [← hb] at h46
    by_cases e1 : m = x
    · rw [if_pos e1]
      by_cases e2 : m = y
      · rw [if_pos e2]
        have : aB x y m = true := by unfold aB; rw [decide_eq_true e1, decide_eq_true e2]; rfl
        rw [this] at h46
        exact h46
      · rw [if_neg e2]
        have : aB x y m = false := by unfold aB; rw [decide_eq_false e2, Bool.and_false]
        rw [this] at h46
        exact h46
    · rw [if_neg e1]
      have : aB x y m = false := by unfold aB; rw [decide_eq_false e1, Bool.false_and]
      rw [this] at h46
      exact h46
  by_cases e1 : m < x
  · rw [if_pos e1]
    exact h27 true (by unfold oB; rw [decide_eq_true e1, Bool.true_or])
  · rw [if_neg e1]
    by_cases e2 : m ≤ y
    · rw [if_pos e2]
      exact h27 false (by unfold oB; rw [decide_eq_false e1, decide_eq_false (Int32.not_lt.mpr e2)]; rfl)
    · rw [if_neg e2]
      exact h27 true (by unfold oB; rw [decide_eq_true (Int32.not_le.mp e2), Bool.or_true])
/-- a token is worked out -/
theorem c_tok {t : TK} {l : List TK} {z : CL} {r cs2 : List CL} {x y k v : Int32} (hl60 : l.length < 60) (hK : g.1 9 l.length = t.1) (hSM : (t.1 = 107 ∨ t.1 = 118) → g.1 11 l.length = t.2.1 ∧ g.1 13 l.length = t.2.2) (hM : CMg g (z :: r)) (hr : r.length < 6) (hs : cstp (tC x y k v) t (z :: r) = some cs2) : ∃ g' z2 r2, cs2 = z2 :: r2 ∧ CF g g' ∧ CMg g' (z2 :: r2) ∧ ∀ kk : (Int32 × Int32 × MG) → Option (Int32 × MG), ¬ g.1 3 7 ≤ nI l.length → m_X2_truth_L12 kk x y k v (nI r.length) (nI l.length) g = kk (nI r2.length, nI (l.length + 1), g') := by
  unfold cstp at hs
  have pre : ∀ kk : (Int32 × Int32 × MG) → Option (Int32 × MG), ¬ g.1 3 7 ≤ nI l.length → m_X2_truth_L12 kk x y k v (nI r.length) (nI l.length) g = (if t.1 = (33 : Int32) then
 bnd (m_X0_at g 19 6 (nI r.length)) fun (r145 : Int32) =>
 bnd (m_X0_write g 19 6 (nI r.length) ((1 : Int32) - r145)) fun (g149 : MG) =>
 kk (nI r.length, nI (l.length + 1), g149)
 else if t.1 = (40 : Int32) then
 bnd (m_X2_startDepth g (nI (r.length + 1))) fun (g170 : MG) =>
 kk (nI (r.length + 1), nI (l.length + 1), g170)
 else if t.1 = (41 : Int32) then
 bnd (m_X2_endPart g (nI r.length)) fun (g179 : MG) =>
 bnd (m_X0_at g179 15 6 ((nI r.length + (-1 : Int32)) + (1 : Int32))) fun (r196 : Int32) =>
 bnd (m_X2_addTruth g179 (nI r.length + (-1 : Int32)) r196) fun (g199 : MG) =>
 kk ((nI r.length + (-1 : Int32)), nI (l.length + 1), g199)
 else if t.1 = (107 : Int32) then
 bnd (m_X2_testTruth g (nI l.length) x y) fun (r96 : Int32) =>
 bnd (m_X2_addTruth g (nI r.length) r96) fun (g99 : MG) =>
 kk (nI r.length, nI (l.length + 1), g99)
 else if t.1 = (118 : Int32) then
 if k = 0 then
 bnd (m_X2_addTruth g (nI r.length) (1 : Int32)) fun (g126 : MG) =>
 kk (nI r.length, nI (l.length + 1), g126)
 else
 bnd (m_X2_testTruth g (nI l.length) v v) fun (r119 : Int32) =>
 bnd (m_X2_addTruth g (nI r.length) r119) fun (g126 : MG) =>
 kk (nI r.length, nI (l.length + 1), g126)
 else if t.1 = (124 : Int32) then
 bnd (m_X2_endPart g (nI r.length)) fun (g158 : MG) =>
 kk (nI r.length, nI (l.length + 1), g158)
 else
 kk (nI r.length, nI (l.length + 1), g)) := fun kk hc => by
    unfold m_X2_truth_L12
    rw [if_neg hc, bnd_e (e_at' hl60 (by omega) hK), nI_1, nI_1]
  by_cases h1 : t.1 = 33
  · rw [if_pos h1] at hs
    cases hs
    obtain ⟨⟨a1, a2, a3⟩, a4⟩ := hM
    refine ⟨g_w g 19 r.length (tv (!z.2.2)), _, r, rfl, (CF.rf g).w (Or.inr (Or.inr rfl)), ⟨⟨?_, ?_, ?_⟩, a4.cong (fun i hi => ⟨?_, ?_, ?_⟩)⟩, fun kk hc => ?_⟩
    · rw [gw_ne (by omega)]; exact a1
    · rw [gw_ne (by omega)]; exact a2
    · rw [gw_at, if_pos rfl]
    · rw [gw_ne (by omega)]
    · rw [gw_ne (by omega)]
    · rw [gw_at, if_neg (by omega)]
    · rw [pre kk hc, if_pos h1, bnd_e (e_at' hr (by omega) a3), tv_not, bnd_e (e_wr hr (by omega))]
  rw [if_neg h1] at hs
  by_cases h2 : t.1 = 40
  · rw [if_pos h2] at hs
    split at hs
    · rename_i h6
      cases hs
      obtain ⟨g', b1, b2, b3⟩ := c_startDepth hM h6
      have b1 : m_X2_startDepth g (nI (r.length + 1)) = some g' := b1
      refine ⟨g', _, z :: r, rfl, b2, b3, fun kk hc => ?_⟩
      rw [pre kk hc, if_neg h1, if_pos h2, bnd_e b1]
      rfl
    · cases hs
  rw [if_neg h2] at hs
  by_cases h3 : t.1 = 41
  · rw [if_pos h3] at hs
    cases r with
    | nil => cases hs
    | cons y' r =>
      obtain ⟨g1, b1, b2, b3⟩ := c_endPart hM hr
      rw [List.length_cons] at hr
      obtain ⟨g2, b4, b5, b6⟩ := c_addTruth b3.2 (by omega) (mx z.1 z.2.1)
      cases hs
      refine ⟨g2, _, r, rfl, b2.tr b5, b6, fun kk hc => ?_⟩
      rw [pre kk hc, if_neg h1, if_neg h2, if_pos h3, bnd_e b1]
      have e1 : nI (y' :: r).length + (-1 : Int32) = nI r.length := pk_m1 r.length
      rw [e1, nI_1, bnd_e (e_at' (show r.length + 1 < 6 by omega) (by omega) (v := iv (mx z.1 z.2.1)) b3.1.1), bnd_e b4]
  rw [if_neg h3] at hs
  by_cases h4 : t.1 = 107
  · rw [if_pos h4] at hs
    cases hs
    obtain ⟨k1, k2⟩ := hSM (Or.inl h4)
    obtain ⟨g2, b4, b5, b6⟩ := c_addTruth hM hr (tb x y t.2.1 t.2.2)
    refine ⟨g2, _, r, rfl, b5, b6, fun kk hc => ?_⟩
    rw [pre kk hc, if_neg h1, if_neg h2, if_neg h3, if_pos h4, bnd_e (c_testTruth hl60 k1 k2 x y), bnd_e b4]
  rw [if_neg h4] at hs
  by_cases h5 : t.1 = 118
  · rw [if_pos h5] at hs
    cases hs
    obtain ⟨k1, k2⟩ := hSM (Or.inr h5)
    obtain ⟨g2, b4, b5, b6⟩ := c_addTruth hM hr (tC x y k v false t.2.1 t.2.2)
    refine ⟨g2, _, r, rfl, b5, b6, fun kk hc => ?_⟩
    rw [pre kk hc, if_neg h1, if_neg h2, if_neg h3, if_neg h4, if_pos h5]
    by_cases hk : k = 0
    · have e : tC x y k v false t.2.1 t.2.2 = 1 := by unfold tC; rw [if_neg Bool.false_ne_true, if_pos hk]
      rw [e] at b4
      rw [if_pos hk, show (1 : Int32) = iv 1 from rfl, bnd_e b4]
    · have e : tC x y k v false t.2.1 t.2.2 = tb v v t.2.1 t.2.2 := by unfold tC; rw [if_neg Bool.false_ne_true, if_neg hk]
      rw [e] at b4
      rw [if_neg hk, bnd_e (c_testTruth hl60 k1 k2 v v), bnd_e b4]
  rw [if_neg h5] at hs
  by_cases h6 : t.1 = 124
  · rw [if_pos h6] at hs
    cases hs
    obtain ⟨g1, b1, b2, b3⟩ := c_endPart hM hr
    refine ⟨g1, _, r, rfl, b2, b3, fun kk hc => ?_⟩
    rw [pre kk hc, if_neg h1, if_neg h2, if_neg h3, if_neg h4, if_neg h5, if_pos h6, bnd_e b1]
  rw [if_neg h6] at hs
  cases hs
  refine ⟨g, z, r, rfl, CF.rf g, hM, fun kk hc => ?_⟩
  rw [pre kk hc, if_neg h1, if_neg h2, if_neg h3, if_neg h4, if_neg h5, if_neg h6]
/-- the class' question -/
theorem c_truth {tk : List TK} (h7 : g.1 3 7 = nI tk.length) (hl : tk.length ≤ 60) (hM : TkF (g.1 9) (g.1 11) (g.1 13) tk) (x y k v : Int32) {z : CL} (he : evC (tC x y k v) tk = some [z]) : ∃ g', m_X2_truth g x y k v = some (iv (mx z.1 z.2.1), g') ∧ CF g g' := by
  obtain ⟨g0, b1, b2, b3⟩ := c_startDepth (g := g) (r := []) trivial (by decide)
  have b1 : m_X2_startDepth g 0 = some g0 := b1
  unfold m_X2_truth
  rw [bnd_e b1]
  have main : ∃ r, lpo (b_X2_truth_L12 x y k v) fuelN ((0 : Int32), (0 : Int32), g0) = some r ∧ r.1 = iv (mx z.1 z.2.1) ∧ CF g r.2 := by
    refine lpo_P (fun i X => ∃ G l p z2 r, p ++ l = tk ∧ l.length = i ∧ evC (tC x y k v) l = some (z2 :: r) ∧ X = (nI r.length, nI i, G) ∧ CF g G ∧ CMg G (z2 :: r)) tk.length _ 0 (by omega) (by omega) ⟨g0, [], tk, (0, 2, false), [], List.append_nil tk, rfl, rfl, rfl, b2, b3⟩ ?_ ?_
    · rintro i X hi ⟨G, l, p, z2, r, c1, rfl, c3, rfl, c5, c6⟩
      right
      have hp : 0 < p.length := by
        have := congrArg List.length c1
        rw [List.length_append] at this
        omega
      obtain ⟨t, p', hp'⟩ := sfx_s p l hp
      have hp2 := hp'.trans c1
      have hT := hM
      rw [← hp2] at hT he
      have hT := hT.sfx
      obtain ⟨cs2, d1⟩ := evC_sfx he
      obtain ⟨c2, d2, d3⟩ := evC_ex d1
      rw [c3] at d2
      cases d2
      have hlen := evC_len c3
      rw [List.length_cons] at hlen
      have hG : G.1 3 = g.1 3 ∧ G.1 9 = g.1 9 ∧ G.1 11 = g.1 11 ∧ G.1 13 = g.1 13 := ⟨c5.2 3 (by omega) (by omega) (by omega), c5.2 9 (by omega) (by omega) (by omega), c5.2 11 (by omega) (by omega) (by omega), c5.2 13 (by omega) (by omega) (by omega)⟩
      obtain ⟨g', z3, r3, e1, e2, e3, e4⟩ := c_tok (g := G) (t := t) (l := l) (z := z2) (r := r) (cs2 := cs2) (x := x) (y := y) (k := k) (v := v) (by omega) (by rw [hG.2.1]; exact hT.1.1) (by rw [hG.2.2.1, hG.2.2.2]; exact hT.1.2) c6 (by omega) d3
      subst e1
      refine ⟨_, ⟨g', t :: l, p', z3, r3, hp2, rfl, d1, rfl, c5.tr e2, e3⟩, fun kk => ?_⟩
      exact e4 kk (by rw [hG.1, h7, nI_leI (by omega) (by omega)]; omega)
    · rintro X ⟨G, l, p, z2, r, c1, c2, c3, rfl, c5, c6⟩ kk
      have hp : p = [] := by
        have := congrArg List.length c1
        rw [List.length_append] at this
        exact List.eq_nil_of_length_eq_zero (by omega)
      subst hp
      have c1 : l = tk := c1
      subst c1
      rw [he] at c3
      cases c3
      obtain ⟨g', d1, d2, d3⟩ := c_endPart c6 (by decide)
      refine ⟨(iv (mx z.1 z.2.1), g'), ?_, rfl, c5.tr d2⟩
      simp only [b_X2_truth_L12, m_X2_truth_L12]
      rw [c5.2 3 (by omega) (by omega) (by omega), h7, if_pos (nI_le (Nat.le_refl _) (by omega)), bnd_e d1, bnd_e (e_at' (show ([] : List CL).length < 6 by decide) (by omega) d3.1.1)]
  obtain ⟨⟨r1, r2⟩, m1, m2, m3⟩ := main
  simp only at m2
  subst m2
  exact ⟨r2, m1, m3⟩
end
