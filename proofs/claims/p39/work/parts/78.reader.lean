/-! the reader of the text: what the class knows behind each character (fault, step, open, nots, minus, digits, tokens) -/
abbrev QS : Type := Int32 × Int32 × Int32 × Int32 × Int32 × Int32 × List TK
def hdS (c : Int32) : List TK → List TK
  | [] => []
  | t :: r => (t.1, c, t.2.2) :: r
def hdN (v : Int32) : List TK → List TK
  | [] => []
  | t :: r => (t.1, t.2.1, v) :: r
def qTest (q : QS) (c : Int32) : Option QS :=
  if c = 33 then (if q.2.2.2.1 < 5 then some (q.1, 0, q.2.2.1, q.2.2.2.1 + 1, q.2.2.2.2.1, q.2.2.2.2.2.1, (c, 0, 0) :: q.2.2.2.2.2.2) else none)
  else if c = 40 then (if q.2.2.1 < 5 then some (q.1, 0, q.2.2.1 + 1, 0, q.2.2.2.2.1, q.2.2.2.2.2.1, (c, 0, 0) :: q.2.2.2.2.2.2) else none)
  else if c = 107 then some (q.1, 1, q.2.2.1, 0, q.2.2.2.2.1, q.2.2.2.2.2.1, (c, 0, 0) :: q.2.2.2.2.2.2)
  else if c = 118 then some (q.1, 1, q.2.2.1, 0, q.2.2.2.2.1, q.2.2.2.2.2.1, (c, 0, 0) :: q.2.2.2.2.2.2)
  else none
def qSign (q : QS) (c : Int32) : Option QS :=
  if c = 60 ∨ c = 62 ∨ c = 61 ∨ c = 35 then some (q.1, 2, q.2.2.1, q.2.2.2.1, 0, q.2.2.2.2.2.1, hdS c q.2.2.2.2.2.2) else none
def qMinus (q : QS) (c : Int32) : Option QS :=
  if c = 45 then some (q.1, 3, q.2.2.1, q.2.2.2.1, 1, q.2.2.2.2.2.1, q.2.2.2.2.2.2) else none
def qSet (q : QS) (v : Int32) : QS := (q.1, 4, q.2.2.1, q.2.2.2.1, q.2.2.2.2.1, v, hdN (if q.2.2.2.2.1 = 0 then v else -v) q.2.2.2.2.2.2)
def qFirst (q : QS) (c : Int32) : Option QS :=
  if c < 48 then none else if c ≤ 57 then some (qSet q (c - 48)) else none
def qNext (q : QS) (c : Int32) : Option QS :=
  if c < 48 then none else if 57 < c then none else if q.2.2.2.2.2.1 = 0 then none else if q.2.2.2.2.2.1 * 10 + (c - 48) ≤ 999 then some (qSet q (q.2.2.2.2.2.1 * 10 + (c - 48))) else none
def qFol (q : QS) (c : Int32) : Option QS :=
  if c = 38 then some (q.1, 0, q.2.2.1, q.2.2.2.1, q.2.2.2.2.1, q.2.2.2.2.2.1, (c, 0, 0) :: q.2.2.2.2.2.2)
  else if c = 41 then (if q.2.2.1 = 0 then none else some (q.1, 5, q.2.2.1 - 1, q.2.2.2.1, q.2.2.2.2.1, q.2.2.2.2.2.1, (c, 0, 0) :: q.2.2.2.2.2.2))
  else if c = 124 then some (q.1, 0, q.2.2.1, q.2.2.2.1, q.2.2.2.2.1, q.2.2.2.2.2.1, (c, 0, 0) :: q.2.2.2.2.2.2)
  else none
def qAl (q : QS) (c : Int32) : Option QS :=
  if q.2.1 = 0 then qTest q c else if q.2.1 = 1 then qSign q c else if q.2.1 = 2 then (qMinus q c).or (qFirst q c) else if q.2.1 = 3 then qFirst q c else if q.2.1 = 4 then (qNext q c).or (qFol q c) else qFol q c
def crd (p : Int32) (q : QS) (c : Int32) : QS := if q.1 = -1005 then (qAl q c).getD (p, q.2) else q
def cst (T : Nat → Int32) : Nat → QS
  | 0 => (-1005, 0, 0, 0, 0, 0, [])
  | p + 1 => crd (nI p) (cst T p) (T p)
theorem cst_cong {T T' : Nat → Int32} : ∀ {p : Nat}, (∀ i, i < p → T' i = T i) → cst T' p = cst T p
  | 0, _ => rfl
  | p + 1, h => by
    show crd (nI p) (cst T' p) (T' p) = crd (nI p) (cst T p) (T p)
    rw [cst_cong (fun i hi => h i (by omega)), h p (Nat.lt_succ_self p)]
/-! the class' fields and rows hold what it knows -/
def TkF (K S M : Nat → Int32) : List TK → Prop
  | [] => True
  | t :: r => (K r.length = t.1 ∧ ((t.1 = 107 ∨ t.1 = 118) → S r.length = t.2.1 ∧ M r.length = t.2.2)) ∧ TkF K S M r
def TkP (K S M : Nat → Int32) (st : Int32) : List TK → Prop
  | [] => True
  | t :: r => (K r.length = t.1 ∧ ((t.1 = 107 ∨ t.1 = 118) → (st ≠ 1 → S r.length = t.2.1) ∧ ((st = 0 ∨ st = 4 ∨ st = 5) → M r.length = t.2.2))) ∧ TkF K S M r
def QM (q : QS) (F K S M : Nat → Int32) : Prop := F 1 = q.1 ∧ F 2 = q.2.1 ∧ F 3 = q.2.2.1 ∧ F 4 = q.2.2.2.1 ∧ ((q.2.1 = 2 ∨ q.2.1 = 3 ∨ q.2.1 = 4) → F 5 = q.2.2.2.2.1) ∧ (q.2.1 = 4 → F 6 = q.2.2.2.2.2.1) ∧ F 7 = nI q.2.2.2.2.2.2.length ∧ TkP K S M q.2.1 q.2.2.2.2.2.2
abbrev QMg (q : QS) (g : MG) : Prop := QM q (g.1 3) (g.1 9) (g.1 11) (g.1 13)
theorem TkF.cong {K S M K' S' M' : Nat → Int32} : ∀ {tk : List TK}, TkF K S M tk → (∀ i, i < tk.length → K' i = K i ∧ S' i = S i ∧ M' i = M i) → TkF K' S' M' tk
  | [], _, _ => trivial
  | t :: r, h, e => by
    obtain ⟨⟨h1, h2⟩, h3⟩ := h
    have e0 := e r.length (Nat.lt_succ_self _)
    exact ⟨⟨e0.1.trans h1, fun ht => ⟨e0.2.1.trans (h2 ht).1, e0.2.2.trans (h2 ht).2⟩⟩, h3.cong (fun i hi => e i (Nat.lt_succ_of_lt hi))⟩
theorem TkP.full {K S M : Nat → Int32} {st : Int32} (hst : st = 0 ∨ st = 4 ∨ st = 5) : ∀ {tk : List TK}, TkP K S M st tk → TkF K S M tk
  | [], _ => trivial
  | t :: r, h => by
    obtain ⟨⟨h1, h2⟩, h3⟩ := h
    exact ⟨⟨h1, fun ht => ⟨(h2 ht).1 (by rcases hst with rfl | rfl | rfl <;> decide), (h2 ht).2 hst⟩⟩, h3⟩
/-- what a character comes to: allowed, or not -/
def AL (q : QS) (g : MG) (o : Option QS) (r : Int32) (g' : MG) : Prop := (r = 1 ∧ g'.2 = g.2 ∧ (∀ x, x ≠ 3 → x ≠ 9 → x ≠ 11 → x ≠ 13 → g'.1 x = g.1 x) ∧ g'.1 3 0 = g.1 3 0 ∧ ∃ q', o = some q' ∧ q'.1 = q.1 ∧ q'.2.2.2.2.2.2.length ≤ q.2.2.2.2.2.2.length + 1 ∧ QMg q' g') ∨ (r = 0 ∧ g' = g ∧ o = none)
section
variable {q : QS} {g : MG} {c : Int32}
/-- a token is added -/
theorem al_add (h : QMg q g) (hst : q.2.1 = 0 ∨ q.2.1 = 4 ∨ q.2.1 = 5) (hl : q.2.2.2.2.2.2.length < 60) {G : MG} {op no : Int32} (e2 : G.2 = g.2) (e1 : ∀ x, x ≠ 3 → G.1 x = g.1 x) (e3 : ∀ j, j ≠ 3 → j ≠ 4 → G.1 3 j = g.1 3 j) (e4 : G.1 3 3 = op) (e5 : G.1 3 4 = no) (c next : Int32) (hn : next = 0 ∨ next = 1 ∨ next = 5) (hc : (c = 107 ∨ c = 118) → next = 1) : ∃ g', m_X2_addToken G c next = some g' ∧ AL q g (some (q.1, next, op, no, q.2.2.2.2.1, q.2.2.2.2.2.1, (c, 0, 0) :: q.2.2.2.2.2.2)) 1 g' := by
  obtain ⟨a1, a2, a3, a4, a5, a6, a7, a8⟩ := h
  have h7 : G.1 3 7 = nI q.2.2.2.2.2.2.length := (e3 7 (by omega) (by omega)).trans a7
  have hg : m_X2_addToken G c next = some (g_w (g_w (g_w G 9 q.2.2.2.2.2.2.length c) 3 7 (nI (q.2.2.2.2.2.2.length + 1))) 3 2 next) := by
    unfold m_X2_addToken
    rw [h7, bnd_e (e_wr hl (by omega)), gw_ne (show (3 : Nat) ≠ 9 by omega), h7, nI_1]
  refine ⟨_, hg, Or.inl ⟨rfl, e2, fun x h3 h9 _ _ => by rw [gw_ne h3, gw_ne h3, gw_ne h9, e1 x h3], ?_, _, rfl, rfl, Nat.le_refl _, ?_⟩⟩
  · rw [gw_at, if_neg (by omega), gw_at, if_neg (by omega), gw_ne (by omega)]
    exact e3 0 (by omega) (by omega)
  · have hF : ∀ j, j ≠ 2 → j ≠ 7 → (g_w (g_w (g_w G 9 q.2.2.2.2.2.2.length c) 3 7 (nI (q.2.2.2.2.2.2.length + 1))) 3 2 next).1 3 j = G.1 3 j := fun j h2 h7 => by
      rw [gw_at, if_neg h2, gw_at, if_neg h7, gw_ne (by omega)]
    have hK : ∀ i, (g_w (g_w (g_w G 9 q.2.2.2.2.2.2.length c) 3 7 (nI (q.2.2.2.2.2.2.length + 1))) 3 2 next).1 9 i = if i = q.2.2.2.2.2.2.length then c else g.1 9 i := fun i => by
      rw [gw_ne (by omega), gw_ne (by omega), gw_at, e1 9 (by omega)]
    have hS : (g_w (g_w (g_w G 9 q.2.2.2.2.2.2.length c) 3 7 (nI (q.2.2.2.2.2.2.length + 1))) 3 2 next).1 11 = g.1 11 := by
      rw [gw_ne (by omega), gw_ne (by omega), gw_ne (by omega), e1 11 (by omega)]
    have hM : (g_w (g_w (g_w G 9 q.2.2.2.2.2.2.length c) 3 7 (nI (q.2.2.2.2.2.2.length + 1))) 3 2 next).1 13 = g.1 13 := by
      rw [gw_ne (by omega), gw_ne (by omega), gw_ne (by omega), e1 13 (by omega)]
    refine ⟨?_, ?_, ?_, ?_, fun hx => ?_, fun hx => ?_, ?_, ⟨⟨?_, fun ht => ?_⟩, ?_⟩⟩
    · rw [hF 1 (by omega) (by omega), e3 1 (by omega) (by omega)]; exact a1
    · rw [gw_at, if_pos rfl]
    · rw [hF 3 (by omega) (by omega)]; exact e4
    · rw [hF 4 (by omega) (by omega)]; exact e5
    · exfalso
      simp only at hx
      rcases hn with rfl | rfl | rfl <;> revert hx <;> decide
    · exfalso
      simp only at hx
      rcases hn with rfl | rfl | rfl <;> revert hx <;> decide
    · rw [gw_at, if_neg (by omega), gw_at, if_pos rfl]
      rfl
    · show _ = c
      rw [hK, if_pos rfl]
    · have := hc ht
      subst this
      exact ⟨fun q => absurd rfl q, fun q => absurd q (show ¬ ((1 : Int32) = 0 ∨ (1 : Int32) = 4 ∨ (1 : Int32) = 5) by decide)⟩
    · refine (a8.full hst).cong (fun i hi => ⟨?_, ?_, ?_⟩)
      · rw [hK, if_neg (by omega)]
      · rw [hS]
      · rw [hM]
/-- a digit is taken -/
theorem al_set (h : QMg q g) (hst : q.2.1 = 2 ∨ q.2.1 = 3 ∨ q.2.1 = 4) (hl : q.2.2.2.2.2.2.length < 60) (v : Int32) : ∃ g1, m_X2_setDigits g v = some g1 ∧ (AL q g (some (qSet q v)) 1 (g_w g1 3 2 4)) ∧ (q.2.1 = 4 → AL q g (some (qSet q v)) 1 g1) := by
  obtain ⟨a1, a2, a3, a4, a5, a6, a7, a8⟩ := h
  have h5 := a5 hst
  obtain ⟨w, hw⟩ : ∃ w, w = if q.2.2.2.2.1 = 0 then v else -v := ⟨_, rfl⟩
  have key : ∃ g1, m_X2_setDigits g v = some g1 ∧ g1.2 = g.2 ∧ (∀ x, x ≠ 3 → x ≠ 13 → g1.1 x = g.1 x) ∧ (∀ j, j ≠ 6 → g1.1 3 j = g.1 3 j) ∧ g1.1 3 6 = v ∧ TkP (g1.1 9) (g1.1 11) (g1.1 13) 4 (hdN w q.2.2.2.2.2.2) := by
    have hpre : m_X2_setDigits g v = bnd (m_X0_write (g_w g 3 6 v) 13 60 (nI q.2.2.2.2.2.2.length - (1 : Int32)) w) fun (g28 : MG) => some g28 := by
      unfold m_X2_setDigits
      have e5 : (g_w g 3 6 v).1 3 5 = q.2.2.2.2.1 := by rw [gw_at, if_neg (by omega), h5]
      have e7 : (g_w g 3 6 v).1 3 7 = nI q.2.2.2.2.2.2.length := by rw [gw_at, if_neg (by omega), a7]
      rw [e5, e7]
      by_cases h0 : q.2.2.2.2.1 = 0
      · rw [if_pos h0, hw, if_pos h0]
      · rw [if_neg h0, hw, if_neg h0]
    rw [hpre]
    generalize hT : q.2.2.2.2.2.2 = tk at *
    cases tk with
    | nil =>
      refine ⟨g_w g 3 6 v, ?_, rfl, fun x h3 _ => gw_ne h3, fun j hj => by rw [gw_at, if_neg hj], by rw [gw_at, if_pos rfl], trivial⟩
      rw [bnd_e (e_wr_out (by omega) (Or.inl (by decide)))]
    | cons t r =>
      have e1 : nI (t :: r).length - (1 : Int32) = nI r.length := nI_pred r.length
      rw [e1, bnd_e (e_wr (show r.length < 60 by rw [List.length_cons] at hl; omega) (by omega))]
      refine ⟨_, rfl, rfl, fun x h3 h13 => by rw [gw_ne h13, gw_ne h3], fun j hj => by rw [gw_ne (by omega), gw_at, if_neg hj], by rw [gw_ne (by omega), gw_at, if_pos rfl], ?_⟩
      obtain ⟨⟨b1, b2⟩, b3⟩ := a8
      refine ⟨⟨?_, fun ht => ⟨fun _ => ?_, fun _ => ?_⟩⟩, b3.cong (fun i hi => ⟨?_, ?_, ?_⟩)⟩
      · rw [gw_ne (by omega), gw_ne (by omega)]; exact b1
      · rw [gw_ne (by omega), gw_ne (by omega)]
        exact (b2 ht).1 (by rcases hst with e | e | e <;> rw [e] <;> decide)
      · rw [gw_at, if_pos rfl]
      · rw [gw_ne (by omega), gw_ne (by omega)]
      · rw [gw_ne (by omega), gw_ne (by omega)]
      · rw [gw_at, if_neg (by omega), gw_ne (by omega)]
  obtain ⟨g1, b1, b2, b3, b4, b5, b6⟩ := key
  have hlen : (hdN w q.2.2.2.2.2.2).length = q.2.2.2.2.2.2.length := by cases q.2.2.2.2.2.2 <;> rfl
  have fin : ∀ G : MG, G.2 = g1.2 → (∀ x, x ≠ 3 → G.1 x = g1.1 x) → (∀ j, j ≠ 2 → G.1 3 j = g1.1 3 j) → G.1 3 2 = 4 → AL q g (some (qSet q v)) 1 G := fun G k1 k2 k3 k4 => by
    refine Or.inl ⟨rfl, k1.trans b2, fun x h3 _ _ h13 => by rw [k2 x h3, b3 x h3 h13], by rw [k3 0 (by omega), b4 0 (by omega)], _, rfl, rfl, ?_, ?_, ?_, ?_, ?_, fun _ => ?_, fun _ => ?_, ?_, ?_⟩
    · show (hdN _ q.2.2.2.2.2.2).length ≤ _
      rw [← hw, hlen]
      exact Nat.le_succ _
    · rw [k3 1 (by omega), b4 1 (by omega)]; exact a1
    · exact k4
    · rw [k3 3 (by omega), b4 3 (by omega)]; exact a3
    · rw [k3 4 (by omega), b4 4 (by omega)]; exact a4
    · rw [k3 5 (by omega), b4 5 (by omega)]; exact h5
    · rw [k3 6 (by omega), b5]; rfl
    · rw [k3 7 (by omega), b4 7 (by omega), a7]
      show _ = nI (hdN _ q.2.2.2.2.2.2).length
      rw [← hw, hlen]
    · rw [k2 9 (by omega), k2 11 (by omega), k2 13 (by omega)]
      show TkP _ _ _ 4 (hdN _ q.2.2.2.2.2.2)
      rw [← hw]
      exact b6
  exact ⟨g1, b1, fin _ rfl (fun x hx => gw_ne hx) (fun j hj => by rw [gw_at, if_neg hj]) (by rw [gw_at, if_pos rfl]), fun h4 => fin _ rfl (fun _ _ => rfl) (fun _ _ => rfl) (by rw [b4 2 (by omega), a2, h4])⟩
theorem al_no {o : Option QS} (h : o = none) : AL q g o 0 g := Or.inr ⟨rfl, rfl, h⟩
theorem c_startsTest (h : QMg q g) (hst : q.2.1 = 0) (hl : q.2.2.2.2.2.2.length < 60) (c : Int32) : ∃ r g', m_X2_startsTest g c = some (r, g') ∧ AL q g (qTest q c) r g' := by
  have h' := h
  obtain ⟨a1, a2, a3, a4, -⟩ := h'
  unfold m_X2_startsTest qTest
  by_cases h1 : c = 33
  · rw [if_pos h1, if_pos h1, a4]
    by_cases h2 : q.2.2.2.1 < 5
    · obtain ⟨g', b1, b2⟩ := al_add h (Or.inl hst) hl (G := g_w g 3 4 (q.2.2.2.1 + (1 : Int32))) rfl (fun x hx => gw_ne hx) (fun j _ hj => by rw [gw_at, if_neg hj]) (by rw [gw_at, if_neg (by omega), a3]) (by rw [gw_at, if_pos rfl]) c 0 (Or.inl rfl) (fun q => by subst h1; revert q; decide)
      rw [if_pos h2, if_pos h2, bnd_e b1]
      exact ⟨_, _, rfl, b2⟩
    · rw [if_neg h2, if_neg h2]
      exact ⟨_, _, rfl, al_no rfl⟩
  rw [if_neg h1, if_neg h1]
  by_cases h1 : c = 40
  · rw [if_pos h1, if_pos h1, a3]
    by_cases h2 : q.2.2.1 < 5
    · obtain ⟨g', b1, b2⟩ := al_add h (Or.inl hst) hl (G := g_w (g_w g 3 3 (q.2.2.1 + (1 : Int32))) 3 4 (0 : Int32)) rfl (fun x hx => by rw [gw_ne hx, gw_ne hx]) (fun j hj hj' => by rw [gw_at, if_neg hj', gw_at, if_neg hj]) (by rw [gw_at, if_neg (by omega), gw_at, if_pos rfl]) (by rw [gw_at, if_pos rfl]) c 0 (Or.inl rfl) (fun q => by subst h1; revert q; decide)
      rw [if_pos h2, if_pos h2, bnd_e b1]
      exact ⟨_, _, rfl, b2⟩
    · rw [if_neg h2, if_neg h2]
      exact ⟨_, _, rfl, al_no rfl⟩
  rw [if_neg h1, if_neg h1]
  obtain ⟨g', b1, b2⟩ := al_add h (Or.inl hst) hl (G := g_w g 3 4 (0 : Int32)) rfl (fun x hx => gw_ne hx) (fun j _ hj => by rw [gw_at, if_neg hj]) (by rw [gw_at, if_neg (by omega), a3]) (by rw [gw_at, if_pos rfl]) c 1 (Or.inr (Or.inl rfl)) (fun _ => rfl)
  by_cases h1 : c = 107
  · rw [if_pos h1, if_pos h1, bnd_e b1]
    exact ⟨_, _, rfl, b2⟩
  rw [if_neg h1, if_neg h1]
  by_cases h1 : c = 118
  · rw [if_pos h1, if_pos h1, bnd_e b1]
    exact ⟨_, _, rfl, b2⟩
  rw [if_neg h1, if_neg h1]
  exact ⟨_, _, rfl, al_no rfl⟩
theorem c_followsTest (h : QMg q g) (hst : q.2.1 = 4 ∨ q.2.1 = 5) (hl : q.2.2.2.2.2.2.length < 60) (c : Int32) : ∃ r g', m_X2_followsTest g c = some (r, g') ∧ AL q g (qFol q c) r g' := by
  have h' := h
  obtain ⟨a1, a2, a3, a4, -⟩ := h'
  unfold m_X2_followsTest qFol
  by_cases h1 : c = 38
  · obtain ⟨g', b1, b2⟩ := al_add h (Or.inr hst) hl (G := g) rfl (fun x hx => rfl) (fun j _ hj => rfl) a3 a4 c 0 (Or.inl rfl) (fun q => by subst h1; revert q; decide)
    rw [if_pos h1, if_pos h1, bnd_e b1]
    exact ⟨_, _, rfl, b2⟩
  rw [if_neg h1, if_neg h1]
  by_cases h1 : c = 41
  · rw [if_pos h1, if_pos h1, a3]
    by_cases h2 : q.2.2.1 = 0
    · rw [if_pos h2, if_pos h2]
      exact ⟨_, _, rfl, al_no rfl⟩
    · obtain ⟨g', b1, b2⟩ := al_add h (Or.inr hst) hl (G := g_w g 3 3 (q.2.2.1 - (1 : Int32))) rfl (fun x hx => gw_ne hx) (fun j hj _ => by rw [gw_at, if_neg hj]) (by rw [gw_at, if_pos rfl]) (by rw [gw_at, if_neg (by omega), a4]) c 5 (Or.inr (Or.inr rfl)) (fun q => by subst h1; revert q; decide)
      rw [if_neg h2, if_neg h2, bnd_e b1]
      exact ⟨_, _, rfl, b2⟩
  rw [if_neg h1, if_neg h1]
  by_cases h1 : c = 124
  · obtain ⟨g', b1, b2⟩ := al_add h (Or.inr hst) hl (G := g) rfl (fun x hx => rfl) (fun j _ hj => rfl) a3 a4 c 0 (Or.inl rfl) (fun q => by subst h1; revert q; decide)
    rw [if_pos h1, if_pos h1, bnd_e b1]
    exact ⟨_, _, rfl, b2⟩
  rw [if_neg h1, if_neg h1]
  exact ⟨_, _, rfl, al_no rfl⟩
theorem al_sign (h : QMg q g) (hl : q.2.2.2.2.2.2.length < 60) (c : Int32) : ∃ g1, m_X0_write g 11 60 ((g.1 3 7) - (1 : Int32)) c = some g1 ∧ AL q g (some (q.1, 2, q.2.2.1, q.2.2.2.1, 0, q.2.2.2.2.2.1, hdS c q.2.2.2.2.2.2)) 1 (g_w (g_w g1 3 5 (0 : Int32)) 3 2 (2 : Int32)) := by
  obtain ⟨a1, a2, a3, a4, a5, a6, a7, a8⟩ := h
  have key : ∃ g1, m_X0_write g 11 60 (nI q.2.2.2.2.2.2.length - (1 : Int32)) c = some g1 ∧ g1.2 = g.2 ∧ (∀ x, x ≠ 11 → g1.1 x = g.1 x) ∧ TkP (g1.1 9) (g1.1 11) (g1.1 13) 2 (hdS c q.2.2.2.2.2.2) := by
    generalize hT : q.2.2.2.2.2.2 = tk at *
    cases tk with
    | nil => exact ⟨g, e_wr_out (by omega) (Or.inl (by decide)), rfl, fun _ _ => rfl, trivial⟩
    | cons t r =>
      have e1 : nI (t :: r).length - (1 : Int32) = nI r.length := nI_pred r.length
      rw [e1, e_wr (show r.length < 60 by rw [List.length_cons] at hl; omega) (by omega)]
      refine ⟨_, rfl, rfl, fun x hx => gw_ne hx, ?_⟩
      obtain ⟨⟨b1, b2⟩, b3⟩ := a8
      refine ⟨⟨?_, fun ht => ⟨fun _ => ?_, fun hx => ?_⟩⟩, b3.cong (fun i hi => ⟨?_, ?_, ?_⟩)⟩
      · rw [gw_ne (by omega)]; exact b1
      · rw [gw_at, if_pos rfl]
      · exact absurd hx (show ¬ ((2 : Int32) = 0 ∨ (2 : Int32) = 4 ∨ (2 : Int32) = 5) by decide)
      · rw [gw_ne (by omega)]
      · rw [gw_at, if_neg (by omega)]
      · rw [gw_ne (by omega)]
  obtain ⟨g1, b1, b2, b3, b4⟩ := key
  have hlen : (hdS c q.2.2.2.2.2.2).length = q.2.2.2.2.2.2.length := by cases q.2.2.2.2.2.2 <;> rfl
  refine ⟨g1, by rw [a7]; exact b1, Or.inl ⟨rfl, b2, fun x h3 _ h11 _ => by rw [gw_ne h3, gw_ne h3, b3 x h11], by rw [gw_at, if_neg (by omega), gw_at, if_neg (by omega), b3 3 (by omega)], _, rfl, rfl, ?_, ?_, ?_, ?_, ?_, fun _ => ?_, fun hx => ?_, ?_, ?_⟩⟩
  · show (hdS c q.2.2.2.2.2.2).length ≤ _
    rw [hlen]
    exact Nat.le_succ _
  · rw [gw_at, if_neg (by omega), gw_at, if_neg (by omega), b3 3 (by omega)]; exact a1
  · rw [gw_at, if_pos rfl]
  · rw [gw_at, if_neg (by omega), gw_at, if_neg (by omega), b3 3 (by omega)]; exact a3
  · rw [gw_at, if_neg (by omega), gw_at, if_neg (by omega), b3 3 (by omega)]; exact a4
  · rw [gw_at, if_neg (by omega), gw_at, if_pos rfl]
  · exfalso
    revert hx
    show ¬ (2 : Int32) = 4
    decide
  · rw [gw_at, if_neg (by omega), gw_at, if_neg (by omega), b3 3 (by omega), a7]
    show _ = nI (hdS c q.2.2.2.2.2.2).length
    rw [hlen]
  · rw [gw_ne (by omega), gw_ne (by omega), gw_ne (by omega), gw_ne (by omega), gw_ne (by omega), gw_ne (by omega)]
    exact b4
theorem c_isSign (h : QMg q g) (hl : q.2.2.2.2.2.2.length < 60) (c : Int32) : ∃ r g', m_X2_isSign g c = some (r, g') ∧ AL q g (qSign q c) r g' := by
  obtain ⟨g1, b1, b2⟩ := al_sign h hl c
  unfold m_X2_isSign qSign
  rw [bnd_e b1]
  by_cases h1 : c = 60
  · rw [if_pos h1, if_pos (Or.inl h1)]
    exact ⟨_, _, rfl, b2⟩
  rw [if_neg h1]
  by_cases h2 : c = 62
  · rw [if_pos h2, if_pos (Or.inr (Or.inl h2))]
    exact ⟨_, _, rfl, b2⟩
  rw [if_neg h2]
  by_cases h3 : c = 61
  · rw [if_pos h3, if_pos (Or.inr (Or.inr (Or.inl h3)))]
    exact ⟨_, _, rfl, b2⟩
  rw [if_neg h3]
  by_cases h4 : c = 35
  · rw [if_pos h4, if_pos (Or.inr (Or.inr (Or.inr h4)))]
    exact ⟨_, _, rfl, b2⟩
  rw [if_neg h4, if_neg (fun q => q.elim h1 (fun q => q.elim h2 (fun q => q.elim h3 h4)))]
  exact ⟨_, _, rfl, al_no rfl⟩
theorem c_isMinus (h : QMg q g) (hst : q.2.1 = 2) (c : Int32) : ∃ r g', m_X2_isMinus g c = some (r, g') ∧ AL q g (qMinus q c) r g' := by
  obtain ⟨a1, a2, a3, a4, a5, a6, a7, a8⟩ := h
  unfold m_X2_isMinus qMinus
  by_cases h1 : c = 45
  · rw [if_pos h1, if_pos h1]
    refine ⟨_, _, rfl, Or.inl ⟨rfl, rfl, fun x h3 _ _ _ => by rw [gw_ne h3, gw_ne h3], by rw [gw_at, if_neg (by omega), gw_at, if_neg (by omega)], _, rfl, rfl, Nat.le_succ _, ?_, ?_, ?_, ?_, fun _ => ?_, fun hx => ?_, ?_, ?_⟩⟩
    · rw [gw_at, if_neg (by omega), gw_at, if_neg (by omega)]; exact a1
    · rw [gw_at, if_pos rfl]
    · rw [gw_at, if_neg (by omega), gw_at, if_neg (by omega)]; exact a3
    · rw [gw_at, if_neg (by omega), gw_at, if_neg (by omega)]; exact a4
    · rw [gw_at, if_neg (by omega), gw_at, if_pos rfl]
    · exfalso
      revert hx
      show ¬ (3 : Int32) = 4
      decide
    · rw [gw_at, if_neg (by omega), gw_at, if_neg (by omega)]; exact a7
    · rw [gw_ne (by omega), gw_ne (by omega), gw_ne (by omega), gw_ne (by omega), gw_ne (by omega), gw_ne (by omega)]
      show TkP _ _ _ 3 q.2.2.2.2.2.2
      generalize q.2.2.2.2.2.2 = tk at *
      cases tk with
      | nil => trivial
      | cons t r =>
        obtain ⟨⟨b1, b2⟩, b3⟩ := a8
        refine ⟨⟨b1, fun ht => ⟨fun _ => (b2 ht).1 (by rw [hst]; decide), fun hx => ?_⟩⟩, b3⟩
        exact absurd hx (show ¬ ((3 : Int32) = 0 ∨ (3 : Int32) = 4 ∨ (3 : Int32) = 5) by decide)
  · rw [if_neg h1, if_neg h1]
    exact ⟨_, _, rfl, al_no rfl⟩
theorem c_isFirstDigit (h : QMg q g) (hst : q.2.1 = 2 ∨ q.2.1 = 3) (hl : q.2.2.2.2.2.2.length < 60) (c : Int32) : ∃ r g', m_X2_isFirstDigit g c = some (r, g') ∧ AL q g (qFirst q c) r g' := by
  unfold m_X2_isFirstDigit qFirst
  by_cases h1 : c < 48
  · rw [if_pos h1, if_pos h1]
    exact ⟨_, _, rfl, al_no rfl⟩
  rw [if_neg h1, if_neg h1]
  by_cases h2 : c ≤ 57
  · obtain ⟨g1, b1, b2, -⟩ := al_set h (hst.elim Or.inl (fun e => Or.inr (Or.inl e))) hl (c - 48)
    rw [if_pos h2, if_pos h2, bnd_e b1]
    exact ⟨_, _, rfl, b2⟩
  · rw [if_neg h2, if_neg h2]
    exact ⟨_, _, rfl, al_no rfl⟩
theorem c_isNextDigit (h : QMg q g) (hst : q.2.1 = 4) (hl : q.2.2.2.2.2.2.length < 60) (c : Int32) : ∃ r g', m_X2_isNextDigit g c = some (r, g') ∧ AL q g (qNext q c) r g' := by
  have h6 : g.1 3 6 = q.2.2.2.2.2.1 := h.2.2.2.2.2.1 hst
  unfold m_X2_isNextDigit qNext
  rw [h6]
  by_cases h1 : c < 48
  · rw [if_pos h1, if_pos h1]
    exact ⟨_, _, rfl, al_no rfl⟩
  rw [if_neg h1, if_neg h1]
  by_cases h2 : 57 < c
  · rw [if_pos h2, if_pos h2]
    exact ⟨_, _, rfl, al_no rfl⟩
  rw [if_neg h2, if_neg h2]
  by_cases h3 : q.2.2.2.2.2.1 = 0
  · rw [if_pos h3, if_pos h3]
    exact ⟨_, _, rfl, al_no rfl⟩
  rw [if_neg h3, if_neg h3]
  by_cases h4 : q.2.2.2.2.2.1 * 10 + (c - 48) ≤ 999
  · obtain ⟨g1, b1, -, b2⟩ := al_set h (Or.inr (Or.inr hst)) hl (q.2.2.2.2.2.1 * 10 + (c - 48))
    rw [if_pos h4, if_pos h4, bnd_e b1]
    exact ⟨_, _, rfl, b2 hst⟩
  · rw [if_neg h4, if_neg h4]
    exact ⟨_, _, rfl, al_no rfl⟩
theorem AL.bz {o : Option QS} {r : Int32} {g' : MG} (h : AL q g o r g') : bz r = true := by
  rcases h with ⟨rfl, -⟩ | ⟨rfl, -⟩ <;> decide
theorem c_isAllowed (h : QMg q g) (hl : q.2.2.2.2.2.2.length < 60) (hst : q.2.1 = 0 ∨ q.2.1 = 1 ∨ q.2.1 = 2 ∨ q.2.1 = 3 ∨ q.2.1 = 4 ∨ q.2.1 = 5) (c : Int32) : ∃ r g', m_X2_isAllowed g c = some (r, g') ∧ AL q g (qAl q c) r g' := by
  have h2 : g.1 3 2 = q.2.1 := h.2.1
  unfold m_X2_isAllowed qAl
  rw [h2]
  by_cases e0 : q.2.1 = 0
  · obtain ⟨r, g', b1, b2⟩ := c_startsTest h e0 hl c
    rw [if_pos e0, if_pos e0, bnd2_e b1, if_pos b2.bz]
    exact ⟨_, _, rfl, b2⟩
  rw [if_neg e0, if_neg e0]
  by_cases e1 : q.2.1 = 1
  · obtain ⟨r, g', b1, b2⟩ := c_isSign h hl c
    rw [if_pos e1, if_pos e1, bnd2_e b1, if_pos b2.bz]
    exact ⟨_, _, rfl, b2⟩
  rw [if_neg e1, if_neg e1]
  by_cases e2 : q.2.1 = 2
  · obtain ⟨r, g', b1, b2⟩ := c_isMinus h e2 c
    rw [if_pos e2, if_pos e2, bnd2_e b1]
    rcases b2 with ⟨rfl, b2⟩ | ⟨rfl, rfl, b2⟩
    · rw [if_neg (by decide)]
      refine ⟨_, _, rfl, ?_⟩
      obtain ⟨k1, k2, k3, q', k4, k5⟩ := b2
      rw [k4]
      exact Or.inl ⟨rfl, k1, k2, k3, q', rfl, k5⟩
    · obtain ⟨r, g', d1, d2⟩ := c_isFirstDigit h (Or.inl e2) hl c
      rw [if_pos rfl, bnd2_e d1, b2, Option.none_or]
      rcases d2 with ⟨rfl, d2⟩ | ⟨rfl, d2⟩
      · rw [if_neg (by decide)]
        exact ⟨_, _, rfl, Or.inl ⟨rfl, d2⟩⟩
      · rw [if_pos rfl]
        exact ⟨_, _, rfl, Or.inr ⟨rfl, d2⟩⟩
  rw [if_neg e2, if_neg e2]
  by_cases e3 : q.2.1 = 3
  · obtain ⟨r, g', b1, b2⟩ := c_isFirstDigit h (Or.inr e3) hl c
    rw [if_pos e3, if_pos e3, bnd2_e b1, if_pos b2.bz]
    exact ⟨_, _, rfl, b2⟩
  rw [if_neg e3, if_neg e3]
  by_cases e4 : q.2.1 = 4
  · obtain ⟨r, g', b1, b2⟩ := c_isNextDigit h e4 hl c
    rw [if_pos e4, if_pos e4, bnd2_e b1]
    rcases b2 with ⟨rfl, b2⟩ | ⟨rfl, rfl, b2⟩
    · rw [if_neg (by decide)]
      refine ⟨_, _, rfl, ?_⟩
      obtain ⟨k1, k2, k3, q', k4, k5⟩ := b2
      rw [k4]
      exact Or.inl ⟨rfl, k1, k2, k3, q', rfl, k5⟩
    · obtain ⟨r, g', d1, d2⟩ := c_followsTest h (Or.inl e4) hl c
      rw [if_pos rfl, bnd2_e d1, b2, Option.none_or]
      rcases d2 with ⟨rfl, d2⟩ | ⟨rfl, d2⟩
      · rw [if_neg (by decide)]
        exact ⟨_, _, rfl, Or.inl ⟨rfl, d2⟩⟩
      · rw [if_pos rfl]
        exact ⟨_, _, rfl, Or.inr ⟨rfl, d2⟩⟩
  rw [if_neg e4, if_neg e4]
  have e5 : q.2.1 = 5 := by
    rcases hst with e | e | e | e | e | e
    · exact absurd e e0
    · exact absurd e e1
    · exact absurd e e2
    · exact absurd e e3
    · exact absurd e e4
    · exact e
  obtain ⟨r, g', b1, b2⟩ := c_followsTest h (Or.inr e5) hl c
  rw [bnd2_e b1, if_pos b2.bz]
  exact ⟨_, _, rfl, b2⟩
def StQ (q : QS) : Prop := q.2.1 = 0 ∨ q.2.1 = 1 ∨ q.2.1 = 2 ∨ q.2.1 = 3 ∨ q.2.1 = 4 ∨ q.2.1 = 5
theorem c_read (h : QMg q g) (hl : q.2.2.2.2.2.2.length < 60) (hst : StQ q) {p : Nat} (hp : g.1 3 0 = nI p) (c : Int32) : ∃ g', m_X2_read g c = some g' ∧ g'.2 = g.2 ∧ (∀ x, x ≠ 3 → x ≠ 9 → x ≠ 11 → x ≠ 13 → g'.1 x = g.1 x) ∧ g'.1 3 0 = nI (p + 1) ∧ QMg (crd (nI p) q c) g' ∧ (crd (nI p) q c).2.2.2.2.2.2.length ≤ q.2.2.2.2.2.2.length + 1 := by
  have up : ∀ {q' : QS} {G : MG} {v : Int32}, QMg q' G → QMg q' (g_w G 3 0 v) := fun {q' G v} k => by
    obtain ⟨a1, a2, a3, a4, a5, a6, a7, a8⟩ := k
    refine ⟨?_, ?_, ?_, ?_, fun hx => ?_, fun hx => ?_, ?_, ?_⟩
    · rw [gw_at, if_neg (by omega)]; exact a1
    · rw [gw_at, if_neg (by omega)]; exact a2
    · rw [gw_at, if_neg (by omega)]; exact a3
    · rw [gw_at, if_neg (by omega)]; exact a4
    · rw [gw_at, if_neg (by omega)]; exact a5 hx
    · rw [gw_at, if_neg (by omega)]; exact a6 hx
    · rw [gw_at, if_neg (by omega)]; exact a7
    · rw [gw_ne (by omega), gw_ne (by omega), gw_ne (by omega)]; exact a8
  have h1 : g.1 3 1 = q.1 := h.1
  unfold m_X2_read crd
  rw [h1]
  by_cases e : q.1 = -1005
  · obtain ⟨r, g', b1, b2⟩ := c_isAllowed h hl hst c
    rw [if_pos e, bnd2_e b1, if_pos e]
    rcases b2 with ⟨rfl, k1, k2, k3, q', k4, k5, k6, k7⟩ | ⟨rfl, rfl, k4⟩
    · rw [if_neg (by decide), k3, hp, nI_1, k4]
      exact ⟨_, rfl, k1, fun x h3 h9 h11 h13 => by rw [gw_ne h3, k2 x h3 h9 h11 h13], by rw [gw_at, if_pos rfl], up k7, k6⟩
    · have e0 : (g_w g' 3 1 (g'.1 3 0)).1 3 0 = nI p := by rw [gw_at, if_neg (by omega), hp]
      rw [if_pos rfl, e0, nI_1, hp, k4]
      refine ⟨_, rfl, rfl, fun x h3 _ _ _ => by rw [gw_ne h3, gw_ne h3], by rw [gw_at, if_pos rfl], up ?_, Nat.le_succ _⟩
      obtain ⟨a1, a2, a3, a4, a5, a6, a7, a8⟩ := h
      refine ⟨?_, ?_, ?_, ?_, fun hx => ?_, fun hx => ?_, ?_, ?_⟩
      · rw [gw_at, if_pos rfl]; rfl
      · rw [gw_at, if_neg (by omega)]; exact a2
      · rw [gw_at, if_neg (by omega)]; exact a3
      · rw [gw_at, if_neg (by omega)]; exact a4
      · rw [gw_at, if_neg (by omega)]; exact a5 hx
      · rw [gw_at, if_neg (by omega)]; exact a6 hx
      · rw [gw_at, if_neg (by omega)]; exact a7
      · rw [gw_ne (by omega), gw_ne (by omega), gw_ne (by omega)]; exact a8
  · rw [if_neg e, if_neg e, hp, nI_1]
    exact ⟨_, rfl, rfl, fun x h3 _ _ _ => gw_ne h3, by rw [gw_at, if_pos rfl], up h, Nat.le_succ _⟩
end
/-- every step is one of the six -/
theorem stq_al {q q' : QS} {c : Int32} (h : qAl q c = some q') : StQ q' := by
  have hT : ∀ q', qTest q c = some q' → StQ q' := fun q' h => by
    unfold qTest at h
    split at h
    · split at h
      · cases h; exact Or.inl rfl
      · cases h
    split at h
    · split at h
      · cases h; exact Or.inl rfl
      · cases h
    split at h
    · cases h; exact Or.inr (Or.inl rfl)
    split at h
    · cases h; exact Or.inr (Or.inl rfl)
    · cases h
  have hS : ∀ q', qSign q c = some q' → StQ q' := fun q' h => by
    unfold qSign at h
    split at h
    · cases h; exact Or.inr (Or.inr (Or.inl rfl))
    · cases h
  have hM : ∀ q', qMinus q c = some q' → StQ q' := fun q' h => by
    unfold qMinus at h
    split at h
    · cases h; exact Or.inr (Or.inr (Or.inr (Or.inl rfl)))
    · cases h
  have hF : ∀ q', qFirst q c = some q' → StQ q' := fun q' h => by
    unfold qFirst at h
    split at h
    · cases h
    split at h
    · cases h; exact Or.inr (Or.inr (Or.inr (Or.inr (Or.inl rfl))))
    · cases h
  have hN : ∀ q', qNext q c = some q' → StQ q' := fun q' h => by
    unfold qNext at h
    split at h
    · cases h
    split at h
    · cases h
    split at h
    · cases h
    split at h
    · cases h; exact Or.inr (Or.inr (Or.inr (Or.inr (Or.inl rfl))))
    · cases h
  have hB : ∀ q', qFol q c = some q' → StQ q' := fun q' h => by
    unfold qFol at h
    split at h
    · cases h; exact Or.inl rfl
    split at h
    · split at h
      · cases h
      · cases h; exact Or.inr (Or.inr (Or.inr (Or.inr (Or.inr rfl))))
    split at h
    · cases h; exact Or.inl rfl
    · cases h
  have ho : ∀ {a b : Option QS}, (∀ q', a = some q' → StQ q') → (∀ q', b = some q' → StQ q') → ∀ q', a.or b = some q' → StQ q' := fun {a b} h1 h2 q' h => by
    cases a with
    | none => rw [Option.none_or] at h; exact h2 _ h
    | some z => exact h1 _ h
  unfold qAl at h
  split at h
  · exact hT _ h
  split at h
  · exact hS _ h
  split at h
  · exact ho hM hF _ h
  split at h
  · exact hF _ h
  split at h
  · exact ho hN hB _ h
  · exact hB _ h
theorem stq_cst (T : Nat → Int32) : ∀ p, StQ (cst T p)
  | 0 => Or.inl rfl
  | p + 1 => by
    show StQ (crd (nI p) (cst T p) (T p))
    unfold crd
    split
    · cases h : qAl (cst T p) (T p) with
      | none => exact stq_cst T p
      | some q' => exact stq_al h
    · exact stq_cst T p
/-- both have the same text, and the class has read it -/
def QPx : QT := fun F K S M T L => ∃ n, n ≤ 60 ∧ L = nI n ∧ F 0 = nI n ∧ (cst T n).2.2.2.2.2.2.length ≤ n ∧ QM (cst T n) F K S M
section
variable {g h : MG}
theorem s_type (hR : Rel QPx g h) (x : Int32) : ∃ r g' h', m_X6_type g x = some (r, g') ∧ m_X7_type h x = some (r, h') ∧ Rel QPx g' h' := by
  obtain ⟨⟨n, c, m, u, hT⟩, hH, L, hL, e1, e2, hlen, hQ⟩ := hR
  unfold m_X6_type m_X7_type
  rw [e1, e2]
  by_cases h60 : L = 60
  · rw [if_neg (by rw [h60]; decide), if_pos (by rw [h60]; rfl)]
    exact ⟨_, _, _, rfl, rfl, ⟨n, c, m, u, hT⟩, hH, L, hL, e1, e2, hlen, hQ⟩
  · obtain ⟨g', b1, b2, b3, b4, b5, b6⟩ := c_read hQ (by omega) (stq_cst _ L) e2 x
    have e3 : (g_w h 4 (nI L).toNatClampNeg x).1 0 16 = nI L := by rw [gw_ne (by omega), e1]
    rw [show (60 : Int32) = nI 60 from rfl, if_pos (show nI L < nI 60 from nI_lt (by omega) (by omega)), bnd_e b1, if_neg (show ¬ nI L = nI 60 by rw [nI_eq (by omega) (by omega)]; exact h60), if_pos (vin_nI (by omega) (by omega)), e3, nI_1, b4, nI_clamp (by omega)]
    refine ⟨nI (L + 1), g', g_w (g_w h 4 L x) 0 16 (nI (L + 1)), rfl, by rw [gw_at, if_pos rfl], ⟨n, c, m, u, ?_⟩, ?_, L + 1, by omega, ?_, b4, ?_, ?_⟩
    · rw [gw_ne (by omega), gw_ne (by omega)]
      exact hT.cong (fun x h1 h2 => b3 x (by omega) (by omega) (by omega) (by omega))
    · refine hH.cong b2 (b3 1 (by omega) (by omega) (by omega) (by omega)) (fun x hx => b3 x (by omega) (by omega) (by omega) (by omega)) ?_ ?_ ?_ ?_
      · rw [gw_at, if_neg (by omega), gw_ne (by omega)]
      · rw [gw_at, if_neg (by omega), gw_ne (by omega)]
      · rw [gw_ne (by omega), gw_ne (by omega)]
      · rw [gw_ne (by omega), gw_ne (by omega)]
    · rw [gw_at, if_pos rfl]
    all_goals
      have e5 : (g_w (g_w h 4 L x) 0 16 (nI (L + 1))).1 4 = (g_w h 4 L x).1 4 := gw_ne (by omega)
      have e4 : cst ((g_w h 4 L x).1 4) (L + 1) = crd (nI L) (cst (h.1 4) L) x := by
        show crd (nI L) (cst ((g_w h 4 L x).1 4) L) ((g_w h 4 L x).1 4 L) = _
        rw [cst_cong (T := h.1 4) (fun i hi => by rw [gw_at, if_neg (by omega)]), gw_at, if_pos rfl]
      rw [e5, e4]
    · omega
    · exact b5
theorem s_clearText (hR : Rel QPx g h) : ∃ r g' h', m_X6_clearText g = some (r, g') ∧ m_X7_clearText h = some (r, h') ∧ Rel QPx g' h' := by
  obtain ⟨⟨n, c, m, u, hT⟩, hH, L, hL, e1, e2, hlen, hQ⟩ := hR
  unfold m_X6_clearText m_X7_clearText m_X2_forget
  have e3 : ∀ x, x ≠ 3 → (g_w (g_w (g_w (g_w (g_w (g_w g 3 0 (0 : Int32)) 3 1 (-1005 : Int32)) 3 2 (0 : Int32)) 3 3 (0 : Int32)) 3 4 (0 : Int32)) 3 7 (0 : Int32)).1 x = g.1 x := fun x hx => by
    rw [gw_ne hx, gw_ne hx, gw_ne hx, gw_ne hx, gw_ne hx, gw_ne hx]
  refine ⟨nI L, _, _, by rw [bnd_e rfl, e2], by rw [e1], ⟨n, c, m, u, ?_⟩, ?_, 0, by omega, ?_, ?_, Nat.le_refl _, ?_, ?_, ?_, ?_, fun hx => ?_, fun hx => ?_, ?_, trivial⟩
  · rw [gw_ne (by omega)]
    exact hT.cong (fun x h1 h2 => e3 x (by omega))
  · refine hH.cong rfl (e3 1 (by omega)) (fun x hx => e3 x (by omega)) ?_ ?_ ?_ ?_
    · rw [gw_at, if_neg (by omega)]
    · rw [gw_at, if_neg (by omega)]
    · rw [gw_ne (by omega)]
    · rw [gw_ne (by omega)]
  · rw [gw_at, if_pos rfl]; rfl
  · simp only [gw_at]
    rfl
  · simp only [gw_at]
    rfl
  · simp only [gw_at]
    rfl
  · simp only [gw_at]
    rfl
  · simp only [gw_at]
    rfl
  · exfalso
    revert hx
    show ¬ ((0 : Int32) = 2 ∨ (0 : Int32) = 3 ∨ (0 : Int32) = 4)
    decide
  · exfalso
    revert hx
    show ¬ (0 : Int32) = 4
    decide
  · simp only [gw_at]
    rfl
end
