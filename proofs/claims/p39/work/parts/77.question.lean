/-! questions: the class' tokens and the reference's row of signs, what both come to (lists from the last one back) -/
abbrev TK : Type := Int32 × Int32 × Int32
def iv (v : Fin 3) : Int32 := nI v.val
def mn (a b : Fin 3) : Fin 3 := if a ≤ b then a else b
def mx (a b : Fin 3) : Fin 3 := if a ≤ b then b else a
def ng (a : Fin 3) : Fin 3 := 2 - a
/-- what a test comes to: of the key or of the value, its sign, its number -/
abbrev TAU : Type := Bool → Int32 → Int32 → Fin 3
def rNot : List (Fin 3) → Option (List (Fin 3))
  | [] => none
  | x :: r => some (ng x :: r)
def rTwo (k : Int32) : List (Fin 3) → Option (List (Fin 3))
  | [] => none
  | [_] => none
  | b :: a :: r => some ((if k = 2 then mn a b else mx a b) :: r)
def rst (τ : TAU) (t : TK) (vs : List (Fin 3)) : Option (List (Fin 3)) :=
  if t.1 = 5 then some (τ true t.2.1 t.2.2 :: vs) else if t.1 = 6 then some (τ false t.2.1 t.2.2 :: vs) else if t.1 = 1 then rNot vs else rTwo t.1 vs
def evR (τ : TAU) : List TK → Option (List (Fin 3))
  | [] => some []
  | t :: r => (evR τ r).bind (rst τ t)
/-- one depth of the class: what ended, what goes on, whether the next is turned over -/
abbrev CL : Type := Fin 3 × Fin 3 × Bool
def cAdd (v : Fin 3) : List CL → Option (List CL)
  | [] => none
  | z :: r => some ((z.1, mn z.2.1 (if z.2.2 = true then ng v else v), false) :: r)
def cNot : List CL → Option (List CL)
  | [] => none
  | z :: r => some ((z.1, z.2.1, !z.2.2) :: r)
def cEnd : List CL → Option (List CL)
  | [] => none
  | z :: r => some ((mx z.1 z.2.1, 2, z.2.2) :: r)
def cClose : List CL → Option (List CL)
  | [] => none
  | [_] => none
  | z :: y :: r => cAdd (mx z.1 z.2.1) (y :: r)
def cstp (τ : TAU) (t : TK) (cs : List CL) : Option (List CL) :=
  if t.1 = 33 then cNot cs else if t.1 = 40 then (if cs.length < 6 then some ((0, 2, false) :: cs) else none) else if t.1 = 41 then cClose cs else if t.1 = 107 then cAdd (τ true t.2.1 t.2.2) cs else if t.1 = 118 then cAdd (τ false t.2.1 t.2.2) cs else if t.1 = 124 then cEnd cs else some cs
def evC (τ : TAU) : List TK → Option (List CL)
  | [] => some [(0, 2, false)]
  | t :: r => (evC τ r).bind (cstp τ t)
theorem evR_c {τ : TAU} {t : TK} {r : List TK} {vs : List (Fin 3)} (h : evR τ r = some vs) : evR τ (t :: r) = rst τ t vs := by
  show (evR τ r).bind (rst τ t) = _
  rw [h]; rfl
theorem evC_c {τ : TAU} {t : TK} {r : List TK} {cs : List CL} (h : evC τ r = some cs) : evC τ (t :: r) = cstp τ t cs := by
  show (evC τ r).bind (cstp τ t) = _
  rw [h]; rfl
/-! what waits, between the class' depths and the reference's values -/
def sgW (A O : Option (Fin 3)) (w : List Int32) : List Int32 := (match A with | none => [] | some _ => [2]) ++ ((match O with | none => [] | some _ => [3]) ++ w)
def sgV (A O : Option (Fin 3)) (vs : List (Fin 3)) : List (Fin 3) := A.toList ++ (O.toList ++ vs)
/-- a test is due -/
def RD : List CL → List Int32 → List (Fin 3) → Prop
  | [], _, _ => False
  | z :: cs, w, vs => ∃ (k : Nat) (A O : Option (Fin 3)) (w' : List Int32) (vs' : List (Fin 3)), w = List.replicate k 1 ++ sgW A O w' ∧ vs = sgV A O vs' ∧ z.1 = O.getD 0 ∧ z.2.1 = A.getD 2 ∧ z.2.2 = (k % 2 == 1) ∧ ((cs = [] ∧ w' = [] ∧ vs' = []) ∨ ∃ w2, w' = 4 :: w2 ∧ RD cs w2 vs')
def TL (cs : List CL) (w' : List Int32) (vs' : List (Fin 3)) : Prop := (cs = [] ∧ w' = [] ∧ vs' = []) ∨ ∃ w2, w' = 4 :: w2 ∧ RD cs w2 vs'
/-- behind a test -/
def RN : List CL → List Int32 → List (Fin 3) → Prop
  | [], _, _ => False
  | z :: cs, w, vs => ∃ (A O : Option (Fin 3)) (x : Fin 3) (w' : List Int32) (vs' : List (Fin 3)), w = sgW A O w' ∧ vs = x :: sgV A O vs' ∧ z.1 = O.getD 0 ∧ z.2.1 = mn (A.getD 2) x ∧ z.2.2 = false ∧ TL cs w' vs'
/-- what waits is laid down -/
def stl (b : Int32) : List Int32 → List TK → List Int32 × List TK
  | [], o => ([], o)
  | x :: w, o => if x = 4 then (x :: w, o) else if b < x then (x :: w, o) else stl b w ((x, 0, 0) :: o)
theorem stl_n {b : Int32} {o : List TK} : stl b [] o = ([], o) := rfl
theorem stl_4 {b : Int32} {w : List Int32} {o : List TK} : stl b (4 :: w) o = (4 :: w, o) := by
  show (if (4 : Int32) = 4 then _ else _) = _
  rw [if_pos rfl]
theorem stl_g {b x : Int32} {w : List Int32} {o : List TK} (h4 : ¬ x = 4) (h : b < x) : stl b (x :: w) o = (x :: w, o) := by
  show (if x = 4 then _ else _) = _
  rw [if_neg h4, if_pos h]
theorem stl_s {b x : Int32} {w : List Int32} {o : List TK} (h4 : ¬ x = 4) (h : ¬ b < x) : stl b (x :: w) o = stl b w ((x, 0, 0) :: o) := by
  show (if x = 4 then _ else _) = _
  rw [if_neg h4, if_neg h]
theorem stl_len (b : Int32) : ∀ (w : List Int32) (o : List TK), (stl b w o).1.length + (stl b w o).2.length = w.length + o.length
  | [], o => rfl
  | x :: w, o => by
    by_cases h4 : x = 4
    · subst h4; rw [stl_4]
    · by_cases h : b < x
      · rw [stl_g h4 h]
      · rw [stl_s h4 h, stl_len b w _, List.length_cons, List.length_cons]
        omega
theorem stl_le (b : Int32) : ∀ (w : List Int32) (o : List TK), (stl b w o).1.length ≤ w.length
  | [], o => Nat.le_refl _
  | x :: w, o => by
    by_cases h4 : x = 4
    · subst h4; rw [stl_4]; exact Nat.le_refl _
    · by_cases h : b < x
      · rw [stl_g h4 h]; exact Nat.le_refl _
      · rw [stl_s h4 h, List.length_cons]
        exact Nat.le_succ_of_le (stl_le b w _)
theorem ng_ng (x : Fin 3) : ng (ng x) = x := by revert x; decide
theorem mn_2 (x : Fin 3) : mn 2 x = x := by revert x; decide
theorem mx_0 (x : Fin 3) : mx 0 x = x := by revert x; decide
theorem rst_not (τ : TAU) (x : Fin 3) (vs : List (Fin 3)) : rst τ (1, 0, 0) (x :: vs) = some (ng x :: vs) := by
  unfold rst
  rw [if_neg (by decide), if_neg (by decide), if_pos rfl]
  rfl
theorem rst_and (τ : TAU) (a b : Fin 3) (vs : List (Fin 3)) : rst τ (2, 0, 0) (b :: a :: vs) = some (mn a b :: vs) := by
  unfold rst
  rw [if_neg (by decide), if_neg (by decide), if_neg (by decide)]
  rfl
theorem rst_or (τ : TAU) (a b : Fin 3) (vs : List (Fin 3)) : rst τ (3, 0, 0) (b :: a :: vs) = some (mx a b :: vs) := by
  unfold rst
  rw [if_neg (by decide), if_neg (by decide), if_neg (by decide)]
  show some ((if (3 : Int32) = 2 then mn a b else mx a b) :: vs) = _
  rw [if_neg (by decide)]
theorem odd_s (k : Nat) : ((k + 1) % 2 == 1) = !(k % 2 == 1) := by
  rw [Bool.eq_iff_iff, Bool.not_eq_true', beq_iff_eq, beq_eq_false_iff_ne]
  omega
theorem stl_nots (τ : TAU) : ∀ (k : Nat) (w : List Int32) (o : List TK) (x : Fin 3) (vs : List (Fin 3)), evR τ o = some (x :: vs) → ∃ o', stl 1 (List.replicate k 1 ++ w) o = stl 1 w o' ∧ evR τ o' = some ((if (k % 2 == 1) = true then ng x else x) :: vs)
  | 0, w, o, x, vs, h => ⟨o, rfl, h⟩
  | k + 1, w, o, x, vs, h => by
    obtain ⟨o', h1, h2⟩ := stl_nots τ k w ((1, 0, 0) :: o) (ng x) vs ((evR_c h).trans (rst_not τ x vs))
    refine ⟨o', ?_, ?_⟩
    · rw [List.replicate_succ, List.cons_append, stl_s (by decide) (by decide), h1]
    · rw [h2, odd_s]
      cases (k % 2 == 1)
      · rfl
      · simp only [Bool.not_true, if_true, ng_ng]
        rfl
theorem stl_stop (A O : Option (Fin 3)) {cs : List CL} {w' : List Int32} {vs' : List (Fin 3)} (h : TL cs w' vs') (o : List TK) : stl 1 (sgW A O w') o = (sgW A O w', o) := by
  cases A with
  | some a => exact stl_g (by decide) (by decide)
  | none =>
    cases O with
    | some a => exact stl_g (by decide) (by decide)
    | none =>
      rcases h with ⟨-, rfl, -⟩ | ⟨w2, rfl, -⟩
      · exact stl_n
      · exact stl_4
/-- behind a test or a ")" -/
theorem q_add {τ : TAU} {cs : List CL} {w : List Int32} {vs : List (Fin 3)} {o : List TK} {x : Fin 3} (h : RD cs w vs) (ho : evR τ o = some (x :: vs)) : ∃ cs2 vs2, cAdd x cs = some cs2 ∧ evR τ (stl 1 w o).2 = some vs2 ∧ RN cs2 (stl 1 w o).1 vs2 ∧ cs2.length = cs.length := by
  cases cs with
  | nil => exact absurd h (fun q => q)
  | cons z cs =>
    obtain ⟨k, A, O, w', vs', rfl, rfl, h1, h2, h3, h4⟩ := h
    obtain ⟨o', e1, e2⟩ := stl_nots τ k (sgW A O w') o x _ ho
    rw [e1, stl_stop A O h4 o']
    refine ⟨_, _, rfl, e2, ⟨A, O, _, w', vs', rfl, rfl, h1, ?_, rfl, h4⟩, rfl⟩
    show mn z.2.1 _ = _
    rw [h2, h3]
/-- "&" -/
theorem q_and {τ : TAU} {cs : List CL} {w : List Int32} {vs : List (Fin 3)} {o : List TK} (h : RN cs w vs) (ho : evR τ o = some vs) : ∃ vs2, evR τ (stl 2 w o).2 = some vs2 ∧ RD cs (2 :: (stl 2 w o).1) vs2 := by
  cases cs with
  | nil => exact absurd h (fun q => q)
  | cons z cs =>
    obtain ⟨A, O, x, w', vs', rfl, rfl, h1, h2, h3, h4⟩ := h
    have stop : ∀ o, stl 2 (sgW none O w') o = (sgW none O w', o) := fun o => by
      cases O with
      | some a => exact stl_g (by decide) (by decide)
      | none =>
        rcases h4 with ⟨-, rfl, -⟩ | ⟨w2, rfl, -⟩
        · exact stl_n
        · exact stl_4
    cases A with
    | none =>
      rw [stop]
      exact ⟨_, ho, 0, some x, O, w', vs', rfl, rfl, h1, by rw [h2]; exact mn_2 x, h3, h4⟩
    | some a =>
      have e : stl 2 (sgW (some a) O w') o = (sgW none O w', (2, 0, 0) :: o) := by
        show stl 2 (2 :: sgW none O w') o = _
        rw [stl_s (by decide) (by decide), stop]
      rw [e]
      exact ⟨_, (evR_c ho).trans (rst_and τ a x _), 0, some (mn a x), O, w', vs', rfl, rfl, h1, h2, h3, h4⟩
/-- a part ends -/
theorem q_end {τ : TAU} {z : CL} {cs : List CL} {w : List Int32} {vs : List (Fin 3)} {o : List TK} (h : RN (z :: cs) w vs) (ho : evR τ o = some vs) : ∃ w' vs', (stl 3 w o).1 = w' ∧ evR τ (stl 3 w o).2 = some (mx z.1 z.2.1 :: vs') ∧ z.2.2 = false ∧ TL cs w' vs' := by
  obtain ⟨A, O, x, w', vs', rfl, rfl, h1, h2, h3, h4⟩ := h
  have stop : ∀ o, stl 3 w' o = (w', o) := fun o => by
    rcases h4 with ⟨-, rfl, -⟩ | ⟨w2, rfl, -⟩
    · exact stl_n
    · exact stl_4
  cases A with
  | none =>
    cases O with
    | none =>
      have e : stl 3 (sgW none none w') o = (w', o) := stop o
      rw [e]
      refine ⟨w', vs', rfl, ?_, h3, h4⟩
      rw [h1, h2]
      show evR τ o = some (mx 0 (mn 2 x) :: vs')
      rw [mn_2, mx_0, ho]
      rfl
    | some b =>
      have e : stl 3 (sgW none (some b) w') o = (w', (3, 0, 0) :: o) := by
        show stl 3 (3 :: w') o = _
        rw [stl_s (by decide) (by decide), stop]
      rw [e]
      refine ⟨w', vs', rfl, ?_, h3, h4⟩
      rw [h1, h2]
      show evR τ ((3, 0, 0) :: o) = some (mx b (mn 2 x) :: vs')
      rw [mn_2, evR_c ho]
      exact rst_or τ b x vs'
  | some a =>
    cases O with
    | none =>
      have e : stl 3 (sgW (some a) none w') o = (w', (2, 0, 0) :: o) := by
        show stl 3 (2 :: w') o = _
        rw [stl_s (by decide) (by decide), stop]
      rw [e]
      refine ⟨w', vs', rfl, ?_, h3, h4⟩
      rw [h1, h2]
      show evR τ ((2, 0, 0) :: o) = some (mx 0 (mn a x) :: vs')
      rw [mx_0, evR_c ho]
      exact rst_and τ a x vs'
    | some b =>
      have e : stl 3 (sgW (some a) (some b) w') o = (w', (3, 0, 0) :: (2, 0, 0) :: o) := by
        show stl 3 (2 :: 3 :: w') o = _
        rw [stl_s (by decide) (by decide), stl_s (by decide) (by decide), stop]
      rw [e]
      refine ⟨w', vs', rfl, ?_, h3, h4⟩
      rw [h1, h2]
      show evR τ ((3, 0, 0) :: (2, 0, 0) :: o) = some (mx b (mn a x) :: vs')
      have e1 : evR τ ((2, 0, 0) :: o) = some (mn a x :: b :: vs') := (evR_c ho).trans (rst_and τ a x _)
      rw [evR_c e1]
      exact rst_or τ b _ vs'
/-- "|" -/
theorem q_or {τ : TAU} {cs : List CL} {w : List Int32} {vs : List (Fin 3)} {o : List TK} (h : RN cs w vs) (ho : evR τ o = some vs) : ∃ cs2 vs2, cEnd cs = some cs2 ∧ evR τ (stl 3 w o).2 = some vs2 ∧ RD cs2 (3 :: (stl 3 w o).1) vs2 ∧ cs2.length = cs.length := by
  cases cs with
  | nil => exact absurd h (fun q => q)
  | cons z cs =>
    obtain ⟨w', vs', e1, e2, e3, e4⟩ := q_end h ho
    exact ⟨_, _, rfl, e2, ⟨0, none, some (mx z.1 z.2.1), w', vs', by rw [e1]; rfl, rfl, rfl, rfl, e3, e4⟩, rfl⟩
/-- ")" -/
theorem q_close {τ : TAU} {cs : List CL} {w : List Int32} {vs : List (Fin 3)} {o : List TK} (h : RN cs w vs) (hd : 1 < cs.length) (ho : evR τ o = some vs) : ∃ cs2 w2 vs2, cClose cs = some cs2 ∧ (stl 3 w o).1 = 4 :: w2 ∧ evR τ (stl 1 w2 (stl 3 w o).2).2 = some vs2 ∧ RN cs2 (stl 1 w2 (stl 3 w o).2).1 vs2 ∧ cs2.length + 1 = cs.length := by
  cases cs with
  | nil => exact absurd h (fun q => q)
  | cons z cs =>
    obtain ⟨w', vs', e1, e2, e3, e4⟩ := q_end h ho
    rcases e4 with ⟨rfl, -, -⟩ | ⟨w2, rfl, e4⟩
    · exact absurd hd (Nat.lt_irrefl 1)
    · cases cs with
      | nil => exact absurd e4 (fun q => q)
      | cons y cs =>
        obtain ⟨cs2, vs2, f1, f2, f3, f4⟩ := q_add e4 e2
        exact ⟨cs2, w2, vs2, f1, e1, f2, f3, by rw [f4]; rfl⟩
/-- "(" -/
theorem q_open {cs : List CL} {w : List Int32} {vs : List (Fin 3)} (h : RD cs w vs) : RD ((0, 2, false) :: cs) (4 :: w) vs :=
  ⟨0, none, none, 4 :: w, vs, rfl, rfl, rfl, rfl, rfl, Or.inr ⟨w, rfl, h⟩⟩
/-- "!" -/
theorem q_not {cs : List CL} {w : List Int32} {vs : List (Fin 3)} (h : RD cs w vs) : ∃ cs2, cNot cs = some cs2 ∧ RD cs2 (1 :: w) vs ∧ cs2.length = cs.length := by
  cases cs with
  | nil => exact absurd h (fun q => q)
  | cons z cs =>
    obtain ⟨k, A, O, w', vs', rfl, rfl, h1, h2, h3, h4⟩ := h
    refine ⟨_, rfl, ⟨k + 1, A, O, w', vs', rfl, rfl, h1, h2, ?_, h4⟩, rfl⟩
    rw [odd_s, ← h3]
/-- the start -/
theorem q_start : RD [(0, 2, false)] [] [] := ⟨0, none, none, [], [], rfl, rfl, rfl, rfl, rfl, Or.inl ⟨rfl, rfl, rfl⟩⟩
/-- the end -/
theorem q_last {τ : TAU} {z : CL} {w : List Int32} {vs : List (Fin 3)} {o : List TK} (h : RN [z] w vs) (ho : evR τ o = some vs) : (stl 3 w o).1 = [] ∧ evR τ (stl 3 w o).2 = some [mx z.1 z.2.1] := by
  obtain ⟨w', vs', e1, e2, e3, e4⟩ := q_end h ho
  rcases e4 with ⟨-, rfl, rfl⟩ | ⟨w2, rfl, e4⟩
  · exact ⟨e1, e2⟩
  · exact absurd e4 (fun q => q)
