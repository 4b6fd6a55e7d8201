/-! THE WORLD: a fixed table of cells (T), each at the address a k; what they hold is read off a memory g: g.1 k j the int at place j of cell k, g.2 j which table of rows the place j of the one array of tables names. -/
abbrev MG : Type := (Nat → Nat → Int32) × (Nat → Nat)
def g_w (g : MG) (k j : Nat) (v : Int32) : MG := (va_up g.1 k (upd (g.1 k) j v), g.2)
def g_c (g : MG) (k : Nat) (f : Nat → Int32) : MG := (va_up g.1 k f, g.2)
def g_p (g : MG) (j t : Nat) : MG := (g.1, va_up g.2 j t)
/-- a cell's shape: an object of a known kind, its fields (some k: the cell k; none: an int), or a row of ints, or the row of tables -/
abbrev LE : Type := (Nat × List (Option Nat)) ⊕ (Nat ⊕ Nat)
def fv (a : Nat → Nat) (f : Nat → Int32) : Nat → List (Option Nat) → List Value
  | _, [] => []
  | j, some k :: r => .ref (a k) :: fv a f (j + 1) r
  | j, none :: r => .int (f j) :: fv a f (j + 1) r
def ce (a : Nat → Nat) (cA cT : ClassId) (g : MG) (k : Nat) : LE → va_E
  | .inl (ci, fs) => .inr (ci, fv a (g.1 k) 0 fs)
  | .inr (.inl n) => .inl (cA, n, .inl (g.1 k))
  | .inr (.inr n) => .inl (cT, n, .inr (.inr (.inr (.inr (fun j => some (a (20 + 15 * g.2 j)))))))
def wl (a : Nat → Nat) (cA cT : ClassId) (g : MG) : Nat → List LE → va_W
  | _, [] => []
  | k, e :: r => (a k, ce a cA cT g k e) :: wl a cA cT g (k + 1) r
abbrev TY (cA cT : ClassId) : List (ClassId × FieldType) := [(cA, .int), (cT, .object "PrunedSlices$Table")]
abbrev WP (D : va_G) (a : Nat → Nat) (cA cT : ClassId) (T : List LE) (g : MG) (H : Heap) : Prop := va_P D vwCl (wl a cA cT g 0 T) H
def AA (a : Nat → Nat) (T : List LE) : Nat → Prop := fun q => ∃ k, k < T.length ∧ a k = q
abbrev WI (a : Nat → Nat) (T : List LE) : Prop := ∀ i j, i < T.length → j < T.length → a i = a j → i = j
theorem fv_get {a : Nat → Nat} {f : Nat → Int32} : ∀ (fs : List (Option Nat)) (j0 j : Nat), fs[j]? = some none → (fv a f j0 fs)[j]? = some (.int (f (j0 + j)))
  | [], _, _, h => by simp at h
  | some _ :: r, j0, 0, h => by simp at h
  | none :: r, j0, 0, h => rfl
  | some _ :: r, j0, j + 1, h => by
    have := fv_get (a := a) (f := f) r (j0 + 1) j (by simpa using h)
    rw [show j0 + (j + 1) = j0 + 1 + j by omega]
    exact this
  | none :: r, j0, j + 1, h => by
    have := fv_get (a := a) (f := f) r (j0 + 1) j (by simpa using h)
    rw [show j0 + (j + 1) = j0 + 1 + j by omega]
    exact this
theorem fv_getr {a : Nat → Nat} {f : Nat → Int32} {k : Nat} : ∀ (fs : List (Option Nat)) (j0 j : Nat), fs[j]? = some (some k) → (fv a f j0 fs)[j]? = some (.ref (a k))
  | [], _, _, h => by simp at h
  | some k0 :: r, j0, 0, h => by
    have h : k0 = k := by simpa using h
    subst h; rfl
  | none :: r, j0, 0, h => by simp at h
  | some _ :: r, j0, j + 1, h => fv_getr r (j0 + 1) j (by simpa using h)
  | none :: r, j0, j + 1, h => fv_getr r (j0 + 1) j (by simpa using h)
theorem fv_len {a : Nat → Nat} {f : Nat → Int32} : ∀ (fs : List (Option Nat)) (j0 : Nat), (fv a f j0 fs).length = fs.length
  | [], _ => rfl
  | some _ :: r, j0 => by simp [fv, fv_len r]
  | none :: r, j0 => by simp [fv, fv_len r]
theorem fv_congr {a : Nat → Nat} {f f' : Nat → Int32} : ∀ (fs : List (Option Nat)) (j0 : Nat), (∀ i, j0 ≤ i → f i = f' i) → fv a f j0 fs = fv a f' j0 fs
  | [], _, _ => rfl
  | some _ :: r, j0, h => by simp only [fv]; rw [fv_congr r (j0 + 1) (fun i hi => h i (by omega))]
  | none :: r, j0, h => by simp only [fv]; rw [fv_congr r (j0 + 1) (fun i hi => h i (by omega)), h j0 (Nat.le_refl _)]
theorem fv_set {a : Nat → Nat} {f : Nat → Int32} {v : Int32} : ∀ (fs : List (Option Nat)) (j0 j : Nat), fs[j]? = some none → (fv a f j0 fs).set j (.int v) = fv a (upd f (j0 + j) v) j0 fs
  | [], _, _, h => by simp at h
  | some _ :: r, j0, 0, h => by simp at h
  | none :: r, j0, 0, h => by
    simp only [fv, List.set_cons_zero]
    rw [fv_congr (f := f) (f' := upd f (j0 + 0) v) r (j0 + 1) (fun i hi => by simp only [upd]; rw [if_neg (by omega)])]
    simp [upd]
  | some _ :: r, j0, j + 1, h => by
    have := fv_set (a := a) (f := f) (v := v) r (j0 + 1) j (by simpa using h)
    simp only [fv, List.set_cons_succ]
    rw [this, show j0 + (j + 1) = j0 + 1 + j by omega]
  | none :: r, j0, j + 1, h => by
    have := fv_set (a := a) (f := f) (v := v) r (j0 + 1) j (by simpa using h)
    simp only [fv, List.set_cons_succ]
    rw [this, show j0 + (j + 1) = j0 + 1 + j by omega]
    congr 1
    simp only [upd]; rw [if_neg (by omega)]
section
variable {a : Nat → Nat} {cA cT : ClassId} {g g' : MG}
theorem wl_get : ∀ (T : List LE) (k0 i : Nat) (e : LE), T[i]? = some e → (wl a cA cT g k0 T)[i]? = some (a (k0 + i), ce a cA cT g (k0 + i) e)
  | [], _, _, _, h => by simp at h
  | e0 :: r, k0, 0, e, h => by
    have h : e0 = e := by simpa using h
    subst h; rfl
  | e0 :: r, k0, i + 1, e, h => by
    have := wl_get r (k0 + 1) i e (by simpa using h)
    rw [show k0 + (i + 1) = k0 + 1 + i by omega]
    exact this
theorem wl_get0 {T : List LE} {i : Nat} {e : LE} (h : T[i]? = some e) : (wl a cA cT g 0 T)[i]? = some (a i, ce a cA cT g i e) := by
  have := wl_get (a := a) (cA := cA) (cT := cT) (g := g) T 0 i e h
  rwa [Nat.zero_add] at this
theorem wl_len : ∀ (T : List LE) (k0 : Nat), (wl a cA cT g k0 T).length = T.length
  | [], _ => rfl
  | _ :: r, k0 => by simp [wl, wl_len r]
theorem wl_inv {T : List LE} {i : Nat} {q : Nat × va_E} (h : (wl a cA cT g 0 T)[i]? = some q) : i < T.length ∧ q.1 = a i := by
  have hl : i < T.length := by
    have := (List.getElem?_eq_some_iff.mp h).1
    rwa [wl_len] at this
  refine ⟨hl, ?_⟩
  have h2 := wl_get0 (a := a) (cA := cA) (cT := cT) (g := g) (List.getElem?_eq_getElem hl)
  rw [h] at h2
  exact congrArg Prod.fst (Option.some.inj h2)
theorem wl_congr : ∀ (T : List LE) (k0 : Nat), (∀ i e, T[i]? = some e → ce a cA cT g (k0 + i) e = ce a cA cT g' (k0 + i) e) → wl a cA cT g k0 T = wl a cA cT g' k0 T
  | [], _, _ => rfl
  | e0 :: r, k0, h => by
    simp only [wl]
    rw [wl_congr r (k0 + 1) (fun i e hi => by
      have := h (i + 1) e (by simpa using hi)
      rwa [show k0 + (i + 1) = k0 + 1 + i by omega] at this)]
    rw [show ce a cA cT g k0 e0 = ce a cA cT g' k0 e0 from h 0 e0 rfl]
theorem wl_set : ∀ (T : List LE) (k0 i : Nat) (e : LE), T[i]? = some e → (∀ j e', j ≠ i → T[j]? = some e' → ce a cA cT g' (k0 + j) e' = ce a cA cT g (k0 + j) e') → (wl a cA cT g k0 T).set i (a (k0 + i), ce a cA cT g' (k0 + i) e) = wl a cA cT g' k0 T
  | [], _, _, _, h, _ => by simp at h
  | e0 :: r, k0, 0, e, h, hc => by
    have h : e0 = e := by simpa using h
    subst h
    simp only [wl, List.set_cons_zero]
    rw [wl_congr (g := g) (g' := g') r (k0 + 1) (fun i e hi => by
      have := hc (i + 1) e (by omega) (by simpa using hi)
      rw [show k0 + (i + 1) = k0 + 1 + i by omega] at this
      exact this.symm)]
    rfl
  | e0 :: r, k0, i + 1, e, h, hc => by
    simp only [wl, List.set_cons_succ]
    have h1 := wl_set r (k0 + 1) i e (by simpa using h) (fun j e' hj hje => by
      have := hc (j + 1) e' (by omega) (by simpa using hje)
      rwa [show k0 + (j + 1) = k0 + 1 + j by omega] at this)
    rw [show k0 + (i + 1) = k0 + 1 + i by omega, h1]
    rw [show ce a cA cT g k0 e0 = ce a cA cT g' k0 e0 from (hc 0 e0 (by omega) rfl).symm]
/-- one cell's ints are others -/
theorem wl_set1 {T : List LE} {i : Nat} {e : LE} (h : T[i]? = some e) {f : Nat → Int32} : (wl a cA cT g 0 T).set i (a i, ce a cA cT (va_up g.1 i f, g.2) i e) = wl a cA cT (va_up g.1 i f, g.2) 0 T := by
  have := wl_set (a := a) (cA := cA) (cT := cT) (g := g) (g' := (va_up g.1 i f, g.2)) T 0 i e h (fun j e' hj _ => by
    have hu : va_up g.1 i f (0 + j) = g.1 (0 + j) := va_up_ne _ _ (by omega)
    rcases e' with ⟨ci, fs⟩ | n | n
    · simp only [ce, hu]
    · simp only [ce, hu]
    · rfl)
  rwa [Nat.zero_add] at this
theorem wl_setP {T : List LE} {i : Nat} {e : LE} (h : T[i]? = some e) (hu : ∀ j, j ≠ i → ∀ n, T[j]? ≠ some (.inr (.inr n))) {f : Nat → Nat} : (wl a cA cT g 0 T).set i (a i, ce a cA cT (g.1, f) i e) = wl a cA cT (g.1, f) 0 T := by
  have := wl_set (a := a) (cA := cA) (cT := cT) (g := g) (g' := (g.1, f)) T 0 i e h (fun j e' hj hje => by
    rcases e' with ⟨ci, fs⟩ | n | n
    · rfl
    · rfl
    · exact absurd hje (hu j hj n))
  rwa [Nat.zero_add] at this
theorem wl_D {T : List LE} (hI : WI a T) : va_D (AA a T) (wl a cA cT g 0 T) := by
  refine ⟨fun i j p q hp hq h => ?_, fun k q hq => ?_⟩
  · obtain ⟨h1, h2⟩ := wl_inv hp
    obtain ⟨h3, h4⟩ := wl_inv hq
    exact hI i j h1 h3 (by rw [← h2, ← h4, h])
  · obtain ⟨h1, h2⟩ := wl_inv hq
    exact ⟨k, h1, h2.symm⟩
end
def Wd (D : va_G) (a : Nat → Nat) (cA cT : ClassId) (T : List LE) (g : MG) : State → Prop := fun U => WP D a cA cT T g U.heap ∧ va_K D vwCl (TY cA cT) U
abbrev rmm (f n : Nat) : Room := { frames := f, cells := 0, slots := 0, locals := n }
/-- contracts over such a world: from g the method comes to g', with the answer r -/
def CtI (l : Launch) (D : va_G) (a : Nat → Nat) (cA cT : ClassId) (T : List LE) (y : MethodName) (ws : List Cond) (rm : Room) (As : List Value) (g : MG) (r : Int32) (g' : MG) : Prop :=
  Met l y ws rm (va_Pc As (Wd D a cA cT T g)) (va_Qi (fun (x : Int32) (_ : Unit) => x = r) (fun _ => Wd D a cA cT T g') (AA a T)) 0 0 (AA a T)
def CtV (l : Launch) (D : va_G) (a : Nat → Nat) (cA cT : ClassId) (T : List LE) (y : MethodName) (ws : List Cond) (rm : Room) (As : List Value) (g : MG) (g' : MG) : Prop :=
  Met l y ws rm (va_Pc As (Wd D a cA cT T g)) (va_Qv (fun (_ : Unit) => True) (fun _ => Wd D a cA cT T g') (AA a T)) 0 0 (AA a T)
def CtQ (l : Launch) (D : va_G) (a : Nat → Nat) (cA cT : ClassId) (T : List LE) (y : MethodName) (ws : List Cond) (rm : Room) (As : List Value) (g : MG) (r : Option Nat) (g' : MG) : Prop :=
  Met l y ws rm (va_Pc As (Wd D a cA cT T g)) (va_Qq (fun (x : Option Nat) (_ : Unit) => x = r.map (fun t => a (20 + 15 * t))) (fun _ => Wd D a cA cT T g') (AA a T)) 0 0 (AA a T)
def bz (v : Int32) : Bool := v == 0 || v == 1
theorem bz_n {v : Int32} (h : bz v = true) : narrow .boolean (.int v) = .int v := by
  simp only [bz, Bool.or_eq_true, beq_iff_eq] at h
  rcases h with rfl | rfl <;> rfl
theorem bz_f {v : Int32} (h : bz v = true) : fits .boolean (.int v) = true := h
theorem ite_t {α : Type} {p : Prop} {hd : Decidable p} {A B : Option α} {r : α} (hc : p) (h : (@ite _ p hd A B) = some r) : A = some r := by rwa [if_pos hc] at h
theorem ite_f {α : Type} {p : Prop} {hd : Decidable p} {A B : Option α} {r : α} (hc : ¬ p) (h : (@ite _ p hd A B) = some r) : B = some r := by rwa [if_neg hc] at h
theorem ite_n {α : Type} {p : Prop} {hd : Decidable p} {A : Option α} {r : α} (h : (@ite _ p hd A none) = some r) : p ∧ A = some r := by
  by_cases hc : p
  · exact ⟨hc, by rwa [if_pos hc] at h⟩
  · rw [if_neg hc] at h; cases h
