/-! the reference reads the text anew; the class knew it -/
def RowM (f5 f6 f7 : Nat → Int32) : List TK → Prop
  | [] => True
  | t :: r => (f5 r.length = t.1 ∧ f6 r.length = t.2.1 ∧ f7 r.length = t.2.2) ∧ RowM f5 f6 f7 r
def StM (f : Nat → Int32) : List Int32 → Prop
  | [] => True
  | x :: r => f r.length = x ∧ StM f r
theorem RowM.cong {f5 f6 f7 e5 e6 e7 : Nat → Int32} : ∀ {o : List TK}, RowM f5 f6 f7 o → (∀ i, i < o.length → e5 i = f5 i ∧ e6 i = f6 i ∧ e7 i = f7 i) → RowM e5 e6 e7 o
  | [], _, _ => trivial
  | t :: r, h, e => by
    obtain ⟨⟨h1, h2, h3⟩, h4⟩ := h
    have e0 := e r.length (Nat.lt_succ_self _)
    exact ⟨⟨e0.1.trans h1, e0.2.1.trans h2, e0.2.2.trans h3⟩, h4.cong (fun i hi => e i (Nat.lt_succ_of_lt hi))⟩
theorem StM.cong {f e : Nat → Int32} : ∀ {w : List Int32}, StM f w → (∀ i, i < w.length → e i = f i) → StM e w
  | [], _, _ => trivial
  | x :: r, h, k => ⟨(k r.length (Nat.lt_succ_self _)).trans h.1, h.2.cong (fun i hi => k i (Nat.lt_succ_of_lt hi))⟩
def RQ (h0 h : MG) (w : List Int32) (o : List TK) (p : Nat) : Prop := (∀ x, x ≠ 0 → x ≠ 5 → x ≠ 6 → x ≠ 7 → x ≠ 8 → h.1 x = h0.1 x) ∧ (∀ j, j ≠ 8 → j ≠ 9 → j ≠ 10 → h.1 0 j = h0.1 0 j) ∧ h.1 0 8 = nI o.length ∧ h.1 0 9 = nI w.length ∧ h.1 0 10 = nI p ∧ RowM (h.1 5) (h.1 6) (h.1 7) o ∧ StM (h.1 8) w
section
variable {h0 h : MG} {w : List Int32} {o : List TK} {p : Nat}
theorem rq_add (h1 : RQ h0 h w o p) (ho : o.length < 120) (a b d : Int32) : ∃ h', m_X7_add h a b d = some h' ∧ RQ h0 h' w ((a, b, d) :: o) p := by
  obtain ⟨a1, a2, a3, a4, a5, a6, a7⟩ := h1
  have hv : vin (nI o.length) 120 := vin_nI ho (by omega)
  have hc : (nI o.length).toNatClampNeg = o.length := nI_clamp (by omega)
  have k1 : (g_w h 5 o.length a).1 0 8 = nI o.length := by rw [gw_ne (by omega), a3]
  have k2 : (g_w (g_w h 5 o.length a) 6 o.length b).1 0 8 = nI o.length := by rw [gw_ne (by omega), k1]
  have k3 : (g_w (g_w (g_w h 5 o.length a) 6 o.length b) 7 o.length d).1 0 8 = nI o.length := by rw [gw_ne (by omega), k2]
  have key : m_X7_add h a b d = some (g_w (g_w (g_w (g_w h 5 o.length a) 6 o.length b) 7 o.length d) 0 8 (nI (o.length + 1))) := by
    unfold m_X7_add
    rw [a3, if_pos hv, hc, k1, if_pos hv, hc, k2, if_pos hv, hc, k3, nI_1]
  have hz : ∀ j, j ≠ 8 → (g_w (g_w (g_w (g_w h 5 o.length a) 6 o.length b) 7 o.length d) 0 8 (nI (o.length + 1))).1 0 j = h.1 0 j := fun j hj => by
    rw [gw_at, if_neg hj, gw_ne (by omega), gw_ne (by omega), gw_ne (by omega)]
  refine ⟨_, key, fun x x0 x5 x6 x7 x8 => ?_, fun j j8 j9 j10 => ?_, ?_, ?_, ?_, ⟨⟨?_, ?_, ?_⟩, ?_⟩, ?_⟩
  · rw [gw_ne x0, gw_ne x7, gw_ne x6, gw_ne x5, a1 x x0 x5 x6 x7 x8]
  · rw [hz j j8, a2 j j8 j9 j10]
  · rw [gw_at, if_pos rfl]; rfl
  · rw [hz 9 (by omega), a4]
  · rw [hz 10 (by omega), a5]
  · rw [gw_ne (by omega), gw_ne (by omega), gw_ne (by omega), gw_at, if_pos rfl]
  · rw [gw_ne (by omega), gw_ne (by omega), gw_at, if_pos rfl]
  · rw [gw_ne (by omega), gw_at, if_pos rfl]
  · refine a6.cong (fun i hi => ⟨?_, ?_, ?_⟩)
    · rw [gw_ne (by omega), gw_ne (by omega), gw_ne (by omega), gw_at, if_neg (by omega)]
    · rw [gw_ne (by omega), gw_ne (by omega), gw_at, if_neg (by omega), gw_ne (by omega)]
    · rw [gw_ne (by omega), gw_at, if_neg (by omega), gw_ne (by omega), gw_ne (by omega)]
  · rw [gw_ne (by omega), gw_ne (by omega), gw_ne (by omega), gw_ne (by omega)]
    exact a7
theorem rq_place (h1 : RQ h0 h w o p) (p' : Nat) : RQ h0 (g_w h 0 10 (nI p')) w o p' := by
  obtain ⟨a1, a2, a3, a4, a5, a6, a7⟩ := h1
  refine ⟨fun x x0 x5 x6 x7 x8 => ?_, fun j j8 j9 j10 => ?_, ?_, ?_, ?_, ?_, ?_⟩
  · rw [gw_ne x0, a1 x x0 x5 x6 x7 x8]
  · rw [gw_at, if_neg j10, a2 j j8 j9 j10]
  · rw [gw_at, if_neg (by omega), a3]
  · rw [gw_at, if_neg (by omega), a4]
  · rw [gw_at, if_pos rfl]
  · rw [gw_ne (by omega), gw_ne (by omega), gw_ne (by omega)]; exact a6
  · rw [gw_ne (by omega)]; exact a7
theorem rq_pop {x : Int32} (h1 : RQ h0 h (x :: w) o p) : RQ h0 (g_w h 0 9 (nI w.length)) w o p := by
  obtain ⟨a1, a2, a3, a4, a5, a6, a7⟩ := h1
  refine ⟨fun x x0 x5 x6 x7 x8 => ?_, fun j j8 j9 j10 => ?_, ?_, ?_, ?_, ?_, ?_⟩
  · rw [gw_ne x0, a1 x x0 x5 x6 x7 x8]
  · rw [gw_at, if_neg j9, a2 j j8 j9 j10]
  · rw [gw_at, if_neg (by omega), a3]
  · rw [gw_at, if_pos rfl]
  · rw [gw_at, if_neg (by omega), a5]
  · rw [gw_ne (by omega), gw_ne (by omega), gw_ne (by omega)]; exact a6
  · rw [gw_ne (by omega)]; exact a7.2
/-- something waits from now on, and the place goes on -/
theorem rq_push (h1 : RQ h0 h w o p) (hw : w.length < 120) (x : Int32) : vin (h.1 0 9) 120 ∧ RQ h0 (g_w (g_w (g_w h 8 (h.1 0 9).toNatClampNeg x) 0 9 (((g_w h 8 (h.1 0 9).toNatClampNeg x).1 0 9) + (1 : Int32))) 0 10 (((g_w (g_w h 8 (h.1 0 9).toNatClampNeg x) 0 9 (((g_w h 8 (h.1 0 9).toNatClampNeg x).1 0 9) + (1 : Int32))).1 0 10) + (1 : Int32))) (x :: w) o (p + 1) := by
  obtain ⟨a1, a2, a3, a4, a5, a6, a7⟩ := h1
  have hc : (nI w.length).toNatClampNeg = w.length := nI_clamp (by omega)
  have k1 : (g_w h 8 w.length x).1 0 9 = nI w.length := by rw [gw_ne (by omega), a4]
  have k2 : (g_w (g_w h 8 w.length x) 0 9 (nI (w.length + 1))).1 0 10 = nI p := by rw [gw_at, if_neg (by omega), gw_ne (by omega), a5]
  rw [a4, hc, k1, nI_1, k2, nI_1]
  refine ⟨vin_nI hw (by omega), fun x x0 x5 x6 x7 x8 => ?_, fun j j8 j9 j10 => ?_, ?_, ?_, ?_, ?_, ⟨?_, ?_⟩⟩
  · rw [gw_ne x0, gw_ne x0, gw_ne x8, a1 x x0 x5 x6 x7 x8]
  · rw [gw_at, if_neg j10, gw_at, if_neg j9, gw_ne (by omega), a2 j j8 j9 j10]
  · rw [gw_at, if_neg (by omega), gw_at, if_neg (by omega), gw_ne (by omega), a3]
  · rw [gw_at, if_neg (by omega), gw_at, if_pos rfl]; rfl
  · rw [gw_at, if_pos rfl]
  · rw [gw_ne (by omega), gw_ne (by omega), gw_ne (by omega), gw_ne (by omega), gw_ne (by omega), gw_ne (by omega), gw_ne (by omega), gw_ne (by omega), gw_ne (by omega)]; exact a6
  · rw [gw_ne (by omega), gw_ne (by omega), gw_at, if_pos rfl]
  · refine a7.cong (fun i hi => ?_)
    rw [gw_ne (by omega), gw_ne (by omega), gw_at, if_neg (by omega)]
end
theorem rq_settle {h0 : MG} {p : Nat} (b : Int32) : ∀ (w : List Int32) (o : List TK) (h : MG) (f : Nat), RQ h0 h w o p → w.length + o.length < 120 → w.length < f → ∃ h', lpo (b_X7_settle_L0 b) f h = some h' ∧ RQ h0 h' (stl b w o).1 (stl b w o).2 p
  | [], o, h, f, h1, _, hf => by
    obtain ⟨f', rfl⟩ : ∃ f', f = f' + 1 := ⟨f - 1, by omega⟩
    refine ⟨h, ?_, h1⟩
    show m_X7_settle_L0 _ b h = _
    unfold m_X7_settle_L0
    rw [h1.2.2.2.1, if_pos (show nI ([] : List Int32).length ≤ 0 by decide)]
  | x :: w, o, h, f, h1, hl, hf => by
    obtain ⟨f', rfl⟩ : ∃ f', f = f' + 1 := ⟨f - 1, by omega⟩
    rw [List.length_cons] at hl hf
    have h9 : h.1 0 9 = nI (w.length + 1) := h1.2.2.2.1
    have h8 : h.1 8 w.length = x := h1.2.2.2.2.2.2.1
    have hc : (nI w.length).toNatClampNeg = w.length := nI_clamp (by omega)
    have hv : vin (nI w.length) 120 := vin_nI (by omega) (by omega)
    have k1 : (g_w h 0 9 (nI w.length)).1 0 9 = nI w.length := by rw [gw_at, if_pos rfl]
    have k2 : (g_w h 0 9 (nI w.length)).1 8 w.length = x := by rw [gw_ne (by omega), h8]
    have hbody : lpo (b_X7_settle_L0 b) (f' + 1) h = m_X7_settle_L0 (lpo (b_X7_settle_L0 b) f') b h := rfl
    rw [hbody]
    unfold m_X7_settle_L0
    have k0 : h.1 8 (nI w.length).toNatClampNeg = x := by rw [hc, h8]
    have k3 : (g_w h 0 9 (nI w.length)).1 8 (nI w.length).toNatClampNeg = x := by rw [hc, k2]
    rw [h9, nI_pred, if_neg (nI_nle (by omega) (by omega)), if_pos hv, k0]
    by_cases e4 : x = 4
    · subst e4
      rw [if_pos rfl, stl_4]
      exact ⟨h, rfl, h1⟩
    · rw [if_neg e4, if_pos hv]
      by_cases e : b < x
      · rw [if_pos e, stl_g e4 e]
        exact ⟨h, rfl, h1⟩
      · rw [if_neg e, k1, if_pos hv, k3, stl_s e4 e]
        obtain ⟨h', b1, b2⟩ := rq_add (rq_pop h1) (by omega) x 0 0
        rw [bnd_e b1]
        exact rq_settle b w _ h' f' b2 (by rw [List.length_cons]; omega) (by omega)
theorem r_settle {h0 h : MG} {w : List Int32} {o : List TK} {p : Nat} (h1 : RQ h0 h w o p) (hl : w.length + o.length < 120) (b : Int32) : ∃ h', m_X7_settle h b = some h' ∧ RQ h0 h' (stl b w o).1 (stl b w o).2 p := rq_settle b w o h fuelN h1 hl (by unfold fuelN; omega)
/-! what the class knows as it goes on -/
theorem cst_up {T : Nat → Int32} {p : Nat} {q' : QS} (h1 : (cst T p).1 = -1005) (h2 : qAl (cst T p) (T p) = some q') : cst T (p + 1) = q' := by
  show crd (nI p) (cst T p) (T p) = q'
  unfold crd
  rw [if_pos h1, h2]
  rfl
theorem cst_no {T : Nat → Int32} {p : Nat} (h1 : (cst T p).1 = -1005) (h2 : qAl (cst T p) (T p) = none) : cst T (p + 1) = (nI p, (cst T p).2) := by
  show crd (nI p) (cst T p) (T p) = _
  unfold crd
  rw [if_pos h1, h2]
  rfl
theorem cst_stay {T : Nat → Int32} {p : Nat} (h : ¬ (cst T p).1 = -1005) : ∀ k, cst T (p + k) = cst T p
  | 0 => rfl
  | k + 1 => by
    show crd (nI (p + k)) (cst T (p + k)) (T (p + k)) = _
    rw [cst_stay h k]
    unfold crd
    rw [if_neg h]
def FV (T : Nat → Int32) (n : Nat) : Int32 := if (cst T n).1 = -1005 then (if ((cst T n).2.1 = 4 ∨ (cst T n).2.1 = 5) ∧ (cst T n).2.2.1 = 0 then -1005 else nI n) else (cst T n).1
theorem fv_stop {T : Nat → Int32} {p n : Nat} (hn : n ≤ 60) (h1 : (cst T p).1 = -1005) (hp : p ≤ n) (h2 : p = n → ¬ (((cst T p).2.1 = 4 ∨ (cst T p).2.1 = 5) ∧ (cst T p).2.2.1 = 0)) (h3 : p < n → qAl (cst T p) (T p) = none) : FV T n = nI p := by
  unfold FV
  rcases Nat.lt_or_ge p n with a | a
  · have e := cst_no h1 (h3 a)
    have hne : ¬ (cst T (p + 1)).1 = -1005 := by
      rw [e]
      exact nI_ne_m (by omega) (by decide)
    have e2 := cst_stay hne (n - (p + 1))
    rw [show p + 1 + (n - (p + 1)) = n by omega] at e2
    rw [e2, if_neg hne, e]
  · have : p = n := by omega
    subst this
    rw [if_pos h1, if_neg (h2 rfl)]
theorem c_firstFault {g : MG} {T : Nat → Int32} {n : Nat} (h : QMg (cst T n) g) (h0 : g.1 3 0 = nI n) : m_X2_firstFault g = some (FV T n) := by
  obtain ⟨a1, a2, a3, -⟩ := h
  unfold m_X2_firstFault FV
  rw [a1, a2, a3, h0]
  by_cases e : (cst T n).1 = -1005
  · rw [if_pos e, if_pos e]
    by_cases e4 : (cst T n).2.1 = 4
    · rw [if_pos e4, if_neg (by decide)]
      by_cases e0 : (cst T n).2.2.1 = 0
      · rw [if_pos e0, if_pos ⟨Or.inl e4, e0⟩]
      · rw [if_neg e0, if_neg (fun q => e0 q.2)]
    · rw [if_neg e4]
      by_cases e5 : (cst T n).2.1 = 5
      · rw [if_pos e5, if_neg (by decide)]
        by_cases e0 : (cst T n).2.2.1 = 0
        · rw [if_pos e0, if_pos ⟨Or.inr e5, e0⟩]
        · rw [if_neg e0, if_neg (fun q => e0 q.2)]
      · rw [if_neg e5, if_pos rfl, if_neg (fun q => q.1.elim e4 e5)]
  · rw [if_neg e, if_neg e]
/-- numbers of tests of the key are small -/
def NR : List TK → Prop
  | [] => True
  | t :: r => (t.1 = 107 → -999 ≤ t.2.2.toInt ∧ t.2.2.toInt ≤ 999) ∧ NR r
/-! the reference's looks at the text -/
section
variable {h0 h : MG} {w : List Int32} {o : List TK} {p n : Nat} {T : Nat → Int32}
theorem r_isNext (h1 : RQ h0 h w o p) (hT : h0.1 4 = T) (hn : n ≤ 60) (hL : h0.1 0 16 = nI n) (hp : p ≤ n) (a b : Int32) : m_X7_isNext h a b = some (if p < n ∧ a.toInt ≤ (T p).toInt ∧ (T p).toInt ≤ b.toInt then 1 else 0) := by
  have e16 : h.1 0 16 = nI n := by rw [h1.2.1 16 (by omega) (by omega) (by omega), hL]
  have e10 : h.1 0 10 = nI p := h1.2.2.2.2.1
  have e4 : h.1 4 = T := by rw [h1.1 4 (by omega) (by omega) (by omega) (by omega) (by omega), hT]
  unfold m_X7_isNext
  rw [e16, e10]
  by_cases e : p < n
  · rw [if_neg (by rw [nI_leI (by omega) (by omega)]; omega), if_pos (vin_nI (by omega) (by omega)), nI_clamp (by omega), e4, r_in]
    by_cases e2 : a.toInt ≤ (T p).toInt ∧ (T p).toInt ≤ b.toInt
    · rw [if_pos e2, if_pos ⟨e, e2⟩]
      rfl
    · rw [if_neg e2, if_neg (fun q => e2 q.2)]
      rfl
  · rw [if_pos (nI_le (by omega) (by omega)), if_neg (fun q => e q.1)]
theorem i_tw {a b : Int32} : (a.toInt ≤ b.toInt ∧ b.toInt ≤ a.toInt) ↔ b = a := by
  constructor
  · intro h
    exact Int32.toInt_inj.mp (by omega)
  · rintro rfl
    exact ⟨Int.le_refl _, Int.le_refl _⟩
theorem r_next1 (h1 : RQ h0 h w o p) (hT : h0.1 4 = T) (hn : n ≤ 60) (hL : h0.1 0 16 = nI n) (hp : p ≤ n) (a : Int32) : m_X7_isNext h a a = some (if p < n ∧ T p = a then 1 else 0) := by
  rw [r_isNext h1 hT hn hL hp a a]
  by_cases e : p < n ∧ T p = a
  · rw [if_pos e, if_pos ⟨e.1, i_tw.mpr e.2⟩]
  · rw [if_neg e, if_neg (fun q => e ⟨q.1, i_tw.mp q.2⟩)]
theorem i_sgn {x : Int32} : ((60 : Int32).toInt ≤ x.toInt ∧ x.toInt ≤ (62 : Int32).toInt) ↔ (x = 60 ∨ x = 62 ∨ x = 61) := by
  have a : (60 : Int32).toInt = 60 := by decide
  have b : (61 : Int32).toInt = 61 := by decide
  have c : (62 : Int32).toInt = 62 := by decide
  rw [a, c]
  constructor
  · intro h
    rcases (show x.toInt = 60 ∨ x.toInt = 61 ∨ x.toInt = 62 by omega) with e | e | e
    · exact Or.inl (Int32.toInt_inj.mp (e.trans a.symm))
    · exact Or.inr (Or.inr (Int32.toInt_inj.mp (e.trans b.symm)))
    · exact Or.inr (Or.inl (Int32.toInt_inj.mp (e.trans c.symm)))
  · rintro (rfl | rfl | rfl) <;> decide
theorem r_isSign (h1 : RQ h0 h w o p) (hT : h0.1 4 = T) (hn : n ≤ 60) (hL : h0.1 0 16 = nI n) (hp : p ≤ n) : m_X7_isSign h = some (if p < n ∧ (T p = 60 ∨ T p = 62 ∨ T p = 61 ∨ T p = 35) then 1 else 0) := by
  unfold m_X7_isSign
  rw [bnd_e (r_isNext h1 hT hn hL hp 60 62)]
  by_cases e : p < n ∧ ((60 : Int32).toInt ≤ (T p).toInt ∧ (T p).toInt ≤ (62 : Int32).toInt)
  · rw [if_pos e, if_neg (by decide), if_pos]
    refine ⟨e.1, ?_⟩
    rcases i_sgn.mp e.2 with q | q | q
    · exact Or.inl q
    · exact Or.inr (Or.inl q)
    · exact Or.inr (Or.inr (Or.inl q))
  · rw [if_neg e, if_pos rfl, bnd_e (r_next1 h1 hT hn hL hp 35)]
    by_cases e2 : p < n ∧ T p = 35
    · rw [if_pos e2, if_neg (by decide), if_pos ⟨e2.1, Or.inr (Or.inr (Or.inr e2.2))⟩]
    · rw [if_neg e2, if_pos rfl, if_neg]
      rintro ⟨q0, q | q | q | q⟩
      · exact e ⟨q0, i_sgn.mpr (Or.inl q)⟩
      · exact e ⟨q0, i_sgn.mpr (Or.inr (Or.inl q))⟩
      · exact e ⟨q0, i_sgn.mpr (Or.inr (Or.inr q))⟩
      · exact e2 ⟨q0, q⟩
theorem i_dig {x : Int32} : ((48 : Int32).toInt ≤ x.toInt ∧ x.toInt ≤ (57 : Int32).toInt) ↔ (¬ x < 48 ∧ x ≤ 57) := by
  rw [Int32.lt_iff_toInt_lt, Int32.le_iff_toInt_le]
  omega
theorem i_dsub {x : Int32} (h : ¬ x < 48 ∧ x ≤ 57) : (x - 48).toInt = x.toInt - 48 ∧ 0 ≤ x.toInt - 48 ∧ x.toInt - 48 ≤ 9 := by
  have h1 := i_dig.mpr h
  have a : (48 : Int32).toInt = 48 := by decide
  have b : (57 : Int32).toInt = 57 := by decide
  rw [a, b] at h1
  refine ⟨?_, by omega, by omega⟩
  rw [i_sub (by rw [a]; omega) (by rw [a]; omega), a]
theorem i_dig2 (a b : Int32) : a * 10 + (b - 48) = 10 * a + b - 48 := by grind
theorem i_mul10 {a : Int32} (ha : 0 ≤ a.toInt ∧ a.toInt ≤ 999) : (a * 10).toInt = a.toInt * 10 := by
  rw [Int32.toInt_mul, show (10 : Int32).toInt = 10 by decide]
  exact Int.bmod_eq_of_le (by omega) (by omega)
theorem i_dnx {a b : Int32} (ha : 0 ≤ a.toInt ∧ a.toInt ≤ 999) (hb : ¬ b < 48 ∧ b ≤ 57) : (10 * a + b - 48).toInt = a.toInt * 10 + (b.toInt - 48) := by
  obtain ⟨h1, h2, h3⟩ := i_dsub hb
  rw [← i_dig2, i_add (by rw [i_mul10 ha, h1]; omega) (by rw [i_mul10 ha, h1]; omega), i_mul10 ha, h1]
theorem i_ngt {a : Int32} (ha : 0 ≤ a.toInt ∧ a.toInt ≤ 999) : (-a).toInt = -a.toInt := by
  rw [Int32.toInt_neg]
  exact Int.bmod_eq_of_le (by omega) (by omega)
theorem i_le999 {x : Int32} : x ≤ 999 ↔ x.toInt ≤ 999 := by
  rw [Int32.le_iff_toInt_le, show (999 : Int32).toInt = 999 by decide]
theorem i_le0 {x : Int32} : x ≤ 0 ↔ x.toInt ≤ 0 := by
  rw [Int32.le_iff_toInt_le, show (0 : Int32).toInt = 0 by decide]
/-- a number ends -/
theorem r_J137 (h1 : RQ h0 h w o p) (ho : o.length < 120) (x0 s mi v : Int32) : ∃ h', m_X7_readNumber_J137 x0 s mi v h = some (1, h') ∧ RQ h0 h' w ((x0, s, if mi = 0 then v else -v) :: o) p := by
  unfold m_X7_readNumber_J137
  by_cases e : mi = 0
  · obtain ⟨h', b1, b2⟩ := rq_add h1 ho x0 s v
    rw [if_pos e, if_pos e, bnd_e b1]
    exact ⟨h', rfl, b2⟩
  · obtain ⟨h', b1, b2⟩ := rq_add h1 ho x0 s (-v)
    rw [if_neg e, if_neg e, bnd_e b1]
    exact ⟨h', rfl, b2⟩
theorem qal_4 {q : QS} (h : q.2.1 = 4) (c : Int32) : qAl q c = (qNext q c).or (qFol q c) := by
  unfold qAl
  rw [h, if_neg (by decide), if_neg (by decide), if_neg (by decide), if_neg (by decide), if_pos rfl]
theorem r_numLoop (h1 : RQ h0 h w o p) (ho : o.length < 120) (hT : h0.1 4 = T) (hn : n ≤ 60) (hL : h0.1 0 16 = nI n) (hp : p ≤ n) {op no mi v c s x0 : Int32} {tk : List TK} (hq : cst T p = (-1005, 4, op, no, mi, v, (c, s, if mi = 0 then v else -v) :: tk)) (hv : 0 ≤ v.toInt ∧ v.toInt ≤ 999) : ∃ r, lpo (b_X7_readNumber_L64 x0 s mi) fuelN (v, h) = some r ∧ r.1 = 1 ∧ ∃ pl z v', p ≤ pl ∧ pl ≤ n ∧ RQ h0 r.2 w ((x0, s, z) :: o) pl ∧ cst T pl = (-1005, 4, op, no, mi, v', (c, s, z) :: tk) ∧ (pl < n → qNext (cst T pl) (T pl) = none) ∧ -999 ≤ z.toInt ∧ z.toInt ≤ 999 := by
  have fin : ∀ (pl : Nat) (v : Int32) (h : MG), RQ h0 h w o pl → p ≤ pl → pl ≤ n → cst T pl = (-1005, 4, op, no, mi, v, (c, s, if mi = 0 then v else -v) :: tk) → (0 ≤ v.toInt ∧ v.toInt ≤ 999) → (pl < n → qNext (cst T pl) (T pl) = none) → ∃ r, m_X7_readNumber_J137 x0 s mi v h = some r ∧ r.1 = 1 ∧ ∃ pl z v', p ≤ pl ∧ pl ≤ n ∧ RQ h0 r.2 w ((x0, s, z) :: o) pl ∧ cst T pl = (-1005, 4, op, no, mi, v', (c, s, z) :: tk) ∧ (pl < n → qNext (cst T pl) (T pl) = none) ∧ -999 ≤ z.toInt ∧ z.toInt ≤ 999 := fun pl v h k1 k2 k3 k4 k5 k6 => by
    obtain ⟨h', b1, b2⟩ := r_J137 k1 ho x0 s mi v
    refine ⟨_, b1, rfl, pl, _, v, k2, k3, b2, k4, k6, ?_⟩
    split
    · omega
    · rw [i_ngt k5]; omega
  refine lpo_P (fun i z => ∃ v h, z = (v, h) ∧ p + i ≤ n ∧ (0 ≤ v.toInt ∧ v.toInt ≤ 999) ∧ RQ h0 h w o (p + i) ∧ cst T (p + i) = (-1005, 4, op, no, mi, v, (c, s, if mi = 0 then v else -v) :: tk)) (n - p) _ 0 (by omega) (by omega) ⟨v, h, rfl, by omega, hv, h1, hq⟩ ?_ ?_
  · rintro i z hi ⟨v, h, rfl, k1, k2, k3, k4⟩
    have hplt : p + i < n := by omega
    have e10 : h.1 0 10 = nI (p + i) := k3.2.2.2.2.1
    have e4 : h.1 4 (nI (p + i)).toNatClampNeg = T (p + i) := by rw [nI_clamp (by omega), k3.1 4 (by omega) (by omega) (by omega) (by omega) (by omega), hT]
    have hnx : qNext (cst T (p + i)) (T (p + i)) = if T (p + i) < 48 then none else if 57 < T (p + i) then none else if v = 0 then none else if v * 10 + (T (p + i) - 48) ≤ 999 then some (qSet (cst T (p + i)) (v * 10 + (T (p + i) - 48))) else none := by
      unfold qNext
      rw [k4]
    by_cases v0 : v ≤ 0
    · left
      intro k
      simp only [b_X7_readNumber_L64, m_X7_readNumber_L64]
      rw [if_pos v0]
      refine fin (p + i) v h k3 (by omega) k1 k4 k2 (fun _ => ?_)
      have : v = 0 := Int32.toInt_inj.mp (by have := i_le0.mp v0; show v.toInt = 0; omega)
      rw [hnx, if_pos this]
      split
      · rfl
      · split <;> rfl
    · by_cases dg : ¬ T (p + i) < 48 ∧ T (p + i) ≤ 57
      · have hx := i_dnx k2 dg
        have hb := i_dsub dg
        have nx : m_X7_isNext h 48 57 = some 1 := by rw [r_isNext k3 hT hn hL k1 48 57, if_pos ⟨hplt, i_dig.mpr dg⟩]
        by_cases big : (999 : Int32) < 10 * v + T (p + i) - 48
        · left
          intro k
          simp only [b_X7_readNumber_L64, m_X7_readNumber_L64]
          rw [if_neg v0, bnd_e nx, if_neg (by decide), e10, if_pos (vin_nI (by omega) (by omega)), e4, if_pos big]
          refine fin (p + i) v h k3 (by omega) k1 k4 k2 (fun _ => ?_)
          rw [hnx, if_neg dg.1, if_neg (Int32.not_lt.mpr dg.2), i_dig2, if_neg (Int32.not_le.mpr big)]
          split <;> rfl
        · right
          have hle : 10 * v + T (p + i) - 48 ≤ 999 := Int32.not_lt.mp big
          have hle' := i_le999.mp hle
          refine ⟨(10 * v + T (p + i) - 48, g_w h 0 10 (nI (p + (i + 1)))), ⟨_, _, rfl, by omega, by rw [hx] at hle' ⊢; omega, rq_place k3 _, ?_⟩, fun k => ?_⟩
          · have hq' : qAl (cst T (p + i)) (T (p + i)) = some (qSet (cst T (p + i)) (10 * v + T (p + i) - 48)) := by
              rw [qal_4 (by rw [k4]), hnx, if_neg dg.1, if_neg (Int32.not_lt.mpr dg.2), i_dig2, if_pos hle, if_neg (fun q => v0 (by rw [q]; decide))]
              rfl
            have := cst_up (by rw [k4]) hq'
            rw [← Nat.add_assoc, this, k4]
            rfl
          · simp only [b_X7_readNumber_L64, m_X7_readNumber_L64]
            rw [if_neg v0, bnd_e nx, if_neg (by decide), e10, if_pos (vin_nI (by omega) (by omega)), e4, if_neg big, if_pos (vin_nI (by omega) (by omega)), nI_1]
            rfl
      · left
        intro k
        have nx : m_X7_isNext h 48 57 = some 0 := by rw [r_isNext k3 hT hn hL k1 48 57, if_neg (fun q => dg (i_dig.mp q.2))]
        simp only [b_X7_readNumber_L64, m_X7_readNumber_L64]
        rw [if_neg v0, bnd_e nx, if_pos rfl]
        refine fin (p + i) v h k3 (by omega) k1 k4 k2 (fun _ => ?_)
        rw [hnx]
        by_cases q1 : T (p + i) < 48
        · rw [if_pos q1]
        · rw [if_neg q1, if_pos (Int32.not_le.mp (fun q2 => dg ⟨q1, q2⟩))]
  · rintro z ⟨v, h, rfl, k1, k2, k3, k4⟩ k
    have hpn : p + (n - p) = n := by omega
    have hend := fin (p + (n - p)) v h k3 (by omega) k1 k4 k2 (fun q => by omega)
    simp only [b_X7_readNumber_L64, m_X7_readNumber_L64]
    by_cases v0 : v ≤ 0
    · rw [if_pos v0]
      exact hend
    · have nx : m_X7_isNext h 48 57 = some 0 := by rw [r_isNext k3 hT hn hL k1 48 57, if_neg (fun q => by omega)]
      rw [if_neg v0, bnd_e nx, if_pos rfl]
      exact hend
/-- what a number's reading comes to -/
def NmR (h0 : MG) (T : Nat → Int32) (n p : Nat) (w : List Int32) (o : List TK) (x0 op no c s : Int32) (tk : List TK) (r : Int32 × MG) : Prop := (r.1 = 0 ∧ ∃ pl, pl ≤ n ∧ RQ h0 r.2 w o pl ∧ FV T n = nI pl) ∨ (r.1 = 1 ∧ ∃ pl z v' mi, p < pl ∧ pl ≤ n ∧ RQ h0 r.2 w ((x0, s, z) :: o) pl ∧ cst T pl = (-1005, 4, op, no, mi, v', (c, s, z) :: tk) ∧ (pl < n → qNext (cst T pl) (T pl) = none) ∧ -999 ≤ z.toInt ∧ z.toInt ≤ 999)
theorem r_J23 {w1 w2 : Int32} (h1 : RQ h0 (g_w h 0 10 (w1 + w2)) w o p) (ho : o.length < 120) (hT : h0.1 4 = T) (hn : n ≤ 60) (hL : h0.1 0 16 = nI n) (hp : p ≤ n) {st op no mi di c s x0 m0 : Int32} {tk : List TK} (hq : cst T p = (-1005, st, op, no, mi, di, (c, s, m0) :: tk)) (hst : st = 2 ∨ st = 3) (hal : p < n → qAl (cst T p) (T p) = qFirst (cst T p) (T p)) : ∃ r, m_X7_readNumber_J23 x0 s mi w1 w2 h = some r ∧ NmR h0 T n p w o x0 op no c s tk r := by
  have e10 : (g_w h 0 10 (w1 + w2)).1 0 10 = nI p := h1.2.2.2.2.1
  have e4 : (g_w h 0 10 (w1 + w2)).1 4 = T := by rw [h1.1 4 (by omega) (by omega) (by omega) (by omega) (by omega), hT]
  unfold m_X7_readNumber_J23
  rw [bnd_e (r_isNext h1 hT hn hL hp 48 57)]
  by_cases e : p < n ∧ (48 : Int32).toInt ≤ (T p).toInt ∧ (T p).toInt ≤ (57 : Int32).toInt
  · have dg := i_dig.mp e.2
    have hb := i_dsub dg
    rw [if_pos e, if_neg (by decide), e10, if_pos (vin_nI (by omega) (by omega)), nI_clamp (by omega), e4, nI_1]
    have hq' : qAl (cst T p) (T p) = some (qSet (cst T p) (T p - 48)) := by
      rw [hal e.1]
      unfold qFirst
      rw [if_neg dg.1, if_pos dg.2]
    have hc := cst_up (by rw [hq]) hq'
    rw [hq] at hc
    obtain ⟨r, b1, b2, pl, z, v', b3, b4, b5, b6, b7⟩ := r_numLoop (x0 := x0) (rq_place h1 (p + 1)) ho hT hn hL (show p + 1 ≤ n by omega) (op := op) (no := no) (mi := mi) (v := T p - 48) (c := c) (s := s) (tk := tk) hc (by omega)
    exact ⟨r, b1, Or.inr ⟨b2, pl, z, v', mi, by omega, b4, b5, b6, b7⟩⟩
  · rw [if_neg e, if_pos rfl]
    refine ⟨_, rfl, Or.inl ⟨rfl, p, hp, h1, fv_stop hn (by rw [hq]) hp (fun _ q => ?_) (fun hlt => ?_)⟩⟩
    · rw [hq] at q
      rcases hst with rfl | rfl
      · exact absurd q.1 (show ¬ ((2 : Int32) = 4 ∨ (2 : Int32) = 5) by decide)
      · exact absurd q.1 (show ¬ ((3 : Int32) = 4 ∨ (3 : Int32) = 5) by decide)
    · rw [hal hlt]
      unfold qFirst
      by_cases q1 : T p < 48
      · rw [if_pos q1]
      · rw [if_neg q1, if_neg (fun q2 => e ⟨hlt, i_dig.mpr ⟨q1, q2⟩⟩)]
theorem qal_2 {q : QS} (h : q.2.1 = 2) (c : Int32) : qAl q c = (qMinus q c).or (qFirst q c) := by
  unfold qAl
  rw [h, if_neg (by decide), if_neg (by decide), if_pos rfl]
theorem qal_3 {q : QS} (h : q.2.1 = 3) (c : Int32) : qAl q c = qFirst q c := by
  unfold qAl
  rw [h, if_neg (by decide), if_neg (by decide), if_neg (by decide), if_pos rfl]
theorem r_readNumber (h1 : RQ h0 h w o p) (ho : o.length < 120) (hT : h0.1 4 = T) (hn : n ≤ 60) (hL : h0.1 0 16 = nI n) (hp : p ≤ n) {op no di c s x0 m0 : Int32} {tk : List TK} (hq : cst T p = (-1005, 2, op, no, 0, di, (c, s, m0) :: tk)) : ∃ r, m_X7_readNumber h x0 s = some r ∧ NmR h0 T n p w o x0 op no c s tk r := by
  have e10 : h.1 0 10 = nI p := h1.2.2.2.2.1
  unfold m_X7_readNumber
  rw [bnd_e (r_next1 h1 hT hn hL hp 45), e10]
  by_cases e : p < n ∧ T p = 45
  · rw [if_pos e, if_neg (by decide)]
    have hq' : qAl (cst T p) (T p) = some (-1005, 3, op, no, 1, di, (c, s, m0) :: tk) := by
      rw [qal_2 (by rw [hq])]
      unfold qMinus
      rw [if_pos e.2, hq]
      rfl
    have hc := cst_up (by rw [hq]) hq'
    obtain ⟨r, b1, b2⟩ := r_J23 (w1 := nI p) (w2 := 1) (x0 := x0) (p := p + 1) (by rw [nI_1]; exact rq_place h1 _) ho hT hn hL (by omega) hc (Or.inr rfl) (fun _ => qal_3 (by rw [hc]) _)
    refine ⟨r, b1, ?_⟩
    rcases b2 with b2 | ⟨b2, pl, z, v', mi, b3, b4⟩
    · exact Or.inl b2
    · exact Or.inr ⟨b2, pl, z, v', mi, by omega, b4⟩
  · rw [if_neg e, if_pos rfl]
    exact r_J23 (w1 := nI p) (w2 := 0) (by rw [nI_z]; exact rq_place h1 p) ho hT hn hL hp hq (Or.inl rfl) (fun hlt => by
      rw [qal_2 (by rw [hq])]
      unfold qMinus
      rw [if_neg (fun q => e ⟨hlt, q⟩)]
      rfl)
end
