/-! the reference's reading as a whole -/
def RdR (h0 : MG) (T : Nat → Int32) (n : Nat) (r : Int32 × MG) : Prop := r.1 = FV T n ∧ (∀ x, x ≠ 0 → x ≠ 5 → x ≠ 6 → x ≠ 7 → x ≠ 8 → r.2.1 x = h0.1 x) ∧ (∀ j, j ≠ 8 → j ≠ 9 → j ≠ 10 → r.2.1 0 j = h0.1 0 j) ∧ (FV T n = -1005 → ∃ o : List TK, o.length ≤ 60 ∧ r.2.1 0 8 = nI o.length ∧ RowM (r.2.1 5) (r.2.1 6) (r.2.1 7) o ∧ NR (cst T n).2.2.2.2.2.2 ∧ ∀ τ, ∃ z, evC τ (cst T n).2.2.2.2.2.2 = some [z] ∧ evR τ o = some [mx z.1 z.2.1])
def RI (h0 : MG) (T : Nat → Int32) (n i : Nat) (x : Int32 × Int32 × Int32 × MG) : Prop := ∃ (p d : Nat) (w : List Int32) (o : List TK) (st mi di : Int32) (tk : List TK), i ≤ p ∧ p ≤ n ∧ x.1 = nI d ∧ d ≤ 5 ∧ RQ h0 x.2.2.2 w o p ∧ w.length + o.length ≤ p ∧ NR tk ∧ cst T p = (-1005, st, nI d, x.2.1, mi, di, tk) ∧
  ((x.2.2.1 = 1 ∧ st = 0 ∧ ∀ τ, ∃ cs vs, evC τ tk = some cs ∧ evR τ o = some vs ∧ RD cs w vs ∧ cs.length = d + 1) ∨
   (x.2.2.1 = 0 ∧ (st = 5 ∨ (st = 4 ∧ (p < n → qNext (cst T p) (T p) = none))) ∧ ∀ τ, ∃ cs vs, evC τ tk = some cs ∧ evR τ o = some vs ∧ RN cs w vs ∧ cs.length = d + 1))
/-- a round: it ends, or another one follows -/
def RS (h0 : MG) (T : Nat → Int32) (n i : Nat) (f : ((Int32 × Int32 × Int32 × MG) → Option (Int32 × MG)) → Option (Int32 × MG)) : Prop := (∀ k, ∃ r, f k = some r ∧ RdR h0 T n r) ∨ ∃ x', RI h0 T n (i + 1) x' ∧ ∀ k, f k = k x'
section
variable {h0 h : MG} {w : List Int32} {o : List TK} {p n i d : Nat} {T : Nat → Int32}
theorem rd_stop (h1 : RQ h0 h w o p) (hp : p ≤ 60) (hF : FV T n = nI p) : RdR h0 T n (nI p, h) := by
  refine ⟨hF.symm, h1.1, h1.2.1, fun q => ?_⟩
  rw [hF] at q
  exact absurd q (nI_ne_m (by omega) (by decide))
theorem qal_0 {q : QS} (h : q.2.1 = 0) (c : Int32) : qAl q c = qTest q c := by
  unfold qAl
  rw [if_pos h]
theorem qal_1 {q : QS} (h : q.2.1 = 1) (c : Int32) : qAl q c = qSign q c := by
  unfold qAl
  rw [h, if_neg (by decide), if_pos rfl]
theorem qal_5 {q : QS} (h : q.2.1 = 5) (c : Int32) : qAl q c = qFol q c := by
  unfold qAl
  rw [h, if_neg (by decide), if_neg (by decide), if_neg (by decide), if_neg (by decide), if_neg (by decide)]
theorem j36_go {k : (Int32 × Int32 × Int32 × MG) → Option (Int32 × MG)} {v1 v2 r : Int32} (hr : m_X7_isNext h 33 33 = some r) (hn : r = 0 ∨ 5 ≤ v2) : m_X7_read_J36 k v1 v2 1 h = m_X7_read_J92 k v1 v2 1 h := by
  unfold m_X7_read_J36
  rw [if_neg (by decide), bnd_e hr]
  rcases hn with e | e
  · rw [if_pos e]
  · rw [if_pos e]
    split <;> rfl
theorem j92_go {k : (Int32 × Int32 × Int32 × MG) → Option (Int32 × MG)} {v1 v2 r : Int32} (hr : m_X7_isNext h 40 40 = some r) (hn : r = 0 ∨ 5 ≤ v1) : m_X7_read_J92 k v1 v2 1 h = m_X7_read_J150 k v1 v2 1 h := by
  unfold m_X7_read_J92
  rw [if_neg (by decide), bnd_e hr]
  rcases hn with e | e
  · rw [if_pos e]
  · rw [if_pos e]
    split <;> rfl
theorem j150_end {k : (Int32 × Int32 × Int32 × MG) → Option (Int32 × MG)} {v1 v2 : Int32} (hr : m_X7_isNext h 107 107 = some 0) (hr2 : m_X7_isNext h 118 118 = some 0) : m_X7_read_J150 k v1 v2 1 h = some (h.1 0 10, h) := by
  unfold m_X7_read_J150
  rw [if_neg (by decide), bnd_e hr, if_pos rfl, bnd_e hr2, if_pos rfl]
  unfold m_X7_read_J269
  rw [if_neg (by decide)]
  unfold m_X7_read_J358
  rw [if_neg (by decide)]
/-- a test is read -/
theorem rd_test (hT : h0.1 4 = T) (hn : n ≤ 60) (hL : h0.1 0 16 = nI n) (hi : i ≤ p) (hp : p < n) (h1 : RQ h0 h w o p) (hd : d ≤ 5) (hlen : w.length + o.length ≤ p) {v2 mi di : Int32} {tk : List TK} (hN : NR tk) (hq : cst T p = (-1005, 0, nI d, v2, mi, di, tk)) (hev : ∀ τ, ∃ cs vs, evC τ tk = some cs ∧ evR τ o = some vs ∧ RD cs w vs ∧ cs.length = d + 1) {c x0 : Int32} (hc : (c = 107 ∧ x0 = 5) ∨ (c = 118 ∧ x0 = 6)) (hTp : T p = c) : RS h0 T n i (fun k => m_X7_read_J196 k (nI d) x0 h) := by
  have e10 : h.1 0 10 = nI p := h1.2.2.2.2.1
  have h2 := rq_place h1 (p + 1)
  have hq1 : cst T (p + 1) = (-1005, 1, nI d, 0, mi, di, (c, 0, 0) :: tk) := by
    refine cst_up (by rw [hq]) ?_
    rw [qal_0 (by rw [hq]), hq, hTp]
    unfold qTest
    rcases hc with ⟨rfl, -⟩ | ⟨rfl, -⟩
    · rw [if_neg (by decide), if_neg (by decide), if_pos rfl]
    · rw [if_neg (by decide), if_neg (by decide), if_neg (by decide), if_pos rfl]
  have e10' : (g_w h 0 10 (nI (p + 1))).1 0 10 = nI (p + 1) := h2.2.2.2.2.1
  have e4' : (g_w h 0 10 (nI (p + 1))).1 4 = T := by rw [h2.1 4 (by omega) (by omega) (by omega) (by omega) (by omega), hT]
  have hsg := r_isSign h2 hT hn hL (show p + 1 ≤ n by omega)
  by_cases e : p + 1 < n ∧ (T (p + 1) = 60 ∨ T (p + 1) = 62 ∨ T (p + 1) = 61 ∨ T (p + 1) = 35)
  · have h3 := rq_place h2 (p + 1 + 1)
    have hq2 : cst T (p + 1 + 1) = (-1005, 2, nI d, 0, 0, di, (c, T (p + 1), 0) :: tk) := by
      refine cst_up (by rw [hq1]) ?_
      rw [qal_1 (by rw [hq1])]
      unfold qSign
      rw [if_pos e.2, hq1]
      rfl
    obtain ⟨r, b1, b2⟩ := r_readNumber (x0 := x0) h3 (by omega) hT hn hL (show p + 1 + 1 ≤ n by omega) hq2
    have pre : ∀ k, m_X7_read_J196 k (nI d) x0 h = if r.1 = 0 then some (r.2.1 0 10, r.2) else bnd (m_X7_settle r.2 (1 : Int32)) fun (g259 : MG) => k (nI d, (0 : Int32), (0 : Int32), g259) := fun k => by
      unfold m_X7_read_J196
      rw [e10, nI_1, bnd_e hsg, if_pos e, if_neg (by decide), e10', if_pos (vin_nI (by omega) (by omega)), nI_clamp (by omega), e4', nI_1, bnd2_e b1]
    rcases b2 with ⟨b2, pl, b3, b4, b5⟩ | ⟨b2, pl, z, v', mi', b3, b4, b5, b6, b7, b8⟩
    · left
      intro k
      refine ⟨_, ?_, rd_stop b4 (by omega) b5⟩
      show m_X7_read_J196 k (nI d) x0 h = _
      rw [pre k, if_pos b2, b4.2.2.2.2.1]
    · right
      obtain ⟨h', d1, d2⟩ := r_settle b5 (by rw [List.length_cons]; omega) 1
      have hlen2 := stl_len 1 w ((x0, T (p + 1), z) :: o)
      rw [List.length_cons] at hlen2
      refine ⟨(nI d, 0, 0, h'), ⟨pl, d, _, _, 4, mi', v', (c, T (p + 1), z) :: tk, by omega, b4, rfl, hd, d2, by omega, ⟨fun _ => b8, hN⟩, b6, Or.inr ⟨rfl, Or.inr ⟨rfl, b7⟩, fun τ => ?_⟩⟩, fun k => ?_⟩
      · obtain ⟨cs, vs, f1, f2, f3, f4⟩ := hev τ
        have f5 : ∃ x, rst τ (x0, T (p + 1), z) vs = some (x :: vs) ∧ cstp τ (c, T (p + 1), z) cs = cAdd x cs := by
          rcases hc with ⟨rfl, rfl⟩ | ⟨rfl, rfl⟩
          · refine ⟨τ true (T (p + 1)) z, ?_, ?_⟩
            · unfold rst; rw [if_pos rfl]
            · unfold cstp; rw [if_neg (show ¬ (107 : Int32) = 33 by decide), if_neg (show ¬ (107 : Int32) = 40 by decide), if_neg (show ¬ (107 : Int32) = 41 by decide), if_pos rfl]
          · refine ⟨τ false (T (p + 1)) z, ?_, ?_⟩
            · unfold rst; rw [if_neg (show ¬ (6 : Int32) = 5 by decide), if_pos rfl]
            · unfold cstp; rw [if_neg (show ¬ (118 : Int32) = 33 by decide), if_neg (show ¬ (118 : Int32) = 40 by decide), if_neg (show ¬ (118 : Int32) = 41 by decide), if_neg (show ¬ (118 : Int32) = 107 by decide), if_pos rfl]
        obtain ⟨x, f5, f6⟩ := f5
        obtain ⟨cs2, vs2, k1, k2, k3, k4⟩ := q_add f3 ((evR_c f2).trans f5)
        exact ⟨cs2, vs2, by rw [evC_c f1, f6, k1], k2, k3, by rw [k4, f4]⟩
      · show m_X7_read_J196 k (nI d) x0 h = _
        rw [pre k, if_neg (by rw [b2]; decide), bnd_e d1]
  · left
    intro k
    refine ⟨_, ?_, rd_stop h2 (by omega) (fv_stop hn (by rw [hq1]) (by omega) (fun _ q => ?_) (fun hlt => ?_))⟩
    · show m_X7_read_J196 k (nI d) x0 h = _
      unfold m_X7_read_J196
      rw [e10, nI_1, bnd_e hsg, if_neg e, if_pos rfl, e10']
    · rw [hq1] at q
      exact absurd q.1 (show ¬ ((1 : Int32) = 4 ∨ (1 : Int32) = 5) by decide)
    · rw [qal_1 (by rw [hq1])]
      unfold qSign
      rw [if_neg (fun q => e ⟨hlt, q⟩)]
theorem rd_due (hT : h0.1 4 = T) (hn : n ≤ 60) (hL : h0.1 0 16 = nI n) (hi : i ≤ p) (hp : p ≤ n) (h1 : RQ h0 h w o p) (hd : d ≤ 5) (hlen : w.length + o.length ≤ p) {v2 mi di : Int32} {tk : List TK} (hN : NR tk) (hq : cst T p = (-1005, 0, nI d, v2, mi, di, tk)) (hev : ∀ τ, ∃ cs vs, evC τ tk = some cs ∧ evR τ o = some vs ∧ RD cs w vs ∧ cs.length = d + 1) : RS h0 T n i (fun k => m_X7_read_J36 k (nI d) v2 1 h) := by
  have e10 : h.1 0 10 = nI p := h1.2.2.2.2.1
  have e4 : h.1 4 = T := by rw [h1.1 4 (by omega) (by omega) (by omega) (by omega) (by omega), hT]
  have nx := r_next1 h1 hT hn hL hp
  have hqt := qal_0 (q := cst T p) (by rw [hq]) (T p)
  by_cases a1 : (p < n ∧ T p = 33) ∧ ¬ 5 ≤ v2
  · -- "!"
    right
    obtain ⟨hv, h2⟩ := rq_push h1 (show w.length < 120 by omega) 1
    refine ⟨(nI d, v2 + 1, 1, _), ⟨p + 1, d, 1 :: w, o, 0, mi, di, (33, 0, 0) :: tk, by omega, by omega, rfl, hd, h2, by rw [List.length_cons]; omega, ⟨fun q => absurd q (by decide), hN⟩, cst_up (by rw [hq]) ?_, Or.inl ⟨rfl, rfl, fun τ => ?_⟩⟩, fun k => ?_⟩
    · rw [hqt, hq, a1.1.2]
      unfold qTest
      rw [if_pos rfl, if_pos (Int32.not_le.mp a1.2)]
    · obtain ⟨cs, vs, f1, f2, f3, f4⟩ := hev τ
      obtain ⟨cs2, k1, k2, k3⟩ := q_not f3
      refine ⟨cs2, vs, ?_, f2, k2, by rw [k3, f4]⟩
      rw [evC_c f1]
      unfold cstp
      rw [if_pos rfl, k1]
    · show m_X7_read_J36 k (nI d) v2 1 h = _
      unfold m_X7_read_J36
      rw [if_neg (by decide), bnd_e (nx 33), if_pos a1.1, if_neg (by decide), if_neg a1.2, if_pos hv]
      rfl
  have s1 : ∀ k, m_X7_read_J36 k (nI d) v2 1 h = m_X7_read_J92 k (nI d) v2 1 h := fun k => j36_go (nx 33) (by
    by_cases q : p < n ∧ T p = 33
    · by_cases q2 : 5 ≤ v2
      · exact Or.inr q2
      · exact absurd ⟨q, q2⟩ a1
    · exact Or.inl (if_neg q))
  by_cases a2 : (p < n ∧ T p = 40) ∧ ¬ 5 ≤ nI d
  · -- "("
    right
    have hd5 : d < 5 := by
      have := a2.2
      rw [show (5 : Int32) = nI 5 from rfl, nI_leI (by omega) (by omega)] at this
      omega
    obtain ⟨hv, h2⟩ := rq_push h1 (show w.length < 120 by omega) 4
    refine ⟨(nI (d + 1), 0, 1, _), ⟨p + 1, d + 1, 4 :: w, o, 0, mi, di, (40, 0, 0) :: tk, by omega, by omega, rfl, by omega, h2, by rw [List.length_cons]; omega, ⟨fun q => absurd q (by decide), hN⟩, cst_up (by rw [hq]) ?_, Or.inl ⟨rfl, rfl, fun τ => ?_⟩⟩, fun k => ?_⟩
    · rw [hqt, hq, a2.1.2]
      unfold qTest
      rw [if_neg (by decide), if_pos rfl, if_pos (Int32.not_le.mp a2.2)]
      show some (_, _, nI d + 1, _) = _
      rw [nI_1]
    · obtain ⟨cs, vs, f1, f2, f3, f4⟩ := hev τ
      refine ⟨(0, 2, false) :: cs, vs, ?_, f2, q_open f3, by rw [List.length_cons, f4]⟩
      rw [evC_c f1]
      unfold cstp
      rw [if_neg (show ¬ (40 : Int32) = 33 by decide), if_pos rfl, if_pos (by omega)]
    · show m_X7_read_J36 k (nI d) v2 1 h = _
      rw [s1 k]
      unfold m_X7_read_J92
      rw [if_neg (by decide), bnd_e (nx 40), if_pos a2.1, if_neg (by decide), if_neg a2.2, if_pos hv, nI_1]
      rfl
  have s2 : ∀ k, m_X7_read_J36 k (nI d) v2 1 h = m_X7_read_J150 k (nI d) v2 1 h := fun k => (s1 k).trans (j92_go (nx 40) (by
    by_cases q : p < n ∧ T p = 40
    · by_cases q2 : 5 ≤ nI d
      · exact Or.inr q2
      · exact absurd ⟨q, q2⟩ a2
    · exact Or.inl (if_neg q)))
  by_cases a3 : p < n ∧ T p = 107
  · have e : ∀ k, m_X7_read_J36 k (nI d) v2 1 h = m_X7_read_J196 k (nI d) 5 h := fun k => by
      rw [s2 k]
      unfold m_X7_read_J150
      rw [if_neg (by decide), bnd_e (nx 107), if_pos a3, if_neg (by decide)]
      unfold m_X7_read_J176
      rw [e10, if_pos (vin_nI (by omega) (by omega)), nI_clamp (by omega), e4, if_pos a3.2]
    have := rd_test hT hn hL hi a3.1 h1 hd hlen hN hq hev (Or.inl ⟨rfl, rfl⟩) a3.2
    unfold RS at this ⊢
    simp only [e]
    exact this
  by_cases a4 : p < n ∧ T p = 118
  · have e : ∀ k, m_X7_read_J36 k (nI d) v2 1 h = m_X7_read_J196 k (nI d) 6 h := fun k => by
      rw [s2 k]
      unfold m_X7_read_J150
      rw [if_neg (by decide), bnd_e (nx 107), if_neg a3, if_pos rfl, bnd_e (nx 118), if_pos a4, if_neg (by decide)]
      unfold m_X7_read_J176
      rw [e10, if_pos (vin_nI (by omega) (by omega)), nI_clamp (by omega), e4, if_neg (by rw [a4.2]; decide)]
    have := rd_test hT hn hL hi a4.1 h1 hd hlen hN hq hev (Or.inr ⟨rfl, rfl⟩) a4.2
    unfold RS at this ⊢
    simp only [e]
    exact this
  left
  intro k
  refine ⟨_, ?_, rd_stop h1 (by omega) (fv_stop hn (by rw [hq]) hp (fun _ q => ?_) (fun hlt => ?_))⟩
  · show m_X7_read_J36 k (nI d) v2 1 h = _
    rw [s2 k, j150_end (by rw [nx 107, if_neg a3]) (by rw [nx 118, if_neg a4]), e10]
  · rw [hq] at q
    exact absurd q.1 (show ¬ ((0 : Int32) = 4 ∨ (0 : Int32) = 5) by decide)
  · rw [hqt, hq]
    unfold qTest
    by_cases q1 : T p = 33
    · rw [if_pos q1, if_neg (fun q => a1 ⟨⟨hlt, q1⟩, Int32.not_le.mpr q⟩)]
    rw [if_neg q1]
    by_cases q2 : T p = 40
    · rw [if_pos q2, if_neg (fun q => a2 ⟨⟨hlt, q2⟩, Int32.not_le.mpr q⟩)]
    rw [if_neg q2, if_neg (fun q => a3 ⟨hlt, q⟩), if_neg (fun q => a4 ⟨hlt, q⟩)]
theorem rd_not (hT : h0.1 4 = T) (hn : n ≤ 60) (hL : h0.1 0 16 = nI n) (hi : i ≤ p) (hp : p < n) (h1 : RQ h0 h w o p) (hd : d ≤ 5) (hlen : w.length + o.length ≤ p) {v2 st mi di : Int32} {tk : List TK} (hN : NR tk) (hq : cst T p = (-1005, st, nI d, v2, mi, di, tk)) (hst : st = 5 ∨ (st = 4 ∧ (p < n → qNext (cst T p) (T p) = none))) (hev : ∀ τ, ∃ cs vs, evC τ tk = some cs ∧ evR τ o = some vs ∧ RN cs w vs ∧ cs.length = d + 1) : RS h0 T n i (fun k => m_X7_read_J269 k (nI d) v2 0 h) := by
  have e10 : h.1 0 10 = nI p := h1.2.2.2.2.1
  have e4 : h.1 4 = T := by rw [h1.1 4 (by omega) (by omega) (by omega) (by omega) (by omega), hT]
  have nx := r_next1 h1 hT hn hL (Nat.le_of_lt hp)
  have hqf : qAl (cst T p) (T p) = qFol (cst T p) (T p) := by
    rcases hst with rfl | ⟨rfl, hx⟩
    · exact qal_5 (by rw [hq]) _
    · rw [qal_4 (by rw [hq]), hx hp, Option.none_or]
  have hq1 : (cst T p).1 = -1005 := by rw [hq]
  have ny : ∀ {a : Int32}, T p = a → m_X7_isNext h a a = some 1 := fun {a} q => by rw [nx, if_pos ⟨hp, q⟩]
  have nz : ∀ {a : Int32}, ¬ T p = a → m_X7_isNext h a a = some 0 := fun {a} q => by rw [nx, if_neg (fun z => q z.2)]
  -- "&" or "|"
  have two : ∀ (c b : Int32), T p = c → ((c = 38 ∧ b = 2) ∨ (c = 124 ∧ b = 3)) → RS h0 T n i (fun k => m_X7_read_J314 k (nI d) v2 b h) := fun c b hc hb => by
    right
    obtain ⟨h2, d1, d2⟩ := r_settle h1 (by omega) b
    have hl := stl_len b w o
    have hl2 := stl_le b w o
    obtain ⟨hv, h3⟩ := rq_push d2 (by omega) b
    refine ⟨(nI d, v2, 1, _), ⟨p + 1, d, _, _, 0, mi, di, (c, 0, 0) :: tk, by omega, by omega, rfl, hd, h3, by rw [List.length_cons]; omega, ⟨fun q => ?_, hN⟩, cst_up hq1 ?_, Or.inl ⟨rfl, rfl, fun τ => ?_⟩⟩, fun k => ?_⟩
    · rcases hb with ⟨rfl, -⟩ | ⟨rfl, -⟩ <;> exact absurd q (by decide)
    · rw [hqf, hq, hc]
      unfold qFol
      rcases hb with ⟨rfl, -⟩ | ⟨rfl, -⟩
      · rw [if_pos rfl]
      · rw [if_neg (by decide), if_neg (by decide), if_pos rfl]
    · obtain ⟨cs, vs, f1, f2, f3, f4⟩ := hev τ
      rw [evC_c f1]
      unfold cstp
      rcases hb with ⟨rfl, rfl⟩ | ⟨rfl, rfl⟩
      · obtain ⟨vs2, k1, k2⟩ := q_and f3 f2
        rw [if_neg (show ¬ (38 : Int32) = 33 by decide), if_neg (show ¬ (38 : Int32) = 40 by decide), if_neg (show ¬ (38 : Int32) = 41 by decide), if_neg (show ¬ (38 : Int32) = 107 by decide), if_neg (show ¬ (38 : Int32) = 118 by decide), if_neg (show ¬ (38 : Int32) = 124 by decide)]
        exact ⟨cs, vs2, rfl, k1, k2, f4⟩
      · obtain ⟨cs2, vs2, k1, k2, k3, k4⟩ := q_or f3 f2
        rw [if_neg (show ¬ (124 : Int32) = 33 by decide), if_neg (show ¬ (124 : Int32) = 40 by decide), if_neg (show ¬ (124 : Int32) = 41 by decide), if_neg (show ¬ (124 : Int32) = 107 by decide), if_neg (show ¬ (124 : Int32) = 118 by decide), if_pos rfl]
        exact ⟨cs2, vs2, k1, k2, k3, by rw [k4, f4]⟩
    · show m_X7_read_J314 k (nI d) v2 b h = _
      unfold m_X7_read_J314
      rw [bnd_e d1, if_pos hv]
      rfl
  by_cases a1 : T p = 38
  · have e : ∀ k, m_X7_read_J269 k (nI d) v2 0 h = m_X7_read_J314 k (nI d) v2 2 h := fun k => by
      unfold m_X7_read_J269
      rw [if_pos rfl, bnd_e (ny a1), if_neg (by decide)]
      unfold m_X7_read_J295
      rw [e10, if_pos (vin_nI (by omega) (by omega)), nI_clamp (by omega), e4, if_pos a1]
    have := two 38 2 a1 (Or.inl ⟨rfl, rfl⟩)
    unfold RS at this ⊢
    simp only [e]
    exact this
  by_cases a2 : T p = 124
  · have e : ∀ k, m_X7_read_J269 k (nI d) v2 0 h = m_X7_read_J314 k (nI d) v2 3 h := fun k => by
      unfold m_X7_read_J269
      rw [if_pos rfl, bnd_e (nz a1), if_pos rfl, bnd_e (ny a2), if_neg (by decide)]
      unfold m_X7_read_J295
      rw [e10, if_pos (vin_nI (by omega) (by omega)), nI_clamp (by omega), e4, if_neg a1]
    have := two 124 3 a2 (Or.inr ⟨rfl, rfl⟩)
    unfold RS at this ⊢
    simp only [e]
    exact this
  have s1 : ∀ k, m_X7_read_J269 k (nI d) v2 0 h = m_X7_read_J358 k (nI d) v2 0 h := fun k => by
    unfold m_X7_read_J269
    rw [if_pos rfl, bnd_e (nz a1), if_pos rfl, bnd_e (nz a2), if_pos rfl]
  by_cases a3 : T p = 41 ∧ 0 < d
  · -- ")"
    right
    obtain ⟨d', rfl⟩ : ∃ d', d = d' + 1 := ⟨d - 1, by omega⟩
    have hl := stl_len 3 w o
    have hl2 := stl_le 3 w o
    obtain ⟨w2, hw2⟩ : ∃ w2, (stl 3 w o).1 = 4 :: w2 := by
      obtain ⟨cs, vs, f1, f2, f3, f4⟩ := hev (fun _ _ _ => 0)
      obtain ⟨_, w2, _, _, k1, _⟩ := q_close f3 (by omega) f2
      exact ⟨w2, k1⟩
    obtain ⟨h2, d1, d2⟩ := r_settle h1 (by omega) 3
    rw [hw2] at d2 hl
    rw [List.length_cons] at hl
    have d3 := rq_pop d2
    have e9 : h2.1 0 9 = nI (w2.length + 1) := d2.2.2.2.1
    obtain ⟨h3, d4, d5⟩ := r_settle d3 (by omega) 1
    have d6 := rq_place d5 (p + 1)
    have hl3 := stl_len 1 w2 (stl 3 w o).2
    refine ⟨(nI d', v2, 0, _), ⟨p + 1, d', _, _, 5, mi, di, (41, 0, 0) :: tk, by omega, by omega, rfl, by omega, d6, by omega, ⟨fun q => absurd q (by decide), hN⟩, cst_up hq1 ?_, Or.inr ⟨rfl, Or.inl rfl, fun τ => ?_⟩⟩, fun k => ?_⟩
    · rw [hqf, hq, a3.1]
      unfold qFol
      rw [if_neg (by decide), if_pos rfl, if_neg (nI_ne0 (by omega) (by omega))]
      show some (_, _, nI (d' + 1) - 1, _) = _
      rw [nI_pred]
    · obtain ⟨cs, vs, f1, f2, f3, f4⟩ := hev τ
      obtain ⟨cs2, w2', vs2, k1, k2, k3, k4, k5⟩ := q_close f3 (by omega) f2
      rw [hw2] at k2
      have : w2 = w2' := (List.cons.inj k2).2
      subst this
      refine ⟨cs2, vs2, ?_, k3, k4, by omega⟩
      rw [evC_c f1]
      unfold cstp
      rw [if_neg (show ¬ (41 : Int32) = 33 by decide), if_neg (show ¬ (41 : Int32) = 40 by decide), if_pos rfl, k1]
    · show m_X7_read_J269 k (nI (d' + 1)) v2 0 h = _
      rw [s1 k]
      unfold m_X7_read_J358
      rw [if_pos rfl, bnd_e (ny a3.1), if_neg (by decide), if_neg (nI_nle (by omega) (by omega)), bnd_e d1, e9, nI_pred, bnd_e d4, pk_m1, d5.2.2.2.2.1, nI_1]
      rfl
  left
  intro k
  refine ⟨_, ?_, rd_stop h1 (by omega) (fv_stop hn hq1 (by omega) (fun q => by omega) (fun _ => ?_))⟩
  · show m_X7_read_J269 k (nI d) v2 0 h = _
    rw [s1 k]
    unfold m_X7_read_J358
    rw [if_pos rfl]
    by_cases q : T p = 41
    · have : d = 0 := by
        rcases Nat.eq_zero_or_pos d with z | z
        · exact z
        · exact absurd ⟨q, z⟩ a3
      subst this
      rw [bnd_e (ny q), if_neg (by decide), if_pos (show nI 0 ≤ 0 by decide), e10]
    · rw [bnd_e (nz q), if_pos rfl, e10]
  · rw [hqf, hq]
    unfold qFol
    rw [if_neg a1]
    by_cases q : T p = 41
    · have : d = 0 := by
        rcases Nat.eq_zero_or_pos d with z | z
        · exact z
        · exact absurd ⟨q, z⟩ a3
      subst this
      rw [if_pos q, if_pos (show nI 0 = 0 by decide)]
    · rw [if_neg q, if_neg a2]
theorem j36_0 {k : (Int32 × Int32 × Int32 × MG) → Option (Int32 × MG)} {v1 v2 : Int32} : m_X7_read_J36 k v1 v2 0 h = m_X7_read_J269 k v1 v2 0 h := by
  unfold m_X7_read_J36
  rw [if_pos rfl]
  unfold m_X7_read_J92
  rw [if_pos rfl]
  unfold m_X7_read_J150
  rw [if_pos rfl]
/-- a round -/
theorem rd_round (hT : h0.1 4 = T) (hn : n ≤ 60) (hL : h0.1 0 16 = nI n) {x : Int32 × Int32 × Int32 × MG} (hx : RI h0 T n i x) : (i < n → RS h0 T n i (fun k => b_X7_read_L21 k x)) ∧ (i = n → ∀ k, ∃ r, b_X7_read_L21 k x = some r ∧ RdR h0 T n r) := by
  obtain ⟨v1, v2, v3, h⟩ := x
  obtain ⟨p, d, w, o, st, mi, di, tk, b1, b2, b3, b4, b5, b6, b7, b8, b9⟩ := hx
  simp only at b3 b5 b8 b9
  subst b3
  have e10 : h.1 0 10 = nI p := b5.2.2.2.2.1
  have e16 : h.1 0 16 = nI n := by rw [b5.2.1 16 (by omega) (by omega) (by omega), hL]
  rcases b9 with ⟨rfl, rfl, b9⟩ | ⟨rfl, hst, b9⟩
  · have e : ∀ k, b_X7_read_L21 k (nI d, v2, 1, h) = m_X7_read_J36 k (nI d) v2 1 h := fun k => by
      simp only [b_X7_read_L21, m_X7_read_L21]
      rw [if_neg (by decide)]
    have hr := rd_due hT hn hL b1 b2 b5 b4 b6 b7 b8 b9
    constructor
    · intro _
      unfold RS at hr ⊢
      simp only [e]
      exact hr
    · intro hin k
      rw [e k]
      rcases hr with hr | ⟨x', hr, -⟩
      · exact hr k
      · exfalso
        obtain ⟨p', _, _, _, _, _, _, _, c1, c2, _⟩ := hr
        omega
  · by_cases hpn : p < n
    · have e : ∀ k, b_X7_read_L21 k (nI d, v2, 0, h) = m_X7_read_J269 k (nI d) v2 0 h := fun k => by
        simp only [b_X7_read_L21, m_X7_read_L21]
        rw [if_pos trivial, e16, e10, if_neg (by rw [nI_leI (by omega) (by omega)]; omega), j36_0]
      constructor
      · intro _
        have hr := rd_not hT hn hL b1 hpn b5 b4 b6 b7 b8 hst b9
        unfold RS at hr ⊢
        simp only [e]
        exact hr
      · intro hin
        omega
    · have hpe : p = n := by omega
      subst hpe
      have fin : ∀ k, ∃ r, b_X7_read_L21 k (nI d, v2, 0, h) = some r ∧ RdR h0 T p r := fun k => by
        simp only [b_X7_read_L21, m_X7_read_L21]
        rw [if_pos trivial, e16, e10, if_pos (nI_le (Nat.le_refl p) (by omega))]
        have hc : (cst T p).2.1 = 4 ∨ (cst T p).2.1 = 5 := by
          rw [b8]
          rcases hst with rfl | ⟨rfl, -⟩
          · exact Or.inr rfl
          · exact Or.inl rfl
        by_cases d0 : d = 0
        · subst d0
          obtain ⟨h', k1, k2⟩ := r_settle b5 (by omega) 3
          have hl := stl_len 3 w o
          have hF : FV T p = -1005 := by
            unfold FV
            rw [if_pos (by rw [b8]), if_pos ⟨hc, by rw [b8]; rfl⟩]
          rw [if_pos (show nI 0 ≤ 0 by decide), bnd_e k1]
          refine ⟨_, rfl, hF.symm, k2.1, k2.2.1, fun _ => ⟨(stl 3 w o).2, by omega, k2.2.2.1, k2.2.2.2.2.2.1, by rw [b8]; exact b7, fun τ => ?_⟩⟩
          obtain ⟨cs, vs, f1, f2, f3, f4⟩ := b9 τ
          rw [b8]
          cases cs with
          | nil => cases f4
          | cons z cs =>
            have : cs = [] := List.eq_nil_of_length_eq_zero (by rw [List.length_cons] at f4; omega)
            subst this
            exact ⟨z, f1, (q_last f3 f2).2⟩
        · rw [if_neg (nI_nle (by omega) (by omega))]
          refine ⟨_, rfl, rd_stop b5 (by omega) (fv_stop hn (by rw [b8]) (Nat.le_refl p) (fun _ q => ?_) (fun q => by omega))⟩
          have := q.2
          rw [b8] at this
          exact nI_ne0 (by omega) (by omega) this
      exact ⟨fun _ => Or.inl fin, fun _ => fin⟩
theorem r_read (hT : h0.1 4 = T) (hn : n ≤ 60) (hL : h0.1 0 16 = nI n) : ∃ r, m_X7_read h0 = some r ∧ RdR h0 T n r := by
  unfold m_X7_read
  refine lpo_P (RI h0 T n) n _ 0 (by omega) (by omega) ⟨0, 0, [], [], 0, 0, 0, [], Nat.le_refl _, Nat.zero_le _, rfl, by omega, ?_, Nat.le_refl _, trivial, rfl, Or.inl ⟨rfl, rfl, fun τ => ⟨_, _, rfl, rfl, q_start, rfl⟩⟩⟩ ?_ ?_
  · refine ⟨fun x x0 _ _ _ _ => by rw [gw_ne x0, gw_ne x0, gw_ne x0], fun j j8 j9 j10 => by rw [gw_at, if_neg j10, gw_at, if_neg j9, gw_at, if_neg j8], ?_, ?_, ?_, trivial, trivial⟩
    · rw [gw_at, if_neg (by omega), gw_at, if_neg (by omega), gw_at, if_pos rfl]; rfl
    · rw [gw_at, if_neg (by omega), gw_at, if_pos rfl]; rfl
    · rw [gw_at, if_pos rfl]; rfl
  · intro i x hi hx
    exact (rd_round hT hn hL hx).1 hi
  · intro x hx k
    exact (rd_round hT hn hL hx).2 rfl k
end
/-- both say the same of the text -/
theorem p_read {g h : MG} (hQ : QPx (g.1 3) (g.1 9) (g.1 11) (g.1 13) (h.1 4) (h.1 0 16)) : ∃ (n : Nat) (r : Int32) (h' : MG), n ≤ 60 ∧ m_X2_firstFault g = some r ∧ m_X7_read h = some (r, h') ∧ RdR h (h.1 4) n (r, h') ∧ QMg (cst (h.1 4) n) g ∧ (cst (h.1 4) n).2.2.2.2.2.2.length ≤ n := by
  obtain ⟨n, hn, e1, e2, e3, e4⟩ := hQ
  obtain ⟨⟨r, h'⟩, b1, b2⟩ := r_read rfl hn e1
  have hr : r = FV (h.1 4) n := b2.1
  subst hr
  exact ⟨n, _, h', hn, c_firstFault e4 e2, b1, b2, e4, e3⟩
section
variable {g h : MG}
theorem rd_rel {n : Nat} {T : Nat → Int32} {r : Int32 × MG} (hR : Rel QPx g h) (hr : RdR h T n r) : Rel QPx g r.2 := scr_rel hR rfl (fun _ _ => rfl) (fun j hj => hr.2.2.1 j (by omega) (by omega) (by omega)) (fun x h1 h2 => hr.2.1 x (by omega) (by omega) (by omega) (by omega) (by omega))
theorem s_fault (hR : Rel QPx g h) : ∃ r h', m_X6_fault g = some r ∧ m_X7_fault h = some (r, h') ∧ Rel QPx g h' := by
  obtain ⟨n, r, h', -, b1, b2, b3, -⟩ := p_read hR.2.2
  unfold m_X6_fault m_X7_fault
  rw [bnd_e b1, bnd2_e b2]
  exact ⟨r, h', rfl, rfl, rd_rel hR b3⟩
end
