/-! the law's question: its text is read without a fault -/
def QW (g0 g : MG) : Prop := g.2 = g0.2 ∧ ∀ x, x ≠ 3 → x ≠ 5 → x ≠ 9 → x ≠ 11 → x ≠ 13 → x ≠ 15 → x ≠ 17 → x ≠ 19 → g.1 x = g0.1 x
theorem QW.rf (g : MG) : QW g g := ⟨rfl, fun _ _ _ _ _ _ _ _ _ => rfl⟩
theorem QW.tr {a b d : MG} (h : QW a b) (h' : QW b d) : QW a d := ⟨h'.1.trans h.1, fun x h1 h2 h3 h4 h5 h6 h7 h8 => (h'.2 x h1 h2 h3 h4 h5 h6 h7 h8).trans (h.2 x h1 h2 h3 h4 h5 h6 h7 h8)⟩
theorem CL5.qw {a b : MG} (h : CL5 a b) : QW a b := ⟨h.1, fun x _ h2 _ _ _ h6 h7 h8 => h.2 x h2 h6 h7 h8⟩
theorem CF.qw {a b : MG} (h : CF a b) : QW a b := ⟨h.1, fun x _ _ _ _ _ h6 h7 h8 => h.2 x h6 h7 h8⟩
theorem QW.T {g g' : MG} {N : Nat → Int32} {n c m : Nat} {u : Nat → Nat} (h : QW g g') (hT : TB g 0 N n c m u) : TB g' 0 N n c m u := hT.cong (fun k h1 h2 => h.2 k (by omega) (by omega) (by omega) (by omega) (by omega) (by omega) (by omega) (by omega))
theorem QW.H {g g' : MG} (h : QW g g') (hH : HO g) : HO g' := by
  obtain ⟨h1, h2, k, hk, e⟩ := hH
  have e2 := h.1
  refine ⟨fun j hj => by rw [e2]; exact h1 j hj, fun i j hi hj => by rw [e2]; exact h2 i j hi hj, k, hk, ?_⟩
  rw [h.2 1 (by omega) (by omega) (by omega) (by omega) (by omega) (by omega) (by omega) (by omega)]
  exact e
def RSq (p : Nat) (q : QS) (g : MG) : Prop := QMg q g ∧ g.1 3 0 = nI p ∧ StQ q ∧ q.1 = -1005 ∧ q.2.2.2.2.2.2.length ≤ p
theorem ty {p : Nat} {q q' : QS} {g : MG} {c : Int32} (h : RSq p q g) (hp : p < 60) (ha : qAl q c = some q') (h1 : q'.1 = -1005) : ∃ g', m_X6_type g c = some (nI (p + 1), g') ∧ RSq (p + 1) q' g' ∧ QW g g' := by
  obtain ⟨a1, a2, a3, a4, a5⟩ := h
  obtain ⟨g', b1, b2, b3, b4, b5, b6⟩ := c_read a1 (by omega) a3 a2 c
  have e : crd (nI p) q c = q' := by
    unfold crd
    rw [if_pos a4, ha]
    rfl
  rw [e] at b5 b6
  refine ⟨g', ?_, ⟨b5, b4, stq_al ha, h1, by omega⟩, b2, fun x h3 _ h9 h11 h13 _ _ _ => b3 x h3 h9 h11 h13⟩
  unfold m_X6_type
  rw [a2, show (60 : Int32) = nI 60 from rfl, if_pos (nI_lt (by omega) (by omega)), bnd_e b1, b4]
theorem clr (g : MG) : ∃ r g', m_X6_clearText g = some (r, g') ∧ RSq 0 (-1005, 0, 0, 0, 0, 0, []) g' ∧ QW g g' := by
  unfold m_X6_clearText m_X2_forget
  have e3 : ∀ x, x ≠ 3 → (g_w (g_w (g_w (g_w (g_w (g_w g 3 0 (0 : Int32)) 3 1 (-1005 : Int32)) 3 2 (0 : Int32)) 3 3 (0 : Int32)) 3 4 (0 : Int32)) 3 7 (0 : Int32)).1 x = g.1 x := fun x hx => by
    rw [gw_ne hx, gw_ne hx, gw_ne hx, gw_ne hx, gw_ne hx, gw_ne hx]
  refine ⟨_, _, bnd_e rfl, ⟨⟨?_, ?_, ?_, ?_, fun hx => ?_, fun hx => ?_, ?_, trivial⟩, ?_, Or.inl rfl, rfl, Nat.le_refl _⟩, rfl, fun x h3 _ _ _ _ _ _ _ => e3 x h3⟩
  · simp only [gw_at]
    rfl
  · simp only [gw_at]
    rfl
  · simp only [gw_at]
    rfl
  · simp only [gw_at]
    rfl
  · exfalso
    revert hx
    show ¬ ((0 : Int32) = 2 ∨ (0 : Int32) = 3 ∨ (0 : Int32) = 4)
    decide
  · exfalso
    revert hx
    show ¬ (0 : Int32) = 4
    decide
  · simp only [gw_at]
    rfl
  · simp only [gw_at]
    rfl
section
variable {F op no mi di c s : Int32} {tk : List TK}
theorem t_k (hc : c = 107 ∨ c = 118) : qAl (F, 0, op, no, mi, di, tk) c = some (F, 1, op, 0, mi, di, (c, 0, 0) :: tk) := by
  unfold qAl qTest
  rw [if_pos rfl]
  rcases hc with rfl | rfl
  · rw [if_neg (by decide), if_neg (by decide), if_pos rfl]
  · rw [if_neg (by decide), if_neg (by decide), if_neg (by decide), if_pos rfl]
theorem t_not : qAl (F, 0, op, 0, mi, di, tk) 33 = some (F, 0, op, 1, mi, di, (33, 0, 0) :: tk) := by
  unfold qAl qTest
  rw [if_pos rfl, if_pos rfl, if_pos (show (0 : Int32) < 5 by decide)]
  rfl
theorem t_open : qAl (F, 0, 0, no, mi, di, tk) 40 = some (F, 0, 1, 0, mi, di, (40, 0, 0) :: tk) := by
  unfold qAl qTest
  rw [if_pos rfl, if_neg (by decide), if_pos rfl, if_pos (show (0 : Int32) < 5 by decide)]
  rfl
theorem t_sg (hs : s = 60 ∨ s = 62 ∨ s = 61 ∨ s = 35) : qAl (F, 1, op, no, mi, di, tk) s = some (F, 2, op, no, 0, di, hdS s tk) := by
  unfold qAl qSign
  rw [if_neg (show ¬ (1 : Int32) = 0 by decide), if_pos rfl, if_pos hs]
theorem t_d1 (h1 : ¬ c < 48) (h2 : c ≤ 57) : qAl (F, 2, op, no, 0, di, tk) c = some (F, 4, op, no, 0, c - 48, hdN (c - 48) tk) := by
  unfold qAl qMinus qFirst
  rw [if_neg (show ¬ (2 : Int32) = 0 by decide), if_neg (show ¬ (2 : Int32) = 1 by decide), if_pos rfl, if_neg (fun e => h1 (by rw [e]; decide)), if_neg h1, if_pos h2]
  rfl
theorem t_d2 (h1 : ¬ c < 48) (h2 : c ≤ 57) (h3 : ¬ di = 0) (h4 : di * 10 + (c - 48) ≤ 999) : qAl (F, 4, op, no, 0, di, tk) c = some (F, 4, op, no, 0, di * 10 + (c - 48), hdN (di * 10 + (c - 48)) tk) := by
  unfold qAl qNext
  rw [if_neg (show ¬ (4 : Int32) = 0 by decide), if_neg (show ¬ (4 : Int32) = 1 by decide), if_neg (show ¬ (4 : Int32) = 2 by decide), if_neg (show ¬ (4 : Int32) = 3 by decide), if_pos rfl, if_neg h1, if_neg (Int32.not_lt.mpr h2), if_neg h3, if_pos h4]
  rfl
theorem t_op (hc : c = 38 ∨ c = 124) : qAl (F, 4, op, no, mi, di, tk) c = some (F, 0, op, no, mi, di, (c, 0, 0) :: tk) := by
  unfold qAl qNext qFol
  rw [if_neg (show ¬ (4 : Int32) = 0 by decide), if_neg (show ¬ (4 : Int32) = 1 by decide), if_neg (show ¬ (4 : Int32) = 2 by decide), if_neg (show ¬ (4 : Int32) = 3 by decide), if_pos rfl]
  rcases hc with rfl | rfl
  · rw [if_pos (by decide), if_pos rfl]
    rfl
  · rw [if_neg (by decide), if_pos (by decide), if_neg (by decide), if_neg (by decide), if_pos rfl]
    rfl
theorem t_cl : qAl (F, 4, 1, no, mi, di, tk) 41 = some (F, 5, 0, no, mi, di, (41, 0, 0) :: tk) := by
  unfold qAl qNext qFol
  rw [if_neg (show ¬ (4 : Int32) = 0 by decide), if_neg (show ¬ (4 : Int32) = 1 by decide), if_neg (show ¬ (4 : Int32) = 2 by decide), if_neg (show ¬ (4 : Int32) = 3 by decide), if_pos rfl, if_pos (by decide), if_neg (by decide), if_pos rfl, if_neg (show ¬ (1 : Int32) = 0 by decide)]
  show (none : Option QS).or (some (F, 5, (1 : Int32) - 1, no, mi, di, (41, 0, 0) :: tk)) = _
  rw [show (1 : Int32) - 1 = 0 by decide]
  rfl
end
/-! the law's text -/
def dg1 (r : Nat) : Int32 := (((49 : Int32) + nI r).toUInt32 % 65536).toInt32
def dg0 (r : Nat) : Int32 := (((48 : Int32) + nI r).toUInt32 % 65536).toInt32
theorem dg1_b : ∀ j, j < 9 → ¬ dg1 j < 48 ∧ dg1 j ≤ 57 ∧ ¬ dg1 j - 48 = 0 ∧ (∀ k, k < 10 → (dg1 j - 48) * 10 + (dg0 k - 48) ≤ 999) ∧ (dg1 j - 48) * 10 + (48 - 48) ≤ 999 ∧ ¬ (dg1 j - 48) * 10 + (48 - 48) = 0 ∧ ((dg1 j - 48) * 10 + (48 - 48)) * 10 + (48 - 48) ≤ 999 := by
  decide +kernel
theorem dg0_b : ∀ j, j < 10 → ¬ dg0 j < 48 ∧ dg0 j ≤ 57 := by
  decide +kernel
def cC (x : Int32) : Int32 := if nI (lw (x >>> ((2 : Int32) &&& 31)) 2) = 0 then 107 else 118
def sC (s : Int32) : Int32 := if s = 0 then 60 else if s = 1 then 62 else if s = 2 then 61 else 35
def wC (x : Int32) : Int32 := if nI (lw (x >>> ((11 : Int32) &&& 31)) 2) = 0 then 38 else 124
def n1C (x : Int32) : Int32 := (dg1 (lw (x >>> ((3 : Int32) &&& 31)) 9) - 48) * 10 + (dg0 (lw (x >>> ((7 : Int32) &&& 31)) 10) - 48)
def n2C (x : Int32) : Int32 := ((dg1 (lw (x >>> ((12 : Int32) &&& 31)) 9) - 48) * 10 + (48 - 48)) * 10 + (48 - 48)
def tkX (x s : Int32) (b : List TK) : List TK := (107, 62, n2C x) :: (wC x, 0, 0) :: (cC x, sC s, n1C x) :: b
theorem cC_or (x : Int32) : cC x = 107 ∨ cC x = 118 := by unfold cC; split <;> simp
theorem wC_or (x : Int32) : wC x = 38 ∨ wC x = 124 := by unfold wC; split <;> simp
theorem sC_or (s : Int32) : sC s = 60 ∨ sC s = 62 ∨ sC s = 61 ∨ sC s = 35 := by
  unfold sC
  split
  · simp
  · split
    · simp
    · split <;> simp
theorem j45 {p : Nat} {op no mi di : Int32} {b : List TK} {g : MG} (h : RSq p (-1005, 0, op, no, mi, di, b) g) (hp : p + 10 < 60) (k14 : (Int32 × MG × (Nat → Int32)) → Option (Int32 × MG)) (x1 c3 v4 : Int32) (f : Nat → Int32) : ∃ g' z, RSq (p + 10) (-1005, 4, op, 0, 0, z, tkX x1 c3 b) g' ∧ QW g g' ∧ m_L_turned_J45 k14 x1 c3 v4 g f = (if v4 = (1 : Int32) then bnd2 (m_X6_type g' (41 : Int32)) fun (r216 : Int32) (g216 : MG) => m_L_turned_J220 k14 x1 c3 v4 g216 f else m_L_turned_J220 k14 x1 c3 v4 g' f) := by
  have hA := dg1_b (lw (x1 >>> ((3 : Int32) &&& 31)) 9) (lww_lt (by decide))
  have hB := dg0_b (lw (x1 >>> ((7 : Int32) &&& 31)) 10) (lww_lt (by decide))
  have hAB := hA.2.2.2.1 (lw (x1 >>> ((7 : Int32) &&& 31)) 10) (lww_lt (by decide))
  have hD := dg1_b (lw (x1 >>> ((12 : Int32) &&& 31)) 9) (lww_lt (by decide))
  obtain ⟨g1, a1, b1, d1⟩ := ty h (by omega) (t_k (cC_or x1)) rfl
  obtain ⟨g2, a2, b2, d2⟩ := ty b1 (by omega) (t_sg (sC_or c3)) rfl
  obtain ⟨g3, a3, b3, d3⟩ := ty b2 (by omega) (t_d1 hA.1 hA.2.1) rfl
  obtain ⟨g4, a4, b4, d4⟩ := ty b3 (by omega) (t_d2 hB.1 hB.2 hA.2.2.1 hAB) rfl
  obtain ⟨g5, a5', b5, d5⟩ := ty b4 (by omega) (t_op (wC_or x1)) rfl
  obtain ⟨g6, a6, b6, d6⟩ := ty b5 (by omega) (t_k (Or.inl rfl)) rfl
  obtain ⟨g7, a7, b7, d7⟩ := ty b6 (by omega) (t_sg (s := 62) (Or.inr (Or.inl rfl))) rfl
  obtain ⟨g8, a8, b8, d8⟩ := ty b7 (by omega) (t_d1 hD.1 hD.2.1) rfl
  obtain ⟨g9, a9, b9, d9⟩ := ty b8 (by omega) (t_d2 (c := 48) (by decide) (by decide) hD.2.2.1 hD.2.2.2.2.1) rfl
  obtain ⟨g10, a10, b10, d10⟩ := ty b9 (by omega) (t_d2 (c := 48) (by decide) (by decide) hD.2.2.2.2.2.1 hD.2.2.2.2.2.2) rfl
  refine ⟨g10, _, b10, ((((((((d1.tr d2).tr d3).tr d4).tr d5).tr d6).tr d7).tr d8).tr d9).tr d10, ?_⟩
  have e1 : ∀ (g : MG), (if nI (lw (x1 >>> ((2 : Int32) &&& 31)) 2) = 0 then m_L_turned_J63 k14 x1 c3 v4 (107 : Int32) g f else m_L_turned_J63 k14 x1 c3 v4 (118 : Int32) g f) = m_L_turned_J63 k14 x1 c3 v4 (cC x1) g f := fun g => by
    unfold cC; split <;> rfl
  have e2 : ∀ (g : MG), (if nI (lw (x1 >>> ((11 : Int32) &&& 31)) 2) = 0 then m_L_turned_J157 k14 x1 c3 v4 (38 : Int32) g f else m_L_turned_J157 k14 x1 c3 v4 (124 : Int32) g f) = m_L_turned_J157 k14 x1 c3 v4 (wC x1) g f := fun g => by
    unfold wC; split <;> rfl
  have e3 : ∀ (g : MG), (if c3 = 0 then m_L_turned_J99 k14 x1 c3 v4 (60 : Int32) g f else if c3 = (1 : Int32) then m_L_turned_J99 k14 x1 c3 v4 (62 : Int32) g f else if c3 = (2 : Int32) then m_L_turned_J99 k14 x1 c3 v4 (61 : Int32) g f else m_L_turned_J99 k14 x1 c3 v4 (35 : Int32) g f) = m_L_turned_J99 k14 x1 c3 v4 (sC c3) g f := fun g => by
    unfold sC
    split
    · rfl
    · split
      · rfl
      · split <;> rfl
  unfold m_L_turned_J45
  rw [bnd_e (low_l (2 : Int32) (k := 2) rfl (by decide) (by decide)), e1]
  unfold m_L_turned_J63
  rw [bnd2_e a1, e3]
  unfold m_L_turned_J99
  rw [bnd2_e a2, bnd_e (low_l (9 : Int32) (k := 9) rfl (by decide) (by decide))]
  show (bnd2 (m_X6_type g2 (dg1 _)) _) = _
  rw [bnd2_e a3, bnd_e (low_l (10 : Int32) (k := 10) rfl (by decide) (by decide))]
  show (bnd2 (m_X6_type g3 (dg0 _)) _) = _
  rw [bnd2_e a4, bnd_e (low_l (2 : Int32) (k := 2) rfl (by decide) (by decide)), e2]
  unfold m_L_turned_J157
  rw [bnd2_e a5', bnd2_e a6, bnd2_e a7, bnd_e (low_l (9 : Int32) (k := 9) rfl (by decide) (by decide))]
  show (bnd2 (m_X6_type g7 (dg1 _)) _) = _
  rw [bnd2_e a8, bnd2_e a9, bnd2_e a10]
