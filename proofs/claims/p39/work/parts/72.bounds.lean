/-! slices go, change their bounds, are united; rows are exchanged -/
section
variable {g g' h H : MG} {N N' : Nat → Int32} {n c m : Nat} {u : Nat → Nat}
theorem no_rows (hk : OkN N n c) {p q : Int32} (hpq : ¬ q = p) (hN : ∀ i, i < n → N' (805 + i) = if RB N p 0 1000 i = true then q else N (805 + i)) : ∀ i, i < n → ¬ N' (805 + i) = p := fun i hi e => by
  rw [hN i hi] at e
  have hkey := (hk.2.2.1 i hi).1
  by_cases hb : RB N p 0 1000 i = true
  · rw [if_pos hb] at e
    exact hpq e
  · rw [if_neg hb] at e
    exact hb (rb_iff.mpr ⟨e, hkey.1, hkey.2⟩)
theorem EnE.of {t : Nat} {G g : MG} {i j : Nat} (h : EnE t G i g j) {a b d : Int32} (h2 : g.1 (30 + 15 * t) j = a ∧ g.1 (32 + 15 * t) j = b ∧ g.1 (34 + 15 * t) j = d) : G.1 (30 + 15 * t) i = a ∧ G.1 (32 + 15 * t) i = b ∧ G.1 (34 + 15 * t) i = d := ⟨h.1.trans h2.1, h.2.1.trans h2.2.1, h.2.2.trans h2.2.2⟩
theorem both_remove (hT : TB g 0 (h.1 1) n c m u) {p : Nat} (hp : p < m) (hno : ∀ i, i < n → ¬ h.1 1 (805 + i) = nI (u p)) : ∃ G, m_X4_remove g 0 (nI (u p)) = some G ∧ G.2 = g.2 ∧ (∀ k, k < 20 ∨ 35 ≤ k → G.1 k = g.1 k) ∧ TB G 0 ((g_w h 1 (1205 + u p) 0).1 1) n c (m - 1) (fun j => if j < p then u j else u (j + 1)) := by
  have hm := hT.m12
  have hc6 := hT.c6
  have hk := hT.1
  have hs := hT.2.1
  have hinj := so_inj hk hs
  have hen := hT.2.2.2.2
  have hu : ∀ j, j < m → u j < c := fun j hj => (hs.2.1 j hj).1
  obtain ⟨G, a1, a2, a3, a4, a5, a6⟩ := c_sremove (t := 0) hT.am hm (fun j hj => ⟨(hen j hj).1, by have := hu j hj; omega⟩) hinj hp
  have f1 : ∀ i, i ≠ 1205 + u p → (g_w h 1 (1205 + u p) 0).1 1 i = h.1 1 i := fun i hi => by rw [gw_at, if_neg hi]
  have f2 : (g_w h 1 (1205 + u p) 0).1 1 (1205 + u p) = 0 := by rw [gw_at, if_pos rfl]
  have hup := hu p hp
  generalize (g_w h 1 (1205 + u p) 0).1 1 = M at f1 f2 ⊢
  have hal : ∀ j, j < m → j ≠ p → M (1205 + u j) = 1 := fun j hj hjp => by
    rw [f1 _ (fun e => hjp (hinj j p hj hp (by omega)))]
    exact (hs.2.1 j hj).2
  refine ⟨G, a1, a2, fun k hk => a3 k (by omega) (by omega) (by omega) (by omega), ?_⟩
  refine sl_TB hT (fun i hi => f1 i (by omega)) ((f1 1 (by omega)).trans hk.1.2.2.1) (Nat.le_refl c) hc6 (fun i hi q hq hq1 hr => ?_) (fun q hq => ?_) ⟨by omega, fun j hj => ?_, fun q hq hq1 => ?_, fun i j hij hj => ?_⟩ (fun k h1 h2 h3 => a3 k (by omega) (by omega) (by omega) (by omega)) ⟨a4, a5.trans (hT.2.2.1.2.2.1.trans hk.1.2.2.1)⟩ (fun j hj => ?_)
  · rw [f1 _ (fun e => hno i hi (by rw [hr]; congr 1; omega))]
    exact hq1
  · rw [f1 (1265 + q) (by omega), f1 (1325 + q) (by omega)]
    by_cases e : q = u p
    · subst e
      rw [f2]
      exact ⟨Or.inl rfl, fun w => absurd w (by decide)⟩
    · rw [f1 (1205 + q) (by omega)]
      exact hk.2.2.2.1 q hq
  · by_cases e : j < p
    · simp only [if_pos e]
      exact ⟨hu j (by omega), hal j (by omega) (by omega)⟩
    · simp only [if_neg e]
      exact ⟨hu (j + 1) (by omega), hal (j + 1) (by omega) (by omega)⟩
  · by_cases e : q = u p
    · rw [e, f2] at hq1
      exact absurd hq1 (by decide)
    · rw [f1 (1205 + q) (by omega)] at hq1
      obtain ⟨j, hj, rfl⟩ := hs.2.2.1 q hq hq1
      have hjp : j ≠ p := fun w => e (congrArg u w)
      by_cases e2 : j < p
      · exact ⟨j, by omega, by simp only [if_pos e2]⟩
      · exact ⟨j - 1, by omega, by simp only [if_neg (show ¬ j - 1 < p by omega), show j - 1 + 1 = j by omega]⟩
  · show (M (1325 + if i < p then u i else u (i + 1))).toInt ≤ (M (1265 + if j < p then u j else u (j + 1))).toInt
    rw [f1 (1325 + _) (by omega), f1 (1265 + _) (by omega)]
    by_cases e1 : j < p
    · rw [if_pos e1, if_pos (show i < p by omega)]
      exact hs.2.2.2 i j hij (by omega)
    · rw [if_neg e1]
      by_cases e2 : i < p
      · rw [if_pos e2]
        exact hs.2.2.2 i (j + 1) (by omega) (by omega)
      · rw [if_neg e2]
        exact hs.2.2.2 (i + 1) (j + 1) (by omega) (by omega)
  · show G.1 30 j = nI (if j < p then u j else u (j + 1)) ∧ G.1 32 j = M (1265 + if j < p then u j else u (j + 1)) ∧ G.1 34 j = M (1325 + if j < p then u j else u (j + 1))
    have w := a6 j hj
    rw [f1 (1265 + _) (by omega), f1 (1325 + _) (by omega)]
    by_cases e1 : j < p
    · rw [if_pos e1] at w ⊢
      exact w.of (hen j (by omega))
    · rw [if_neg e1] at w ⊢
      exact w.of (hen (j + 1) (by omega))
/-- the bounds of the r-th slice change -/
theorem both_bounds (hT : TB g 0 N n c m u) {r : Nat} (hr : r < m) {lo hi : Int32} (hb : 0 ≤ lo.toInt ∧ lo.toInt < hi.toInt ∧ hi.toInt ≤ 1000) (hlo : ∀ j, j < r → (N (1325 + u j)).toInt ≤ lo.toInt) (hhi : ∀ j, r < j → j < m → hi.toInt ≤ (N (1265 + u j)).toInt) (hN : ∀ i, i ≠ 1265 + u r → i ≠ 1325 + u r → N' i = N i) (h1 : N' (1265 + u r) = lo) (h2 : N' (1325 + u r) = hi) : TB (g_w (g_w g (32 + 15 * 0) r lo) (34 + 15 * 0) r hi) 0 N' n c m u := by
  have hm := hT.m12
  have hc6 := hT.c6
  have hk := hT.1
  have hs := hT.2.1
  have hinj := so_inj hk hs
  have hen := hT.2.2.2.2
  have hu : ∀ j, j < m → u j < c := fun j hj => (hs.2.1 j hj).1
  have hur := hu r hr
  have e0 : ∀ q, N' (1205 + q) = N (1205 + q) ∨ 60 ≤ q := fun q => by
    rcases Nat.lt_or_ge q 60 with w | w
    · exact Or.inl (hN _ (by omega) (by omega))
    · exact Or.inr w
  have e0' : ∀ q, q < c → N' (1205 + q) = N (1205 + q) := fun q hq => hN _ (by omega) (by omega)
  have eo : ∀ j, j < m → j ≠ r → N' (1265 + u j) = N (1265 + u j) ∧ N' (1325 + u j) = N (1325 + u j) := fun j hj hjr => by
    have hne : u j ≠ u r := fun e => hjr (hinj j r hj hr e)
    have := hu j hj
    exact ⟨hN _ (by omega) (by omega), hN _ (by omega) (by omega)⟩
  have m30 : (g_w (g_w g (32 + 15 * 0) r lo) (34 + 15 * 0) r hi).1 30 = g.1 30 := by rw [gw_ne (by omega), gw_ne (by omega)]
  have m32 : ∀ j, (g_w (g_w g (32 + 15 * 0) r lo) (34 + 15 * 0) r hi).1 32 j = if j = r then lo else g.1 32 j := fun j => by
    rw [gw_ne (by omega)]
    exact gw_at
  have m34 : ∀ j, (g_w (g_w g (32 + 15 * 0) r lo) (34 + 15 * 0) r hi).1 34 j = if j = r then hi else g.1 34 j := fun j => by
    refine (gw_at (k := 34) (g := g_w g (32 + 15 * 0) r lo)).trans ?_
    rw [gw_ne (by omega)]
  have m22 : (g_w (g_w g (32 + 15 * 0) r lo) (34 + 15 * 0) r hi).1 22 = g.1 22 := by rw [gw_ne (by omega), gw_ne (by omega)]
  refine sl_TB hT (fun i hi => hN i (by omega) (by omega)) ((hN 1 (by omega) (by omega)).trans hk.1.2.2.1) (Nat.le_refl c) hc6 (fun i hi q hq hq1 _ => by rw [e0' q hq]; exact hq1) (fun q hq => ?_) ⟨hm, fun j hj => ⟨hu j hj, by rw [e0' _ (hu j hj)]; exact (hs.2.1 j hj).2⟩, fun q hq hq1 => hs.2.2.1 q hq (by rw [← e0' q hq]; exact hq1), fun i j hij hj => ?_⟩ (fun k h1 h2 h3 => by rw [gw_ne (by omega), gw_ne (by omega)]) ⟨by rw [m22]; exact hT.am, by rw [m22]; exact hT.2.2.1.2.2.1.trans hk.1.2.2.1⟩ (fun j hj => ?_)
  · rw [e0' q hq]
    by_cases e : q = u r
    · subst e
      rw [h1, h2]
      exact ⟨(hk.2.2.2.1 _ hq).1, fun _ => hb⟩
    · rw [hN (1265 + q) (by omega) (by omega), hN (1325 + q) (by omega) (by omega)]
      exact hk.2.2.2.1 q hq
  · by_cases e1 : j = r
    · subst e1
      rw [h1, (eo i (by omega) (by omega)).2]
      exact hlo i hij
    · rw [(eo j hj e1).1]
      by_cases e2 : i = r
      · subst e2
        rw [h2]
        exact hhi j hij hj
      · rw [(eo i (by omega) e2).2]
        exact hs.2.2.2 i j hij hj
  · rw [m30, m32, m34]
    by_cases e1 : j = r
    · subst e1
      rw [if_pos rfl, if_pos rfl, h1, h2]
      exact ⟨(hen j hj).1, rfl, rfl⟩
    · rw [if_neg e1, if_neg e1, (eo j hj e1).1, (eo j hj e1).2]
      exact hen j hj
/-- the p-th slice goes into the r-th -/
theorem both_unite (hT : TB g 0 N n c m u) {p r : Nat} (hp : p < m) (hr : r < m) (hpr : p ≠ r) (hno : ∀ i, i < n → ¬ N (805 + i) = nI (u p)) {lo hi : Int32} (hb : 0 ≤ lo.toInt ∧ lo.toInt < hi.toInt ∧ hi.toInt ≤ 1000) (hlo : ∀ j, j < r → j ≠ p → (N (1325 + u j)).toInt ≤ lo.toInt) (hhi : ∀ j, r < j → j < m → j ≠ p → hi.toInt ≤ (N (1265 + u j)).toInt) (hN : ∀ i, i ≠ 1205 + u p → i ≠ 1265 + u r → i ≠ 1325 + u r → N' i = N i) (h0 : N' (1205 + u p) = 0) (h1 : N' (1265 + u r) = lo) (h2 : N' (1325 + u r) = hi) : ∃ G, m_X4_remove (g_w (g_w g (32 + 15 * 0) r lo) (34 + 15 * 0) r hi) 0 (nI (u p)) = some G ∧ G.2 = g.2 ∧ (∀ k, k < 20 ∨ 35 ≤ k → G.1 k = g.1 k) ∧ TB G 0 N' n c (m - 1) (fun j => if j < p then u j else u (j + 1)) := by
  have hm := hT.m12
  have hc6 := hT.c6
  have hk := hT.1
  have hs := hT.2.1
  have hinj := so_inj hk hs
  have hen := hT.2.2.2.2
  have hu : ∀ j, j < m → u j < c := fun j hj => (hs.2.1 j hj).1
  have hur := hu r hr
  have hup := hu p hp
  have hprn : u p ≠ u r := fun e => hpr (hinj p r hp hr e)
  have m30 : (g_w (g_w g (32 + 15 * 0) r lo) (34 + 15 * 0) r hi).1 (30 + 15 * 0) = g.1 (30 + 15 * 0) := by rw [gw_ne (by omega), gw_ne (by omega)]
  have m32 : ∀ j, (g_w (g_w g (32 + 15 * 0) r lo) (34 + 15 * 0) r hi).1 (32 + 15 * 0) j = if j = r then lo else g.1 (32 + 15 * 0) j := fun j => by
    rw [gw_ne (by omega)]
    exact gw_at
  have m34 : ∀ j, (g_w (g_w g (32 + 15 * 0) r lo) (34 + 15 * 0) r hi).1 (34 + 15 * 0) j = if j = r then hi else g.1 (34 + 15 * 0) j := fun j => by
    refine gw_at.trans ?_
    rw [gw_ne (by omega)]
  have mo : ∀ k, k ≠ 32 → k ≠ 34 → (g_w (g_w g (32 + 15 * 0) r lo) (34 + 15 * 0) r hi).1 k = g.1 k := fun k h1 h2 => by rw [gw_ne (by omega), gw_ne (by omega)]
  have ms : (g_w (g_w g (32 + 15 * 0) r lo) (34 + 15 * 0) r hi).2 = g.2 := rfl
  generalize (g_w (g_w g (32 + 15 * 0) r lo) (34 + 15 * 0) r hi) = G1 at m30 m32 m34 mo ms ⊢
  obtain ⟨G, a1, a2, a3, a4, a5, a6⟩ := c_sremove (g := G1) (t := 0) (by rw [mo _ (by omega) (by omega)]; exact hT.am) hm (fun j hj => ⟨by rw [m30]; exact (hen j hj).1, by have := hu j hj; omega⟩) hinj hp
  have ealv : ∀ q, q < c → q ≠ u p → N' (1205 + q) = N (1205 + q) := fun q hq hqp => hN _ (by omega) (by omega) (by omega)
  have eo : ∀ j, j < m → j ≠ r → N' (1265 + u j) = N (1265 + u j) ∧ N' (1325 + u j) = N (1325 + u j) := fun j hj hjr => by
    have hne : u j ≠ u r := fun e => hjr (hinj j r hj hr e)
    have := hu j hj
    exact ⟨hN _ (by omega) (by omega) (by omega), hN _ (by omega) (by omega) (by omega)⟩
  have hal : ∀ j, j < m → j ≠ p → N' (1205 + u j) = 1 := fun j hj hjp => by
    rw [ealv _ (hu j hj) (fun e => hjp (hinj j p hj hp e))]
    exact (hs.2.1 j hj).2
  -- entries of the new order
  have hfin : ∀ j, j < m → g.1 (30 + 15 * 0) j = nI (u j) ∧ (if j = r then lo else g.1 (32 + 15 * 0) j) = N' (1265 + u j) ∧ (if j = r then hi else g.1 (34 + 15 * 0) j) = N' (1325 + u j) := fun j hj => by
    by_cases e : j = r
    · subst e
      rw [if_pos rfl, if_pos rfl, h1, h2]
      exact ⟨(hen j hj).1, rfl, rfl⟩
    · rw [if_neg e, if_neg e, (eo j hj e).1, (eo j hj e).2]
      exact hen j hj
  have hord : ∀ i j, i < j → j < m → i ≠ p → j ≠ p → (N' (1325 + u i)).toInt ≤ (N' (1265 + u j)).toInt := fun i j hij hj hip hjp => by
    by_cases e1 : j = r
    · subst e1
      rw [h1, (eo i (by omega) (by omega)).2]
      exact hlo i hij hip
    · rw [(eo j hj e1).1]
      by_cases e2 : i = r
      · subst e2
        rw [h2]
        exact hhi j hij hj hjp
      · rw [(eo i (by omega) e2).2]
        exact hs.2.2.2 i j hij hj
  refine ⟨G, a1, a2.trans ms, fun k hk => (a3 k (by omega) (by omega) (by omega) (by omega)).trans (mo k (by omega) (by omega)), ?_⟩
  refine sl_TB hT (fun i hi => hN i (by omega) (by omega) (by omega)) ((hN 1 (by omega) (by omega) (by omega)).trans hk.1.2.2.1) (Nat.le_refl c) hc6 (fun i hi q hq hq1 hrow => ?_) (fun q hq => ?_) ⟨by omega, fun j hj => ?_, fun q hq hq1 => ?_, fun i j hij hj => ?_⟩ (fun k h1 h2 h3 => (a3 k (by omega) (by omega) (by omega) (by omega)).trans (mo k (by omega) (by omega))) ⟨a4, a5.trans ((congrFun (mo 22 (by omega) (by omega)) 4).trans (hT.2.2.1.2.2.1.trans hk.1.2.2.1))⟩ (fun j hj => ?_)
  · rw [ealv q hq (fun e => hno i hi (by rw [hrow, e]))]
    exact hq1
  · by_cases e : q = u p
    · subst e
      rw [h0]
      exact ⟨Or.inl rfl, fun w => absurd w (by decide)⟩
    · rw [ealv q hq e]
      by_cases e2 : q = u r
      · subst e2
        rw [h1, h2]
        exact ⟨(hk.2.2.2.1 _ hq).1, fun _ => hb⟩
      · rw [hN (1265 + q) (by omega) (by omega) (by omega), hN (1325 + q) (by omega) (by omega) (by omega)]
        exact hk.2.2.2.1 q hq
  · by_cases e : j < p
    · simp only [if_pos e]
      exact ⟨hu j (by omega), hal j (by omega) (by omega)⟩
    · simp only [if_neg e]
      exact ⟨hu (j + 1) (by omega), hal (j + 1) (by omega) (by omega)⟩
  · by_cases e : q = u p
    · rw [e, h0] at hq1
      exact absurd hq1 (by decide)
    · rw [ealv q hq e] at hq1
      obtain ⟨j, hj, rfl⟩ := hs.2.2.1 q hq hq1
      have hjp : j ≠ p := fun w => e (congrArg u w)
      by_cases e2 : j < p
      · exact ⟨j, by omega, by simp only [if_pos e2]⟩
      · exact ⟨j - 1, by omega, by simp only [if_neg (show ¬ j - 1 < p by omega), show j - 1 + 1 = j by omega]⟩
  · show (N' (1325 + if i < p then u i else u (i + 1))).toInt ≤ (N' (1265 + if j < p then u j else u (j + 1))).toInt
    by_cases e1 : j < p
    · rw [if_pos e1, if_pos (show i < p by omega)]
      exact hord i j hij (by omega) (by omega) (by omega)
    · rw [if_neg e1]
      by_cases e2 : i < p
      · rw [if_pos e2]
        exact hord i (j + 1) (by omega) (by omega) (by omega) (by omega)
      · rw [if_neg e2]
        exact hord (i + 1) (j + 1) (by omega) (by omega) (by omega) (by omega)
  · show G.1 30 j = nI (if j < p then u j else u (j + 1)) ∧ G.1 32 j = N' (1265 + if j < p then u j else u (j + 1)) ∧ G.1 34 j = N' (1325 + if j < p then u j else u (j + 1))
    have w := a6 j hj
    by_cases e1 : j < p
    · rw [if_pos e1] at w ⊢
      refine w.of ?_
      rw [m30, m32, m34]
      exact hfin j (by omega)
    · rw [if_neg e1] at w ⊢
      refine w.of ?_
      rw [m30, m32, m34]
      exact hfin (j + 1) (by omega)
end
