/-! what an act makes of a table, in words of N; the class's pieces do just that -/
def w1 (N : Nat → Int32) (i : Nat) (v : Int32) : Nat → Int32 := fun j => if j = i then v else N j
theorem w1_eq {N : Nat → Int32} {i : Nat} {v : Int32} : w1 N i v i = v := if_pos rfl
theorem w1_ne {N : Nat → Int32} {i j : Nat} {v : Int32} (h : j ≠ i) : w1 N i v j = N j := if_neg h
theorem gw_1 {h : MG} {i : Nat} {v : Int32} : (g_w h 1 i v).1 1 = w1 (h.1 1) i v := by
  funext j
  rw [gw_at]; rfl
def apd (N : Nat → Int32) (n : Nat) (k v p : Int32) : Nat → Int32 := w1 (w1 (w1 (w1 N 0 (nI (n + 1))) (5 + n) k) (405 + n) v) (805 + n) p
def cutN (N : Nat → Int32) (c : Nat) (a b : Int32) : Nat → Int32 := w1 (w1 (w1 (w1 N 1 (nI (c + 1))) (1205 + c) 1) (1265 + c) a) (1325 + c) b
def mvN (N : Nat → Int32) (n : Nat) (p q lo hi : Int32) : Nat → Int32 := fun i => if 805 ≤ i ∧ i < 805 + n then (if RB N p lo hi (i - 805) = true then q else N i) else N i
def xcN (N : Nat → Int32) (n : Nat) (p : Int32) : Nat → Int32 := fun i => if 805 ≤ i ∧ i < 805 + n then xcF p (N i) else N i
theorem mvN_in {N : Nat → Int32} {n : Nat} {p q lo hi : Int32} {i : Nat} (h : i < n) : mvN N n p q lo hi (805 + i) = if RB N p lo hi i = true then q else N (805 + i) := by
  unfold mvN
  rw [if_pos (by omega), show 805 + i - 805 = i by omega]
theorem mvN_out {N : Nat → Int32} {n : Nat} {p q lo hi : Int32} {i : Nat} (h : i < 805 ∨ 805 + n ≤ i) : mvN N n p q lo hi i = N i := by
  unfold mvN
  rw [if_neg (by omega)]
theorem xcN_in {N : Nat → Int32} {n : Nat} {p : Int32} {i : Nat} (h : i < n) : xcN N n p (805 + i) = xcF p (N (805 + i)) := by
  unfold xcN
  rw [if_pos (by omega)]
theorem xcN_out {N : Nat → Int32} {n : Nat} {p : Int32} {i : Nat} (h : i < 805 ∨ 805 + n ≤ i) : xcN N n p i = N i := by
  unfold xcN
  rw [if_neg (by omega)]
theorem apd_o {N : Nat → Int32} {n : Nat} {k v p : Int32} {j : Nat} (h0 : j ≠ 0) (h1 : j ≠ 5 + n) (h2 : j ≠ 405 + n) (h3 : j ≠ 805 + n) : apd N n k v p j = N j := by
  unfold apd
  rw [w1_ne h3, w1_ne h2, w1_ne h1, w1_ne h0]
theorem apd_k {N : Nat → Int32} {n : Nat} {k v p : Int32} (hn : n < 400) : apd N n k v p (5 + n) = k := by
  unfold apd
  rw [w1_ne (by omega), w1_ne (by omega), w1_eq]
theorem apd_p {N : Nat → Int32} {n : Nat} {k v p : Int32} : apd N n k v p (805 + n) = p := w1_eq
theorem cut_o {N : Nat → Int32} {c : Nat} {a b : Int32} {j : Nat} (h0 : j ≠ 1) (h1 : j ≠ 1205 + c) (h2 : j ≠ 1265 + c) (h3 : j ≠ 1325 + c) : cutN N c a b j = N j := by
  unfold cutN
  rw [w1_ne h3, w1_ne h2, w1_ne h1, w1_ne h0]
theorem cut_a {N : Nat → Int32} {c : Nat} {a b : Int32} (hc : c < 60) : cutN N c a b (1205 + c) = 1 ∧ cutN N c a b (1265 + c) = a ∧ cutN N c a b (1325 + c) = b ∧ cutN N c a b 1 = nI (c + 1) := by
  unfold cutN
  refine ⟨?_, ?_, ?_, ?_⟩
  · rw [w1_ne (by omega), w1_ne (by omega), w1_eq]
  · rw [w1_ne (by omega), w1_eq]
  · rw [w1_eq]
  · rw [w1_ne (by omega), w1_ne (by omega), w1_ne (by omega), w1_eq]
section
variable {g G : MG} {N N' : Nat → Int32} {n c m : Nat} {u : Nat → Nat}
theorem tb_append (hT : TB g 0 N n c m u) (hn4 : n < 400) {k v p : Int32} (hk : 0 ≤ k.toInt ∧ k.toInt < 1000) (hv : -999 ≤ v.toInt ∧ v.toInt ≤ 999) (hp : PlOk N c p) (hst : p ≠ 61 ∨ cn (RP N 61) n + 1 ≤ 20) : ∃ G, m_X3_append g 0 k v p = some (nI n, G) ∧ G.2 = g.2 ∧ (∀ x, x < 20 ∨ 35 ≤ x → G.1 x = g.1 x) ∧ TB G 0 (apd N n k v p) (n + 1) c m u := by
  obtain ⟨G, H, q1, q2, q3, q4, q5, q6⟩ := both_append (h := hN N) hT hn4 hk hv hp hst
  have hval : m_X7_addRow (hN N) k v p = some (nI n, g_w (g_w (g_w (g_w (hN N) 1 0 (nI (n + 1))) 1 (5 + n) k) 1 (405 + n) v) 1 (805 + n) p) := by
    unfold m_X7_addRow
    have z0 : (hN N).1 1 (0 : Int32).toNatClampNeg = nI n := by rw [ak0]; exact hT.1.1.1
    rw [if_pos vk0, if_pos vk0, if_pos vk0, z0, if_pos (v5 hn4), if_pos (v405 hn4), if_pos (v805 hn4), ak0, a5 hn4, a405 hn4, a805 hn4, nI_1]
  have e := (Prod.mk.inj (Option.some.inj (q2.symm.trans hval))).2
  subst e
  rw [gw_1, gw_1, gw_1, gw_1] at q6
  exact ⟨G, q1, q3, q4, q6⟩
theorem tb_set (hT : TB g 0 N n c m u) {i : Nat} (hi : i < n) {q : Int32} (hq : PlOk N c q) (hst : q ≠ 61 ∨ N (805 + i) = 61) : TB (g_w g 28 i q) 0 (w1 N (805 + i) q) n c m u := by
  have h := both_set (h := hN N) hT hi hq hst
  rw [gw_1] at h
  exact h
theorem tb_key (hT : TB g 0 N n c m u) {i : Nat} (hi : i < n) {x : Int32} (hx : 0 ≤ x.toInt ∧ x.toInt < 1000) : TB (g_w g 24 i x) 0 (w1 N (5 + i) x) n c m u := by
  have h := both_key (h := hN N) hT hi hx
  rw [gw_1] at h
  exact h
theorem tb_move (hT : TB g 0 N n c m u) (p q lo hi : Int32) (hq : PlOk N c q) (hst : q ≠ 61 ∨ cn (RP N 61) n + cn (RB N p lo hi) n ≤ 20) : ∃ G, m_X3_moveKeys g 0 p q lo hi = some G ∧ G.2 = g.2 ∧ (∀ k, k ≠ 28 → G.1 k = g.1 k) ∧ TB G 0 (mvN N n p q lo hi) n c m u := by
  obtain ⟨G, a1, a2, a3, a4⟩ := c_moveKeys hT p q lo hi
  refine ⟨G, a1, a2, a3, mv_TB hT (fun k _ _ h3 => a3 k h3) (fun i hi' => (a4 i hi').trans (mvN_in hi').symm) (fun i hi' => mvN_out hi') (fun i hi' => ?_) (st_move (f := RB N p lo hi) (fun i hi' => mvN_in hi') hst hT.1.stage)⟩
  rw [mvN_in hi']
  split
  · exact hq
  · exact hT.1.pl hi'
theorem tb_cut (hT : TB g 0 N n c m u) (hc : c < 60) (hm : m < 12) {a b : Int32} (hab : 0 ≤ a.toInt ∧ a.toInt < b.toInt ∧ b.toInt ≤ 1000) (hno : ¬ Tk N c a b) : ∃ G u', m_X4_append g 0 a b = some (nI c, G) ∧ G.2 = g.2 ∧ (∀ k, k < 20 ∨ 35 ≤ k → G.1 k = g.1 k) ∧ TB G 0 (cutN N c a b) n (c + 1) (m + 1) u' := by
  obtain ⟨G, H, u', a1, a2, a3, a4, a5, a6, a7, a8⟩ := both_cut (h := hN N) hT hc hm hab hno
  have hval : m_X7_cutSlice (hN N) a b = some (nI c, g_w (g_w (g_w (g_w (hN N) 1 1 (nI (c + 1))) 1 (1205 + c) 1) 1 (1265 + c) a) 1 (1325 + c) b) := by
    unfold m_X7_cutSlice
    have z1 : (hN N).1 1 (1 : Int32).toNatClampNeg = nI c := by rw [ak1]; exact hT.1.1.2.2.1
    rw [if_pos vk1, if_pos vk1, if_pos vk1, z1, if_pos (v1205 hc), if_pos (v1265 hc), if_pos (v1325 hc), ak1, a1205 hc, a1265 hc, a1325 hc, nI_1]
  have e := (Prod.mk.inj (Option.some.inj (a2.symm.trans hval))).2
  subst e
  rw [gw_1, gw_1, gw_1, gw_1] at a6
  exact ⟨G, u', a1, a3, a4, a6⟩
theorem tb_remove (hT : TB g 0 N n c m u) {p : Nat} (hp : p < m) (hno : ∀ i, i < n → ¬ N (805 + i) = nI (u p)) : ∃ G u', m_X4_remove g 0 (nI (u p)) = some G ∧ G.2 = g.2 ∧ (∀ k, k < 20 ∨ 35 ≤ k → G.1 k = g.1 k) ∧ TB G 0 (w1 N (1205 + u p) 0) n c (m - 1) u' := by
  obtain ⟨G, a1, a2, a3, a4⟩ := both_remove (h := hN N) hT hp hno
  rw [gw_1] at a4
  exact ⟨G, _, a1, a2, a3, a4⟩
/-- homes -/
theorem hom_ex (N : Nat → Int32) (c : Nat) (h2 : N 2 = 0 ∨ N 2 = 1) (k : Int32) : ∃ r, HomR N c k r := by
  by_cases h : ∃ q, Own N c k q
  · obtain ⟨q, hq⟩ := h
    exact ⟨nI q, Or.inl ⟨q, hq, rfl⟩⟩
  · have hno : ∀ q, ¬ Own N c k q := fun q hq => h ⟨q, hq⟩
    rcases h2 with e | e
    · exact ⟨-1005, Or.inr ⟨hno, Or.inr ⟨e, rfl⟩⟩⟩
    · exact ⟨60, Or.inr ⟨hno, Or.inl ⟨e, rfl⟩⟩⟩
theorem hom60 (hc : c ≤ 60) {k : Int32} : HomR N c k 60 ↔ (∀ q, ¬ Own N c k q) ∧ N 2 = 1 := by
  constructor
  · rintro (⟨q, hq, e⟩ | ⟨hno, ⟨h1, -⟩ | ⟨-, h2⟩⟩)
    · exfalso
      have := hq.1
      rw [show (60 : Int32) = nI 60 from rfl, nI_eq (by omega) (by omega)] at e
      omega
    · exact ⟨hno, h1⟩
    · exact absurd h2 (by decide)
  · rintro ⟨h1, h2⟩
    exact Or.inr ⟨h1, Or.inl ⟨h2, rfl⟩⟩
/-- the default slice's rows stay at home -/
theorem dfo_cg {n' c' : Nat} (hD : DfO N n c) (hc : c ≤ 60) (hc' : c' ≤ 60) (h2 : N' 2 = N 2) (h : ∀ i, i < n' → N' (805 + i) = 60 → (i < n ∧ N (805 + i) = 60 ∧ N' (5 + i) = N (5 + i) ∧ ∀ q, Own N' c' (N (5 + i)) q → ∃ q', Own N c (N (5 + i)) q') ∨ HomR N' c' (N' (5 + i)) 60) : DfO N' n' c' := by
  intro i hi hp
  rcases h i hi hp with ⟨a, b, d, e⟩ | h
  · obtain ⟨f1, f2⟩ := (hom60 hc).mp (hD i a b)
    rw [d]
    refine (hom60 hc').mpr ⟨fun q hq => ?_, h2.trans f2⟩
    obtain ⟨q', hq'⟩ := e q hq
    exact f1 q' hq'
  · exact h
theorem own_cg {k : Int32} {q : Nat} {c' : Nat} (hcc : c' ≤ c) (h : Own N' c' k q) (e : N' (1205 + q) = N (1205 + q)) (e2 : N' (1265 + q) = N (1265 + q)) (e3 : N' (1325 + q) = N (1325 + q)) : Own N c k q := by
  obtain ⟨a, b, d, f⟩ := h
  exact ⟨by omega, by rw [← e]; exact b, by rw [← e2]; exact d, by rw [← e3]; exact f⟩
end
