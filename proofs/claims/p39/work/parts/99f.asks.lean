/-! what the law asks of its question -/
section
variable {g g' : MG} {tk o : List TK} {N : Nat → Int32} {n c m : Nat} {u : Nat → Nat}
def FQ (tk : List TK) (N : Nat → Int32) (n c m : Nat) (u : Nat → Nat) (g : MG) : Prop := TB g 0 N n c m u ∧ QC g tk ∧ g.1 3 1 = -1005 ∧ (g.1 3 2 = 4 ∨ g.1 3 2 = 5) ∧ g.1 3 3 = 0
theorem FQ.l5 (h : FQ tk N n c m u g) (e : CL5 g g') : FQ tk N n c m u g' := by
  obtain ⟨h1, h2, h3, h4, h5⟩ := h
  have e3 : g'.1 3 = g.1 3 := e.2 3 (by omega) (by omega) (by omega) (by omega)
  refine ⟨h1.cong (fun k h1 h2 => e.2 k (by omega) (by omega) (by omega) (by omega)), h2.cong (fun x hx => e.2 x (by omega) (by omega) (by omega) (by omega)), ?_, ?_, ?_⟩
  · rw [e3]; exact h3
  · rw [e3]; exact h4
  · rw [e3]; exact h5
theorem fq_of {p : Nat} {q : QS} (hT : TB g 0 N n c m u) (h : RSq p q g) (hp : p ≤ 60) (h1 : q.2.1 = 4 ∨ q.2.1 = 5) (h2 : q.2.2.1 = 0) : FQ q.2.2.2.2.2.2 N n c m u g := by
  obtain ⟨⟨a1, a2, a3, a4, a5, a6, a7, a8⟩, b1, b2, b3, b4⟩ := h
  exact ⟨hT, ⟨a7, by omega, a8.full (Or.inr h1)⟩, a1.trans b3, by rw [a2]; exact h1, a3.trans h2⟩
theorem FQ.ok (h : FQ tk N n c m u g) : m_X2_isFaulty g = some 0 := by
  obtain ⟨-, -, h3, h4, h5⟩ := h
  have : m_X2_firstFault g = some (-1005) := by
    unfold m_X2_firstFault
    rw [if_pos h3]
    rcases h4 with e | e
    · rw [if_pos e, if_neg (show ¬ (1 : Int32) = 0 by decide), if_pos h5]
    · rw [if_neg (show ¬ g.1 3 2 = 4 by rw [e]; decide), if_pos e, if_neg (show ¬ (1 : Int32) = 0 by decide), if_pos h5]
  rw [c_isFaulty this, if_pos rfl]
theorem CL5.tr {a b d : MG} (h : CL5 a b) (h' : CL5 b d) : CL5 a d := ⟨h'.1.trans h.1, fun c h5 h15 h17 h19 => (h'.2 c h5 h15 h17 h19).trans (h.2 c h5 h15 h17 h19)⟩
theorem k_mark (h : FQ tk N n c m u g) (hV : QV tk o) : ∃ g1, m_X6_markLooked g (g.1 (20 + 15 * 0) 3) = some g1 ∧ CL5 g g1 ∧ CX tk N n c m u (N 3) g1 := by
  have e3 : g.1 (20 + 15 * 0) 3 = N 3 := h.1.2.2.1.2.2.2.2.1
  obtain ⟨g', a1, a2, a3⟩ := c_mark h.1 h.2.1 hV (pr_3 h.1.1)
  rw [e3]
  exact ⟨g', a1, a2, h.1.cong (fun k h1 h2 => a2.2 k (by omega) (by omega) (by omega) (by omega)), h.2.1.cong (fun x hx => a2.2 x (by omega) (by omega) (by omega) (by omega)), a3⟩
theorem k_ask0 (h : FQ tk N n c m u g) (hV : QV tk o) : ∃ g', m_X6_ask g 0 = some (nI (cn (anB tk N c (N 3)) n), g') ∧ CL5 g g' := by
  obtain ⟨g1, a1, a2, a3⟩ := k_mark h hV
  obtain ⟨g2, b1, b2⟩ := c_answerAmount a3 hV
  unfold m_X6_ask
  rw [bnd_e h.ok, if_pos rfl, bnd_e a1, if_pos rfl, bnd2_e b1]
  exact ⟨g2, rfl, a2.cf b2⟩
theorem k_ask3 (h : FQ tk N n c m u g) (hV : QV tk o) : ∃ g', m_X6_ask g 3 = some (nI (cn (loB tk N c (N 3)) n), g') ∧ CL5 g g' := by
  obtain ⟨g1, a1, a2, a3⟩ := k_mark h hV
  unfold m_X6_ask
  rw [bnd_e h.ok, if_pos rfl, bnd_e a1, if_neg (show ¬ (3 : Int32) = 0 by decide), if_neg (show ¬ (3 : Int32) = 1 by decide), if_neg (show ¬ (3 : Int32) = 2 by decide), if_pos rfl, bnd_e (c_lookedRows a3)]
  exact ⟨g1, rfl, a2⟩
theorem k_ask4 (h : FQ tk N n c m u g) (hV : QV tk o) : ∃ g', m_X6_ask g 4 = some (nI (cn (waB tk N) n), g') ∧ CL5 g g' := by
  obtain ⟨g1, a1, a2, a3⟩ := k_mark h hV
  obtain ⟨g2, b1, b2⟩ := c_wholeAmount a3 hV
  unfold m_X6_ask
  rw [bnd_e h.ok, if_pos rfl, bnd_e a1, if_neg (show ¬ (4 : Int32) = 0 by decide), if_neg (show ¬ (4 : Int32) = 1 by decide), if_neg (show ¬ (4 : Int32) = 2 by decide), if_neg (show ¬ (4 : Int32) = 3 by decide), if_pos rfl, bnd2_e b1]
  exact ⟨g2, rfl, a2.cf b2⟩
theorem k_ask5 (h : FQ tk N n c m u g) (hV : QV tk o) : ∃ g', m_X6_ask g 5 = some (nI (cn (waB tk N) n) - nI (cn (anB tk N c (N 3)) n), g') ∧ CL5 g g' := by
  obtain ⟨g1, a1, a2, a3⟩ := k_mark h hV
  obtain ⟨g2, b1, b2⟩ := c_wholeAmount a3 hV
  obtain ⟨g3, d1, d2⟩ := c_answerAmount (a3.cf b2) hV
  unfold m_X6_ask
  rw [bnd_e h.ok, if_pos rfl, bnd_e a1, if_neg (show ¬ (5 : Int32) = 0 by decide), if_neg (show ¬ (5 : Int32) = 1 by decide), if_neg (show ¬ (5 : Int32) = 2 by decide), if_neg (show ¬ (5 : Int32) = 3 by decide), if_neg (show ¬ (5 : Int32) = 4 by decide), if_pos rfl, bnd2_e b1, bnd2_e d1]
  exact ⟨g3, rfl, a2.cf (b2.tr d2)⟩
theorem k_answer (h : FQ tk N n c m u g) (hV : QV tk o) {x : Int32} (hx : 0 ≤ x) : ∃ r g', m_X6_answer g x = some (r, g') ∧ CL5 g g' ∧ RkR (anB tk N c (N 3)) n x r := by
  obtain ⟨g1, a1, a2, a3⟩ := k_mark h hV
  obtain ⟨r, g2, b1, b2, b3⟩ := c_answer a3 hV x
  unfold m_X6_answer
  rw [bnd_e h.ok, if_pos rfl, if_pos hx, bnd_e a1, b1]
  exact ⟨r, g2, rfl, a2.cf b2, b3⟩
/-- what passes answers -/
def pvF (tk : List TK) (N : Nat → Int32) (n j : Nat) : Int32 := if j < n then (if N (805 + j) = -1 then -1001 else b01 (paB tk N j)) else -1001
theorem k_passes (h : FQ tk N n c m u g) (hV : QV tk o) {j : Nat} (hj : j < 2000) : ∃ g', m_X6_passes g (nI j) = some (pvF tk N n j, g') ∧ CL5 g g' := by
  unfold m_X6_passes pvF
  by_cases hn : j < n
  · rw [bnd_e (c_has h.1 hn), if_pos hn]
    by_cases e : N (805 + j) = -1
    · rw [if_pos e, if_pos e, if_pos rfl]
      exact ⟨g, rfl, CL5.rf g⟩
    · obtain ⟨g', b1, b2⟩ := c_rowPasses h.1 h.2.1 hV hn
      rw [if_neg e, if_neg e, if_neg (show ¬ (1 : Int32) = 0 by decide), bnd_e h.ok, if_pos rfl, bnd2_e b1]
      refine ⟨g', ?_, b2.l5⟩
      cases paB tk N j
      · rw [if_pos (by decide)]; rfl
      · rw [if_neg (by decide)]; rfl
  · rw [bnd_e (c_has_out h.1 (x := nI j) (Or.inr (by rw [nI_toInt (by omega)]; omega))), if_neg hn, if_pos rfl]
    exact ⟨g, rfl, CL5.rf g⟩
theorem k_spared (h : FQ tk N n c m u g) (hV : QV tk o) (hD : DfO N n c) : ∃ (r : Int32 × Int32 × Int32) (g' : MG), m_X6_spared g = some (r, g') ∧ CL5 g g' ∧ spk r ∧ (N 3 = 0 → spz r) := by
  have hn := h.1.n4
  have hk := h.1.1
  have hcn := cn_le (itB N) n
  unfold m_X6_spared
  rw [bnd_e h.ok, if_pos rfl, bnd_e (c_amountInTable h.1)]
  by_cases e0 : cn (itB N) n = 0
  · rw [if_neg (by rw [e0]; decide)]
    exact ⟨_, g, rfl, CL5.rf g, Or.inl rfl, fun _ => Or.inl rfl⟩
  · obtain ⟨g1, a1, a2, a3⟩ := k_mark h hV
    rw [if_pos (show (0 : Int32) < nI (cn (itB N) n) from nI_lt (a := 0) (by omega) (by omega)), bnd_e a1, bnd_e (c_lookedRows a3)]
    have hle : cn (loB tk N c (N 3)) n ≤ cn (itB N) n := cn_mono (fun i hi hl => lo_it hk hi hl)
    have h1 : (1 : Int32) ≤ nI (cn (itB N) n) := nI_le (a := 1) (by omega) (by omega)
    have h4 : nI (cn (itB N) n) ≤ (400 : Int32) := nI_le (b := 400) (by omega) (by omega)
    refine ⟨_, g1, rfl, a2, Or.inr ⟨rfl, nI_le (a := 0) (by omega) (by omega), nI_le hle (by omega), h1, h4⟩, fun h3 => Or.inr ⟨rfl, ?_, h1, h4⟩⟩
    show nI _ = nI _
    refine congrArg nI (cn_congr (fun i hi => ?_))
    cases hit : itB N i with
    | false =>
      cases hl : loB tk N c (N 3) i with
      | false => rfl
      | true => exact absurd ((lo_it hk hi hl).symm.trans hit) (by decide)
    | true =>
      rw [lo_t]
      rcases it_pl hk hi with ⟨-, q, hq, e⟩ | ⟨a, -⟩
      · refine ⟨q, hq, e, ?_⟩
        rcases hk.pl hi with e' | e' | e' | ⟨q', hq', e', hal⟩
        · exact absurd (e.symm.trans e') (nI_ne_m (by omega) (by decide))
        · have : q = 60 := (nI_eq (by omega) (by omega)).mp (e.symm.trans e')
          obtain ⟨-, f2⟩ := (hom60 hk.1.2.2.2).mp (hD i hi e')
          exact Or.inr ⟨this, f2, Or.inl (by rw [h3]; decide)⟩
        · have : q = 61 := (nI_eq (by omega) (by omega)).mp (e.symm.trans e')
          omega
        · have hc6 := h.1.c6
          have : q = q' := (nI_eq (by omega) (by omega)).mp (e.symm.trans e')
          subst this
          exact Or.inl ⟨hq', hal, Or.inl h3⟩
      · exact absurd (hit.symm.trans a) (by decide)
end
