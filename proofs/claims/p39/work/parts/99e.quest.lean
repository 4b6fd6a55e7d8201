/-! what the law's question comes to, and that bounds and keys alone never leave out a row that lies where it belongs -/
section
variable {τ : TAU} {a b : Int32} {cs : List CL}
theorem st33 : cstp τ (33, a, b) cs = cNot cs := by
  unfold cstp
  rw [if_pos rfl]
theorem st40 (h : cs.length < 6) : cstp τ (40, a, b) cs = some ((0, 2, false) :: cs) := by
  unfold cstp
  rw [if_neg (show ¬ (40 : Int32) = 33 by decide), if_pos rfl, if_pos h]
theorem st41 : cstp τ (41, a, b) cs = cClose cs := by
  unfold cstp
  rw [if_neg (show ¬ (41 : Int32) = 33 by decide), if_neg (show ¬ (41 : Int32) = 40 by decide), if_pos rfl]
theorem st107 : cstp τ (107, a, b) cs = cAdd (τ true a b) cs := by
  unfold cstp
  rw [if_neg (show ¬ (107 : Int32) = 33 by decide), if_neg (show ¬ (107 : Int32) = 40 by decide), if_neg (show ¬ (107 : Int32) = 41 by decide), if_pos rfl]
theorem st118 : cstp τ (118, a, b) cs = cAdd (τ false a b) cs := by
  unfold cstp
  rw [if_neg (show ¬ (118 : Int32) = 33 by decide), if_neg (show ¬ (118 : Int32) = 40 by decide), if_neg (show ¬ (118 : Int32) = 41 by decide), if_neg (show ¬ (118 : Int32) = 107 by decide), if_pos rfl]
theorem st124 : cstp τ (124, a, b) cs = cEnd cs := by
  unfold cstp
  rw [if_neg (show ¬ (124 : Int32) = 33 by decide), if_neg (show ¬ (124 : Int32) = 40 by decide), if_neg (show ¬ (124 : Int32) = 41 by decide), if_neg (show ¬ (124 : Int32) = 107 by decide), if_neg (show ¬ (124 : Int32) = 118 by decide), if_pos rfl]
theorem st38 : cstp τ (38, a, b) cs = some cs := by
  unfold cstp
  rw [if_neg (show ¬ (38 : Int32) = 33 by decide), if_neg (show ¬ (38 : Int32) = 40 by decide), if_neg (show ¬ (38 : Int32) = 41 by decide), if_neg (show ¬ (38 : Int32) = 107 by decide), if_neg (show ¬ (38 : Int32) = 118 by decide), if_neg (show ¬ (38 : Int32) = 124 by decide)]
end
def qX (τ : TAU) (x s : Int32) : Fin 3 := if wC x = 38 then mn (τ (decide (cC x = 107)) (sC s) (n1C x)) (τ true 62 (n2C x)) else mx (τ (decide (cC x = 107)) (sC s) (n1C x)) (τ true 62 (n2C x))
theorem ev_tk {τ : TAU} {b : List TK} {r : List CL} (x s : Int32) (h : evC τ b = some ((0, 2, false) :: r)) : ∃ z, evC τ (tkX x s b) = some (z :: r) ∧ mx z.1 z.2.1 = qX τ x s := by
  have h1 : evC τ ((cC x, sC s, n1C x) :: b) = some ((0, τ (decide (cC x = 107)) (sC s) (n1C x), false) :: r) := by
    rw [evC_c h]
    rcases cC_or x with e | e
    · rw [e, st107]
      show some ((0, mn 2 _, false) :: r) = _
      rw [mn_2]; rfl
    · rw [e, st118]
      show some ((0, mn 2 _, false) :: r) = _
      rw [mn_2]; rfl
  unfold tkX qX
  rcases wC_or x with e | e
  · have h2 : evC τ ((wC x, 0, 0) :: (cC x, sC s, n1C x) :: b) = some ((0, τ (decide (cC x = 107)) (sC s) (n1C x), false) :: r) := (evC_c h1).trans (by rw [e]; exact st38)
    have h3 := (evC_c (t := (107, 62, n2C x)) h2).trans st107
    rw [if_pos e]
    exact ⟨_, h3, mx_0 _⟩
  · have h2 : evC τ ((wC x, 0, 0) :: (cC x, sC s, n1C x) :: b) = some ((mx 0 (τ (decide (cC x = 107)) (sC s) (n1C x)), 2, false) :: r) := (evC_c h1).trans (by rw [e]; exact st124)
    have h3 := (evC_c (t := (107, 62, n2C x)) h2).trans st107
    rw [if_neg (by rw [e]; decide)]
    refine ⟨_, h3, ?_⟩
    show mx (mx 0 _) (mn 2 _) = _
    rw [mx_0, mn_2]
    rfl
def oX (x s : Int32) : List TK := [(if wC x = 38 then 2 else 3, 0, 0), (5, 62, n2C x), (if cC x = 107 then 5 else 6, sC s, n1C x)]
theorem ev_o (τ : TAU) (x s : Int32) : evR τ (oX x s) = some [qX τ x s] := by
  have h1 : evR τ [(if cC x = 107 then 5 else 6, sC s, n1C x)] = some [τ (decide (cC x = 107)) (sC s) (n1C x)] := by
    refine (evR_c (vs := []) rfl).trans ?_
    rcases cC_or x with e | e
    · rw [e]; rfl
    · rw [e]; rfl
  have h2 : evR τ [(5, 62, n2C x), (if cC x = 107 then 5 else 6, sC s, n1C x)] = some [τ true 62 (n2C x), τ (decide (cC x = 107)) (sC s) (n1C x)] := (evR_c h1).trans rfl
  unfold oX qX
  rcases wC_or x with e | e
  · rw [if_pos e, if_pos e]
    exact (evR_c h2).trans (rst_and τ _ _ _)
  · have e' : ¬ wC x = 38 := by rw [e]; decide
    rw [if_neg e', if_neg e']
    exact (evR_c h2).trans (rst_or τ _ _ _)
def tk1 (x s : Int32) : List TK := tkX x s []
def tk2 (x s : Int32) : List TK := (41, 0, 0) :: tkX x s [(40, 0, 0), (33, 0, 0)]
theorem qv_1 (x s : Int32) : QV (tk1 x s) (oX x s) ∧ ∀ τ, qV τ (tk1 x s) = qX τ x s := by
  have key : ∀ τ, ∃ z, evC τ (tk1 x s) = some [z] ∧ mx z.1 z.2.1 = qX τ x s := fun τ => ev_tk x s rfl
  refine ⟨QV.of (fun τ => ?_), fun τ => ?_⟩
  · obtain ⟨z, h1, h2⟩ := key τ
    exact ⟨z, h1, by rw [h2]; exact ev_o τ x s⟩
  · obtain ⟨z, h1, h2⟩ := key τ
    unfold qV
    rw [h1]
    exact h2
theorem qv_2 (x s : Int32) : QV (tk2 x s) ((1, 0, 0) :: oX x s) ∧ ∀ τ, qV τ (tk2 x s) = ng (qX τ x s) := by
  have key : ∀ τ, ∃ z, evC τ (tk2 x s) = some [z] ∧ mx z.1 z.2.1 = ng (qX τ x s) := fun τ => by
    have h1 : evC τ [(33, 0, 0)] = some [(0, 2, true)] := (evC_c (r := []) rfl).trans st33
    have h2 : evC τ [(40, 0, 0), (33, 0, 0)] = some [(0, 2, false), (0, 2, true)] := (evC_c h1).trans (st40 (by decide))
    obtain ⟨z, h3, h4⟩ := ev_tk x s h2
    have h5 : evC τ (tk2 x s) = cClose [z, (0, 2, true)] := (evC_c h3).trans st41
    refine ⟨(0, mn 2 (ng (mx z.1 z.2.1)), false), h5.trans rfl, ?_⟩
    show mx 0 (mn 2 _) = _
    rw [mx_0, mn_2, h4]
  refine ⟨QV.of (fun τ => ?_), fun τ => ?_⟩
  · obtain ⟨z, h1, h2⟩ := key τ
    refine ⟨z, h1, ?_⟩
    rw [h2]
    exact (evR_c (ev_o τ x s)).trans (rst_not τ _ _)
  · obtain ⟨z, h1, h2⟩ := key τ
    unfold qV
    rw [h1]
    exact h2
/-! abstract truth covers the truth -/
abbrev Cov (a w : Fin 3) : Prop := a = 1 ∨ a = w
theorem cov_mn : ∀ {a w b v : Fin 3}, Cov a w → Cov b v → Cov (mn a b) (mn w v) := by decide
theorem cov_mx : ∀ {a w b v : Fin 3}, Cov a w → Cov b v → Cov (mx a b) (mx w v) := by decide
theorem cov_ng : ∀ {a w : Fin 3}, Cov a w → Cov (ng a) (ng w) := by decide
def Snd (tk : List TK) : Prop := ∀ τ τ' : TAU, (∀ b s m, Cov (τ b s m) (τ' b s m)) → Cov (qV τ tk) (qV τ' tk)
theorem snd_q (x s : Int32) {τ τ' : TAU} (h : ∀ b s m, Cov (τ b s m) (τ' b s m)) : Cov (qX τ x s) (qX τ' x s) := by
  unfold qX
  split
  · exact cov_mn (h _ _ _) (h _ _ _)
  · exact cov_mx (h _ _ _) (h _ _ _)
theorem snd_1 (x s : Int32) : Snd (tk1 x s) := fun τ τ' h => by
  rw [(qv_1 x s).2, (qv_1 x s).2]
  exact snd_q x s h
theorem snd_2 (x s : Int32) : Snd (tk2 x s) := fun τ τ' h => by
  rw [(qv_2 x s).2, (qv_2 x s).2]
  exact cov_ng (snd_q x s h)
theorem cov_tb {x y k : Int32} (hx : x ≤ k) (hy : k ≤ y) (s m : Int32) : Cov (tb x y s m) (tb k k s m) := by
  rw [tb_ps]
  have hx' := Int32.le_iff_toInt_le.mp hx
  have hy' := Int32.le_iff_toInt_le.mp hy
  have fin : ∀ f a e : Bool, (a = true → e = true) → (f = false → a = false → e = false) → Cov (tO f a) (if e = true then 2 else 0) := by
    intro f a e
    cases f <;> cases a <;> cases e <;> simp [tO, Cov]
  have lt : ∀ p q : Int32, p < q ↔ p.toInt < q.toInt := fun p q => Int32.lt_iff_toInt_lt
  have eq : ∀ p q : Int32, p = q ↔ p.toInt = q.toInt := fun p q => Int32.toInt_inj.symm
  unfold tb ps
  by_cases h1 : s = 60
  · rw [if_pos h1, if_pos h1]
    refine fin _ _ _ (fun h => ?_) (fun h h' => ?_)
    · rw [decide_eq_true_eq, lt] at h ⊢; omega
    · rw [decide_eq_false_iff_not, lt] at h h' ⊢; omega
  rw [if_neg h1, if_neg h1]
  by_cases h2 : s = 61
  · rw [if_pos h2, if_neg (show ¬ s = 62 by rw [h2]; decide), if_pos h2]
    refine fin _ _ _ (fun h => ?_) (fun h h' => ?_)
    · unfold aB at h
      rw [Bool.and_eq_true, decide_eq_true_eq, decide_eq_true_eq, eq, eq] at h
      rw [decide_eq_true_eq, eq]; omega
    · unfold oB at h
      rw [Bool.not_eq_false', Bool.or_eq_true, decide_eq_true_eq, decide_eq_true_eq, lt, lt] at h
      rw [decide_eq_false_iff_not, eq]; omega
  rw [if_neg h2]
  by_cases h3 : s = 62
  · rw [if_pos h3, if_pos h3]
    refine fin _ _ _ (fun h => ?_) (fun h h' => ?_)
    · rw [decide_eq_true_eq, lt] at h ⊢; omega
    · rw [decide_eq_false_iff_not, lt] at h h' ⊢; omega
  rw [if_neg h3, if_neg h3, if_neg h2]
  refine fin _ _ _ (fun h => ?_) (fun h h' => ?_)
  · unfold oB at h
    rw [Bool.or_eq_true, decide_eq_true_eq, decide_eq_true_eq, lt, lt] at h
    rw [Bool.not_eq_true', decide_eq_false_iff_not, eq]; omega
  · unfold aB at h
    rw [Bool.not_eq_false', Bool.and_eq_true, decide_eq_true_eq, decide_eq_true_eq, eq, eq] at h
    rw [Bool.not_eq_false', decide_eq_true_eq, eq]; omega
theorem cov_tC {x y k v : Int32} (hx : x ≤ k) (hy : k ≤ y) (b : Bool) (s m : Int32) : Cov (tC x y 0 0 b s m) (tC k k 1 v b s m) := by
  unfold tC
  cases b with
  | true =>
    rw [if_pos rfl, if_pos rfl]
    exact cov_tb hx hy s m
  | false =>
    rw [if_neg Bool.false_ne_true, if_pos rfl]
    exact Or.inl rfl
theorem cov_2 : ∀ {a : Fin 3}, Cov a 2 → ¬ a = 0 := by decide
section
variable {g : MG} {tk o : List TK} {N : Nat → Int32} {n c m : Nat} {u : Nat → Nat} {pr : Int32}
theorem kv_n0 (hS : Snd tk) {i : Nat} (hp : paB tk N i = true) : ¬ kV tk (N (5 + i)) = 0 := by
  unfold paB at hp
  rw [decide_eq_true_eq] at hp
  have := hS (tC (N (5 + i)) (N (5 + i)) 0 0) (tC (N (5 + i)) (N (5 + i)) 1 (N (405 + i))) (fun b s m => cov_tC (Int32.le_refl _) (Int32.le_refl _) b s m)
  rw [hp] at this
  exact cov_2 this
theorem lo_it (hk : OkN N n c) {i : Nat} (hi : i < n) (h : loB tk N c pr i = true) : itB N i = true := by
  obtain ⟨q, h1, h2, -⟩ := lo_t.mp h
  rcases it_pl hk hi with ⟨a, -⟩ | ⟨-, b⟩
  · exact a
  · exact absurd h2 (b q h1)
theorem an_wa (hk : OkN N n c) {i : Nat} (hi : i < n) (h : anB tk N c pr i = true) : waB tk N i = true := by
  unfold anB at h
  unfold waB
  rw [Bool.and_eq_true] at h ⊢
  exact ⟨lo_it hk hi h.1, h.2⟩
theorem wa_an (hk : OkN N n c) (hD : DfO N n c) (hS : Snd tk) (hpr : pr = 0 ∨ pr = 1 ∨ pr = 2) (hz : cn (stB N c) n = 0) {i : Nat} (hi : i < n) (h : waB tk N i = true) : anB tk N c pr i = true := by
  have hc := hk.1.2.2.2
  unfold waB at h
  unfold anB
  rw [Bool.and_eq_true] at h ⊢
  obtain ⟨h1, h2⟩ := h
  refine ⟨lo_t.mpr ?_, h2⟩
  have hkv := kv_n0 hS h2
  obtain ⟨k1, k2⟩ := (hk.2.2.1 i hi).1
  obtain ⟨kk, ek, ek'⟩ := i_nat (x := N (5 + i)) k1
  rcases it_pl hk hi with ⟨-, q, hq, e⟩ | ⟨a, -⟩
  · refine ⟨q, hq, e, ?_⟩
    have hns : ¬ StP N c i := fun w => by
      have h0 : stB N c i = true := st_t w
      have := cn_pos hi h0
      omega
    have hhome : HomR N c (N (5 + i)) (N (805 + i)) := Classical.byContradiction (fun w => hns ⟨?_, ?_, w⟩)
    rw [e] at hhome
    rcases hk.pl hi with e' | e' | e' | ⟨q', hq', e', hal⟩
    · exact absurd (e.symm.trans e') (nI_ne_m (by omega) (by decide))
    · have : q = 60 := (nI_eq (by omega) (by omega)).mp (e.symm.trans e')
      subst this
      obtain ⟨f1, f2⟩ := (hom60 hc).mp hhome
      refine Or.inr ⟨rfl, f2, Or.inr ⟨kk, by omega, fr_t.mpr (fun q hq => f1 q (by rw [ek]; exact hq)), ?_⟩⟩
      rw [← ek]; exact hkv
    · have : q = 61 := (nI_eq (by omega) (by omega)).mp (e.symm.trans e')
      omega
    · have : q = q' := (nI_eq (by omega) (by omega)).mp (e.symm.trans e')
      subst this
      obtain ⟨b1, b2⟩ := (hom_in hk hq' hal).mp hhome
      refine Or.inl ⟨hq', hal, ?_⟩
      rcases hpr with rfl | rfl | rfl
      · exact Or.inl rfl
      · refine Or.inr (Or.inl ⟨rfl, ?_⟩)
        have hb : (N (1325 + q) - 1).toInt = (N (1325 + q)).toInt - 1 := i_pred (by omega)
        have := hS (tC (N (1265 + q)) (N (1325 + q) - 1) 0 0) (tC (N (5 + i)) (N (5 + i)) 1 (N (405 + i))) (fun b s m => cov_tC (Int32.le_iff_toInt_le.mpr b1) (Int32.le_iff_toInt_le.mpr (by omega)) b s m)
        unfold paB at h2
        rw [decide_eq_true_eq] at h2
        rw [h2] at this
        exact cov_2 this
      · refine Or.inr (Or.inr ⟨rfl, kk, by omega, by omega, ?_⟩)
        rw [← ek]; exact hkv
    all_goals
      intro w
      rw [e] at w
      first
        | exact nI_ne_m (by omega) (by decide) w
        | (have : q = 61 := (nI_eq (by omega) (by omega)).mp w
           omega)
  · exact absurd (h1.symm.trans a) (by decide)
theorem pa_flip (x s : Int32) (i : Nat) : paB (tk2 x s) N i = !paB (tk1 x s) N i := by
  have h02 : ∀ b s m, tC (N (5 + i)) (N (5 + i)) 1 (N (405 + i)) b s m = 0 ∨ tC (N (5 + i)) (N (5 + i)) 1 (N (405 + i)) b s m = 2 := fun b s m => by
    unfold tC
    cases b with
    | true => rw [if_pos rfl, tb_ps]; split <;> simp
    | false => rw [if_neg Bool.false_ne_true, if_neg (by decide), tb_ps]; split <;> simp
  have hq : qX (tC (N (5 + i)) (N (5 + i)) 1 (N (405 + i))) x s = 0 ∨ qX (tC (N (5 + i)) (N (5 + i)) 1 (N (405 + i))) x s = 2 := by
    unfold qX
    split
    · rcases h02 (decide (cC x = 107)) (sC s) (n1C x) with e | e <;> rcases h02 true 62 (n2C x) with e' | e' <;> rw [e, e'] <;> decide
    · rcases h02 (decide (cC x = 107)) (sC s) (n1C x) with e | e <;> rcases h02 true 62 (n2C x) with e' | e' <;> rw [e, e'] <;> decide
  unfold paB
  rw [(qv_1 x s).2, (qv_2 x s).2]
  rcases hq with e | e <;> rw [e] <;> decide
end
