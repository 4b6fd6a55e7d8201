theorem va_P_l {D : va_G} {w1 w2 : va_W} {H : Heap} (h : va_P D vwCl (w1 ++ w2) H) : va_P D vwCl w1 H := fun k z hz => h k z (by
  rw [List.getElem?_append_left (List.getElem?_eq_some_iff.mp hz).1]; exact hz)
theorem va_P_r {D : va_G} {w1 w2 : va_W} {H : Heap} (h : va_P D vwCl (w1 ++ w2) H) : va_P D vwCl w2 H := fun k z hz => h (w1.length + k) z (by
  rw [List.getElem?_append_right (Nat.le_add_right _ _), Nat.add_sub_cancel_left]; exact hz)
theorem va_D_l {A : Nat → Prop} {w1 w2 : va_W} (h : va_D A (w1 ++ w2)) : va_D A w1 := by
  have key : ∀ (k : Nat) (z : Nat × va_E), w1[k]? = some z → (w1 ++ w2)[k]? = some z := fun k z hz => by
    rw [List.getElem?_append_left (List.getElem?_eq_some_iff.mp hz).1]; exact hz
  exact ⟨fun i j u v hu hv e => h.1 i j u v (key i u hu) (key j v hv) e, fun k z hz => h.2 k z (key k z hz)⟩
theorem va_D_r {A : Nat → Prop} {w1 w2 : va_W} (h : va_D A (w1 ++ w2)) : va_D A w2 := by
  have key : ∀ (k : Nat) (z : Nat × va_E), w2[k]? = some z → (w1 ++ w2)[w1.length + k]? = some z := fun k z hz => by
    rw [List.getElem?_append_right (Nat.le_add_right _ _), Nat.add_sub_cancel_left]; exact hz
  refine ⟨fun i j u v hu hv e => ?_, fun k z hz => h.2 _ z (key k z hz)⟩
  have := h.1 _ _ u v (key i u hu) (key j v hv) e
  omega
theorem va_D_x {A : Nat → Prop} {w1 w2 : va_W} (h : va_D A (w1 ++ w2)) {i j : Nat} {u v : Nat × va_E} (hu : w1[i]? = some u) (hv : w2[j]? = some v) : u.1 ≠ v.1 := fun e => by
  have hl := (List.getElem?_eq_some_iff.mp hu).1
  have h1 : (w1 ++ w2)[i]? = some u := by rw [List.getElem?_append_left hl]; exact hu
  have h2 : (w1 ++ w2)[w1.length + j]? = some v := by rw [List.getElem?_append_right (Nat.le_add_right _ _), Nat.add_sub_cancel_left]; exact hv
  have := h.1 _ _ u v h1 h2 e
  omega
theorem wi_of {A : Nat → Prop} {a : Nat → Nat} {cA cT : ClassId} {T : List LE} {g : MG} (h : va_D A (wl a cA cT g 0 T)) : WI a T := fun i j hi hj e => h.1 i j _ _ (wl_get0 (List.getElem?_eq_getElem hi)) (wl_get0 (List.getElem?_eq_getElem hj)) e
theorem aa_of {A : Nat → Prop} {a : Nat → Nat} {cA cT : ClassId} {T : List LE} {g : MG} (h : va_D A (wl a cA cT g 0 T)) : ∀ q, AA a T q → A q := fun q hq => by
  obtain ⟨k, hk, rfl⟩ := hq
  exact h.2 k _ (wl_get0 (List.getElem?_eq_getElem hk))
/-- what the tables say of the two kinds of rows -/
theorem ty_known {s : State} {args : Array Value} (h1 : (Cond.arrayClass .int).before args s = true) (h2 : (Cond.arrayOver (.object RX5)).before args s = true) : ∃ cA cT : ClassId, ∀ (k : Nat) (q : ClassId × FieldType), (TY cA cT)[k]? = some q → ArrOfT s q.1 q.2 ∧ va_RA s q.1 q.2 := by
  obtain ⟨cA, kA, comp, f1, f2, f3⟩ := Cond.arrayClass_spec h1
  obtain ⟨comp2, cT, kT, e1, e2, e3, e4, e5⟩ := Cond.arrayOver_spec h2
  refine ⟨cA, cT, fun k q hq => ?_⟩
  match k, hq with
  | 0, hq => cases hq; exact ⟨fun n z => ⟨fun k h => (by cases h), kA, f2, comp, f3⟩, f1⟩
  | 1, hq => cases hq; exact ⟨fun n z => ⟨fun k h => (by cases h), kT, e3, comp2, e4⟩, kT, comp2, e3, e4, e1, e5⟩
  | k + 2, hq => simp at hq
set_option maxHeartbeats 8000000 in
set_option maxRecDepth 100000 in
theorem start_of {Rel : MG → MG → Prop} (hsims : Sims Rel) (hR0 : Rel g_c0 g_m0) (hdn : ∀ q : UInt64, isNaN64 q = true → isNaN64 (FP.dsub FP.dconst1 q) = true) (hdc1 : ∀ q : UInt64, isNaN64 q = true → FP.dcmp q q = none) (hdc2 : ∀ q q' : UInt64, isNaN64 q = true → isNaN64 q' = true → FP.dcmp q q' = none) (hdc3 : ∀ q : UInt64, isNaN64 q = false → FP.dcmp q q = some .eq) {p : Program} {e : Env} {s : State} {m : MethodId} {below : List Frame} {meth : Method} {c : Code} (l : Launch) {b L : Nat} {xs : Nat → Int32} (hL : L ≤ 1536) (C0 : lw_At p s m meth c b L xs) : W p l e room_1 s m #[Value.ref b] below meth c s.heap [] 0 0 (lw_Z below #[Value.ref b] s) (entryFrame m ([Value.ref b] : List Value).toArray 8) := by
  obtain ⟨hx, hb, hr, hml, hown, hts0, hX, hbl, hlocks, hgv⟩ := id C0
  have hts : ∀ w ∈ lw_all, w.before #[Value.ref b] s = true := fun w h => hts0 w (lw_all_tbl h)
  have hA : ∀ q : Nat, s.heap.size ≤ q → (fun q : Nat => s.heap.size ≤ q) q := fun _ h => h
  obtain ⟨c0, i0, hKn0⟩ := u_known (C := RX0) (T := TX0) (N := 1) (n := 1) hts inX0 (hts _ q99)
  obtain ⟨c1, i1, hKn1⟩ := u_known (C := RX1) (T := TX1) (N := 4) (n := 4) hts inX1 (hts _ q152)
  obtain ⟨c2, i2, hKn2⟩ := u_known (C := RX2) (T := TX2) (N := 14) (n := 14) hts inX2 (hts _ q170)
  obtain ⟨c3, i3, hKn3⟩ := u_known (C := RX3) (T := TX3) (N := 4) (n := 4) hts inX3 (hts _ q94)
  obtain ⟨c4, i4, hKn4⟩ := u_known (C := RX4) (T := TX4) (N := 5) (n := 5) hts inX4 (hts _ q118)
  obtain ⟨c5, i5, hKn5⟩ := u_known (C := RX5) (T := TX5) (N := 5) (n := 5) hts inX5 (hts _ q89)
  obtain ⟨c6, i6, hKn6⟩ := u_known (C := RX6) (T := TX6) (N := 5) (n := 5) hts inX6 (hts _ q81)
  obtain ⟨c7, i7, hKn7⟩ := u_known (C := RX7) (T := TX7) (N := 18) (n := 18) hts inX7 (hts _ q753)
  obtain ⟨dC, dI, hKc⟩ : ∃ (dC : Nat → ClassId) (dI : Nat → Nat → Nat), ∀ (k : Nat) (q : vw_C), vwCl[k]? = some q → u_Kn s q.1 q.2.1 q.2.2 (dC k) (dI k) := by
    refine ⟨fun k => if k = 0 then c0 else if k = 1 then c1 else if k = 2 then c2 else if k = 3 then c3 else if k = 4 then c4 else if k = 5 then c5 else if k = 6 then c6 else c7, fun k => if k = 0 then i0 else if k = 1 then i1 else if k = 2 then i2 else if k = 3 then i3 else if k = 4 then i4 else if k = 5 then i5 else if k = 6 then i6 else i7, ?_⟩
    intro k q hq
    match k, hq with
    | 0, hq => cases hq; exact hKn0
    | 1, hq => cases hq; exact hKn1
    | 2, hq => cases hq; exact hKn2
    | 3, hq => cases hq; exact hKn3
    | 4, hq => cases hq; exact hKn4
    | 5, hq => cases hq; exact hKn5
    | 6, hq => cases hq; exact hKn6
    | 7, hq => cases hq; exact hKn7
    | k + 8, hq => simp [vwCl] at hq
  obtain ⟨cA, cT, hTY⟩ := ty_known (hts _ q106) (hts0 (Cond.arrayOver (.object RX5)) (List.mem_of_getElem? (i := 180) (by decide +kernel)))
  have hK : va_K (dC, dI) vwCl (TY cA cT) s := ⟨hKc, hTY⟩
  have hKK : KK (dC, dI) cA cT s := ⟨hK, va_AO.of (hts0 (Cond.arrayOver (.object RX5)) (List.mem_of_getElem? (i := 180) (by decide +kernel))), va_Nw.of rfl (hts0 (Cond.methodLinkNest RX6 9 yX5_init RX6) (List.mem_of_getElem? (i := 90) (by decide +kernel))), va_Nw.of rfl (hts0 (Cond.methodLinkNest RX5 11 yX3_init RX6) (List.mem_of_getElem? (i := 96) (by decide +kernel))), va_Nw.of rfl (hts0 (Cond.methodLinkNest RX5 20 yX4_init RX6) (List.mem_of_getElem? (i := 128) (by decide +kernel))), va_Nw.of rfl (hts0 (Cond.methodLinkNest RX1 17 yX5_init RX6) (List.mem_of_getElem? (i := 181) (by decide +kernel))), va_Nw.of rfl (hts0 (Cond.methodLinkNest RX6 25 yX2_init RX6) (List.mem_of_getElem? (i := 200) (by decide +kernel)))⟩
  have hS : va_S (fun q : Nat => s.heap.size ≤ q) s.heap s.heap [] := va_S.rf
  have hP : va_P (dC, dI) vwCl [] s.heap := fun k q h => by simp at h
  have hD : va_D (fun q : Nat => s.heap.size ≤ q) [] := ⟨fun i j p q h => by simp at h, fun k q h => by simp at h⟩
  have hl := lv_entry ([.ref b]) (n := 8) (Nat.le_of_ble_eq_true rfl)
  rw [lg_entry_eq]
  generalize (lg_sl ([.ref b]) ++ List.replicate (8 - (lg_sl ([.ref b])).length) Slot.unset).toArray = ls at hl ⊢
  have hl : lv_has ls 8 [(0, .ref b)] := hl
  refine va_new (ci := 6) (fs := [.null, .null, .null, .null, .null]) (C := RX6) (T := TX6) (N := 5) hx hb hts inX6 tyX6 tyX6_ok hown (hts _ q80) (hts _ q81) (hts _ q70) hK hP hD hS hA rfl (fun j hj => by rcases (show j = 0 ∨ j = 1 ∨ j = 2 ∨ j = 3 ∨ j = 4 by omega) with rfl | rfl | rfl | rfl | rfl <;> rfl) (Nat.le_of_ble_eq_true rfl) (Nat.le_of_ble_eq_true rfl) dL_law_0 (fun q1 H hP hD hS => ?_)
  refine lv_dup hx hb dL_law_3 rfl ?_
  refine x_INp (pre := []) (As := []) hx hb hml hown hts hKK hP hD hS hA (cn_X6 l (dC, dI) cA cT q1) q82 q83 q70 qi84 rfl yd_X6_init ⟨Nat.le_of_ble_eq_true rfl, Nat.le_of_ble_eq_true rfl⟩ [.ref q1] rfl (Nat.le_of_ble_eq_true rfl) hl.1 ⟨Nat.le_of_ble_eq_true rfl, Nat.le_of_ble_eq_true rfl⟩ dL_law_4 (fun α1 H locs hP hD hS => ?_)
  refine lv_astore_n (lv' := [(1, .ref q1), (0, .ref b)]) hx hb dL_law_7 rfl hl (by decide) rfl (fun ls hl => ?_)
  have hP : va_P (dC, dI) vwCl (rs_X6 cA cT q1 α1) H := hP
  have hD : va_D (fun q : Nat => s.heap.size ≤ q) (rs_X6 cA cT q1 α1) := hD
  refine va_new (ci := 7) (fs := [.null, .null, .null, .null, .null, .null, .null, .null, .int 0, .int 0, .int 0, .null, .null, .int 0, .null, .int 0, .int 0, .int 0]) (C := RX7) (T := TX7) (N := 18) hx hb hts inX7 tyX7 tyX7_ok hown (hts _ q752) (hts _ q753) (hts _ q77) hK hP hD hS hA rfl (fun j hj => by rcases (show j = 0 ∨ j = 1 ∨ j = 2 ∨ j = 3 ∨ j = 4 ∨ j = 5 ∨ j = 6 ∨ j = 7 ∨ j = 8 ∨ j = 9 ∨ j = 10 ∨ j = 11 ∨ j = 12 ∨ j = 13 ∨ j = 14 ∨ j = 15 ∨ j = 16 ∨ j = 17 by omega) with rfl | rfl | rfl | rfl | rfl | rfl | rfl | rfl | rfl | rfl | rfl | rfl | rfl | rfl | rfl | rfl | rfl | rfl <;> rfl) (Nat.le_of_ble_eq_true rfl) (Nat.le_of_ble_eq_true rfl) dL_law_8 (fun q2 H hP hD hS => ?_)
  refine lv_dup hx hb dL_law_11 rfl ?_
  refine x_INp (pre := rs_X6 cA cT q1 α1) (As := []) hx hb hml hown hts hKK hP hD hS hA (cn_X7 l (dC, dI) cA cT q2) q754 q755 q77 qi756 rfl yd_X7_init ⟨Nat.le_of_ble_eq_true rfl, Nat.le_of_ble_eq_true rfl⟩ [.ref q2] rfl (Nat.le_of_ble_eq_true rfl) hl.1 ⟨Nat.le_of_ble_eq_true rfl, Nat.le_of_ble_eq_true rfl⟩ dL_law_12 (fun α2 H locs hP hD hS => ?_)
  refine lv_astore_n (lv' := [(2, .ref q2), (1, .ref q1), (0, .ref b)]) hx hb dL_law_15 rfl hl (by decide) rfl (fun ls hl => ?_)
  refine lv_iconst (v := (0 : Int32)) hx hb dL_law_16 (by decide) ?_
  refine lv_istore_n (lv' := [(3, .int 0), (2, .ref q2), (1, .ref q1), (0, .ref b)]) hx hb dL_law_17 rfl hl (by decide) rfl (fun ls hl => ?_)
  have hP1 : WP (dC, dI) (ad_ q1 α1) cA cT TC g_c0 H := va_P_l hP
  have hP2 : WP (dC, dI) (ad_ q2 α2) cA cT TM g_m0 H := va_P_r hP
  have hD1 : va_D (fun q : Nat => s.heap.size ≤ q) (wl (ad_ q1 α1) cA cT g_c0 0 TC) := va_D_l hD
  have hD2 : va_D (fun q : Nat => s.heap.size ≤ q) (wl (ad_ q2 α2) cA cT g_m0 0 TM) := va_D_r hD
  have hap : ∀ q, AA (ad_ q1 α1) TC q → ¬ AA (ad_ q2 α2) TM q := fun q h1 h2 => by
    obtain ⟨k, hk, rfl⟩ := h1
    obtain ⟨j, hj, hjk⟩ := h2
    exact va_D_x hD (wl_get0 (List.getElem?_eq_getElem hk)) (wl_get0 (List.getElem?_eq_getElem hj)) hjk.symm
  have hC : LW p s m meth c b L xs (dC, dI) (ad_ q1 α1) (ad_ q2 α2) cA cT := ⟨C0, hK, wi_of hD1, wi_of hD2, hap, aa_of hD1, aa_of hD2, hL⟩
  refine W.widen (k := 600000) (n := 7302250) (Nat.le_of_ble_eq_true rfl) (Nat.le_of_ble_eq_true rfl) ?_
  refine W.base ?_
  exact law_loop hC hdn hdc1 hdc2 hdc3 hsims (L + 1) 0 (Nat.zero_le L) (by omega) g_c0 g_m0 hR0 H locs ls s.drawn (Drawn.sameBut.refl s.drawn lw_cs) hP1 hP2 hS (lv_sub hl [3, 2, 1, 0] rfl)
