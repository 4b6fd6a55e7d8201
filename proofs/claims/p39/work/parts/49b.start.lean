/-- what the tables say of the two kinds of rows -/
theorem ty_known {s : State} {args : Array Value} (h1 : (Cond.arrayClass .int).before args s = true) (h2 : (Cond.arrayOver (.object RX5)).before args s = true) : ∃ cA cT : ClassId, ∀ (k : Nat) (q : ClassId × FieldType), (TY cA cT)[k]? = some q → ArrOfT s q.1 q.2 ∧ va_RA s q.1 q.2 := by
  obtain ⟨cA, kA, comp, f1, f2, f3⟩ := Cond.arrayClass_spec h1
  obtain ⟨comp2, cT, kT, e1, e2, e3, e4, e5⟩ := Cond.arrayOver_spec h2
  refine ⟨cA, cT, fun k q hq => ?_⟩
  match k, hq with
  | 0, hq => cases hq; exact ⟨fun n z => ⟨fun k h => (by cases h), kA, f2, comp, f3⟩, f1⟩
  | 1, hq => cases hq; exact ⟨fun n z => ⟨fun k h => (by cases h), kT, e3, comp2, e4⟩, kT, comp2, e3, e4, e1, e5⟩
  | k + 2, hq => simp at hq
set_option maxHeartbeats 8000000 in
set_option maxRecDepth 100000 in
theorem start_of {p : Program} {e : Env} {s : State} {m : MethodId} {below : List Frame} {meth : Method} {c : Code} (l : Launch) {b L : Nat} {xs : Nat → Int32} (hlaw : m_L_law g_c0 L xs = some 1) (C0 : lw_At p s m meth c b L xs) : W p l e room_1 s m #[Value.ref b] below meth c s.heap [] 0 0 (lw_Z below #[Value.ref b] s) (entryFrame m ([Value.ref b] : List Value).toArray 10) := by
  obtain ⟨hx, hb, hr, hml, hown, hts0, hX, hbl, hlocks, hgv⟩ := id C0
  have hts : ∀ w ∈ lw_all, w.before #[Value.ref b] s = true := fun w h => hts0 w (lw_all_tbl h)
  have hA : ∀ q : Nat, s.heap.size ≤ q → (fun q : Nat => s.heap.size ≤ q) q := fun _ h => h
  obtain ⟨c0, i0, hKn0⟩ := u_known (C := RX0) (T := TX0) (N := 1) (n := 1) hts inX0 (hts _ q63)
  obtain ⟨c1, i1, hKn1⟩ := u_known (C := RX1) (T := TX1) (N := 4) (n := 4) hts inX1 (hts _ q116)
  obtain ⟨c2, i2, hKn2⟩ := u_known (C := RX2) (T := TX2) (N := 14) (n := 14) hts inX2 (hts _ q131)
  obtain ⟨c3, i3, hKn3⟩ := u_known (C := RX3) (T := TX3) (N := 4) (n := 4) hts inX3 (hts _ q58)
  obtain ⟨c4, i4, hKn4⟩ := u_known (C := RX4) (T := TX4) (N := 5) (n := 5) hts inX4 (hts _ q82)
  obtain ⟨c5, i5, hKn5⟩ := u_known (C := RX5) (T := TX5) (N := 5) (n := 5) hts inX5 (hts _ q53)
  obtain ⟨c6, i6, hKn6⟩ := u_known (C := RX6) (T := TX6) (N := 5) (n := 5) hts inX6 (hts _ q45)
  obtain ⟨dC, dI, hKc⟩ : ∃ (dC : Nat → ClassId) (dI : Nat → Nat → Nat), ∀ (k : Nat) (q : vw_C), vwCl[k]? = some q → u_Kn s q.1 q.2.1 q.2.2 (dC k) (dI k) := by
    refine ⟨fun k => if k = 0 then c0 else if k = 1 then c1 else if k = 2 then c2 else if k = 3 then c3 else if k = 4 then c4 else if k = 5 then c5 else c6, fun k => if k = 0 then i0 else if k = 1 then i1 else if k = 2 then i2 else if k = 3 then i3 else if k = 4 then i4 else if k = 5 then i5 else i6, ?_⟩
    intro k q hq
    match k, hq with
    | 0, hq => cases hq; exact hKn0
    | 1, hq => cases hq; exact hKn1
    | 2, hq => cases hq; exact hKn2
    | 3, hq => cases hq; exact hKn3
    | 4, hq => cases hq; exact hKn4
    | 5, hq => cases hq; exact hKn5
    | 6, hq => cases hq; exact hKn6
    | k + 7, hq => simp [vwCl] at hq
  obtain ⟨cA, cT, hTY⟩ := ty_known (hts _ q70) (hts0 (Cond.arrayOver (.object RX5)) (List.mem_of_getElem? (i := 144) (by decide +kernel)))
  have hK : va_K (dC, dI) vwCl (TY cA cT) s := ⟨hKc, hTY⟩
  have hKK : KK (dC, dI) cA cT s := ⟨hK, va_AO.of (hts0 (Cond.arrayOver (.object RX5)) (List.mem_of_getElem? (i := 144) (by decide +kernel))), va_Nw.of rfl (hts0 (Cond.methodLinkNest RX6 9 yX5_init RX6) (List.mem_of_getElem? (i := 54) (by decide +kernel))), va_Nw.of rfl (hts0 (Cond.methodLinkNest RX5 11 yX3_init RX6) (List.mem_of_getElem? (i := 60) (by decide +kernel))), va_Nw.of rfl (hts0 (Cond.methodLinkNest RX5 20 yX4_init RX6) (List.mem_of_getElem? (i := 92) (by decide +kernel))), va_Nw.of rfl (hts0 (Cond.methodLinkNest RX1 17 yX5_init RX6) (List.mem_of_getElem? (i := 145) (by decide +kernel))), va_Nw.of rfl (hts0 (Cond.methodLinkNest RX6 25 yX2_init RX6) (List.mem_of_getElem? (i := 161) (by decide +kernel)))⟩
  have hS : va_S (fun q : Nat => s.heap.size ≤ q) s.heap s.heap [] := va_S.rf
  have hP : va_P (dC, dI) vwCl [] s.heap := fun k q h => by simp at h
  have hD : va_D (fun q : Nat => s.heap.size ≤ q) [] := ⟨fun i j p q h => by simp at h, fun k q h => by simp at h⟩
  have hl := lv_entry ([.ref b]) (n := 10) (Nat.le_of_ble_eq_true rfl)
  rw [lg_entry_eq]
  generalize (lg_sl ([.ref b]) ++ List.replicate (10 - (lg_sl ([.ref b])).length) Slot.unset).toArray = ls at hl ⊢
  have hl : lv_has ls 10 [(0, .ref b)] := hl
  refine va_new (ci := 6) (fs := [.null, .null, .null, .null, .null]) (C := RX6) (T := TX6) (N := 5) hx hb hts inX6 tyX6 tyX6_ok hown (hts _ q44) (hts _ q45) (hts _ q35) hK hP hD hS hA rfl (fun j hj => by rcases (show j = 0 ∨ j = 1 ∨ j = 2 ∨ j = 3 ∨ j = 4 by omega) with rfl | rfl | rfl | rfl | rfl <;> rfl) (Nat.le_of_ble_eq_true rfl) (Nat.le_of_ble_eq_true rfl) dL_law_0 (fun q1 H hP hD hS => ?_)
  refine lv_dup hx hb dL_law_3 rfl ?_
  refine x_INp (pre := []) (As := []) hx hb hml hown hts hKK hP hD hS hA (cn_X6 l (dC, dI) cA cT q1) q46 q47 q35 qi48 rfl yd_X6_init ⟨Nat.le_of_ble_eq_true rfl, Nat.le_of_ble_eq_true rfl⟩ [.ref q1] rfl (Nat.le_of_ble_eq_true rfl) hl.1 ⟨Nat.le_of_ble_eq_true rfl, Nat.le_of_ble_eq_true rfl⟩ dL_law_4 (fun α1 H locs hP hD hS => ?_)
  refine lv_astore_n (lv' := [(1, .ref q1), (0, .ref b)]) hx hb dL_law_7 rfl hl (by decide) rfl (fun ls hl => ?_)
  have hP : va_P (dC, dI) vwCl (rs_X6 cA cT q1 α1) H := hP
  have hD : va_D (fun q : Nat => s.heap.size ≤ q) (rs_X6 cA cT q1 α1) := hD
  have hP1 : WP (dC, dI) (ad_ q1 α1) cA cT TC g_c0 H := hP
  have hD1 : va_D (fun q : Nat => s.heap.size ≤ q) (wl (ad_ q1 α1) cA cT g_c0 0 TC) := hD
  refine W.widen (k := 110) (n := 7893) (Nat.le_of_ble_eq_true rfl) (Nat.le_of_ble_eq_true rfl) ?_
  refine W.base ?_
  exact law_walk l C0 hK (wi_of hD1) (aa_of hD1) g_c0 hlaw H locs ls s.drawn (Drawn.sameBut.refl s.drawn lw_cs) hP1 hS hl
