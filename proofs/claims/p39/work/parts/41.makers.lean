theorem qi48 : (Cond.code yX6_init cX6_init 1 none) ∈ lw_all := List.mem_of_getElem? (i := 48) (by decide +kernel)
theorem qi51 : (Cond.code objectInit ⟨#[0xb1]⟩ 1 none) ∈ lw_all := List.mem_of_getElem? (i := 51) (by decide +kernel)
theorem qi55 : (Cond.code yX5_init cX5_init 1 none) ∈ lw_all := List.mem_of_getElem? (i := 55) (by decide +kernel)
theorem qi60 : (Cond.code yX3_init cX3_init 1 none) ∈ lw_all := List.mem_of_getElem? (i := 60) (by decide +kernel)
theorem qi66 : (Cond.code yX0_init cX0_init 2 none) ∈ lw_all := List.mem_of_getElem? (i := 66) (by decide +kernel)
theorem qi84 : (Cond.code yX4_init cX4_init 1 none) ∈ lw_all := List.mem_of_getElem? (i := 84) (by decide +kernel)
theorem qi119 : (Cond.code yX1_init cX1_init 2 none) ∈ lw_all := List.mem_of_getElem? (i := 119) (by decide +kernel)
theorem qi133 : (Cond.code yX2_init cX2_init 1 none) ∈ lw_all := List.mem_of_getElem? (i := 133) (by decide +kernel)
def rs_X0 (cA : ClassId) (q N : Nat) (α : Nat → Nat) : va_W := [(q, .inr (0, [.ref (α 0)])), (α 0, .inl (cA, N, .inl (fun _ => 0)))]
def rs_X3 (cA : ClassId) (q : Nat) (α : Nat → Nat) : va_W := [(q, .inr (3, [.ref (α 0), .ref (α 2), .ref (α 4), .int 0])), (α 0, .inr (0, [.ref (α 1)])), (α 1, .inl (cA, 400, .inl (fun _ => 0))), (α 2, .inr (0, [.ref (α 3)])), (α 3, .inl (cA, 400, .inl (fun _ => 0))), (α 4, .inr (0, [.ref (α 5)])), (α 5, .inl (cA, 400, .inl (fun _ => 0)))]
def rs_X4 (cA : ClassId) (q : Nat) (α : Nat → Nat) : va_W := [(q, .inr (4, [.ref (α 0), .ref (α 2), .ref (α 4), .int 0, .int 0])), (α 0, .inr (0, [.ref (α 1)])), (α 1, .inl (cA, 12, .inl (fun _ => 0))), (α 2, .inr (0, [.ref (α 3)])), (α 3, .inl (cA, 12, .inl (fun _ => 0))), (α 4, .inr (0, [.ref (α 5)])), (α 5, .inl (cA, 12, .inl (fun _ => 0)))]
def rs_X5 (cA : ClassId) (q : Nat) (α : Nat → Nat) : va_W := (q, .inr (5, [.ref (α 0), .ref (α 7), .int 1, .int 0, .int 0])) :: (rs_X3 cA (α 0) (fun k => α (k + 1)) ++ rs_X4 cA (α 7) (fun k => α (k + 8)))
def rs_X2 (cA : ClassId) (q : Nat) (α : Nat → Nat) : va_W := [(q, .inr (2, [.int 0, .int (-1005), .int 0, .int 0, .int 0, .int 0, .int 0, .int 0, .ref (α 0), .ref (α 2), .ref (α 4), .ref (α 6), .ref (α 8), .ref (α 10)])), (α 0, .inr (0, [.ref (α 1)])), (α 1, .inl (cA, 60, .inl (fun _ => 0))), (α 2, .inr (0, [.ref (α 3)])), (α 3, .inl (cA, 60, .inl (fun _ => 0))), (α 4, .inr (0, [.ref (α 5)])), (α 5, .inl (cA, 60, .inl (fun _ => 0))), (α 6, .inr (0, [.ref (α 7)])), (α 7, .inl (cA, 6, .inl (fun _ => 0))), (α 8, .inr (0, [.ref (α 9)])), (α 9, .inl (cA, 6, .inl (fun _ => 0))), (α 10, .inr (0, [.ref (α 11)])), (α 11, .inl (cA, 6, .inl (fun _ => 0)))]
def rs_X1 (cA cT : ClassId) (q : Nat) (α : Nat → Nat) : va_W := (q, .inr (1, [.ref (α 0), .ref (α 1), .int 0, .int 0])) :: (α 0, .inl (cT, 4, .inr (.inr (.inr (.inr (va_up (va_up (va_up (va_up (fun _ => none) 0 (some (α 16))) 1 (some (α 31))) 2 (some (α 46))) 3 (some (α 61)))))))) :: (rs_X5 cA (α 1) (fun k => α (k + 2)) ++ (rs_X5 cA (α 16) (fun k => α (k + 17)) ++ (rs_X5 cA (α 31) (fun k => α (k + 32)) ++ (rs_X5 cA (α 46) (fun k => α (k + 47)) ++ rs_X5 cA (α 61) (fun k => α (k + 62))))))
def g_c0 : MG := (fun k => if k = 3 then (fun j => if j = 1 then -1005 else 0) else if k = 20 ∨ k = 35 ∨ k = 50 ∨ k = 65 ∨ k = 80 ∨ k = 95 then (fun j => if j = 2 then 1 else 0) else (fun _ => 0), fun j => j + 1)
def ad_ (q : Nat) (α : Nat → Nat) : Nat → Nat := fun k => if k = 0 then q else α k
def rs_X6 (cA cT : ClassId) (q : Nat) (α : Nat → Nat) : va_W := wl (ad_ q α) cA cT g_c0 0 TC
/-- a row of references is known by its first places -/
theorem va_P_row {D : va_G} {ws : va_W} {H : Heap} {k a n : Nat} {cT : ClassId} {f f' : Nat → Option Nat} (h : va_P D vwCl ws H) (hk : ws[k]? = some (a, .inl (cT, n, .inr (.inr (.inr (.inr f)))))) (hf : ∀ j, j < n → f j = f' j) : va_P D vwCl (ws.set k (a, .inl (cT, n, .inr (.inr (.inr (.inr f')))))) H := by
  intro i q hq
  by_cases hi : i = k
  · subst hi
    have hl := (List.getElem?_eq_some_iff.mp hk).1
    rw [List.getElem?_set_self hl] at hq
    cases hq
    have h1 := h i _ hk
    show H[a]? = some (vp_cell cT (n, .inr (.inr (.inr (.inr f')))))
    rw [show H[a]? = some (vp_cell cT (n, .inr (.inr (.inr (.inr f))))) from h1]
    simp only [vp_cell, arrV]
    congr 3
    funext j
    rw [hf j.1 j.2]
  · rw [List.getElem?_set_ne (fun h => hi h.symm)] at hq
    exact h i q hq
theorem va_D_row {A : Nat → Prop} {ws : va_W} {k a : Nat} {e e' : va_E} (h : va_D A ws) (hk : ws[k]? = some (a, e)) : va_D A (ws.set k (a, e')) := by
  have key : ∀ (i : Nat) (q : Nat × va_E), (ws.set k (a, e'))[i]? = some q → ∃ q', ws[i]? = some q' ∧ q'.1 = q.1 := by
    intro i q hq
    by_cases hi : i = k
    · subst hi
      have hl := (List.getElem?_eq_some_iff.mp hk).1
      rw [List.getElem?_set_self hl] at hq
      cases hq
      exact ⟨_, hk, rfl⟩
    · rw [List.getElem?_set_ne (fun h => hi h.symm)] at hq
      exact ⟨q, hq, rfl⟩
  refine ⟨fun i j p q hp hq hpq => ?_, fun i q hq => ?_⟩
  · obtain ⟨p', h1, h2⟩ := key i p hp
    obtain ⟨q', h3, h4⟩ := key j q hq
    exact h.1 i j p' q' h1 h3 (by rw [h2, h4, hpq])
  · obtain ⟨q', h1, h2⟩ := key i q hq
    rw [← h2]
    exact h.2 i q' h1
theorem yd_X0_init : yX0_init.cls ≠ "java/lang/invoke/MethodHandle" ∧ yX0_init.cls ≠ "java/lang/invoke/VarHandle" ∧ (parseMethodDescriptor yX0_init.desc).map (fun d => d.parameters.length) = some 1 := by decide +kernel
theorem yd_X3_init : yX3_init.cls ≠ "java/lang/invoke/MethodHandle" ∧ yX3_init.cls ≠ "java/lang/invoke/VarHandle" ∧ (parseMethodDescriptor yX3_init.desc).map (fun d => d.parameters.length) = some 0 := by decide +kernel
theorem yd_X4_init : yX4_init.cls ≠ "java/lang/invoke/MethodHandle" ∧ yX4_init.cls ≠ "java/lang/invoke/VarHandle" ∧ (parseMethodDescriptor yX4_init.desc).map (fun d => d.parameters.length) = some 0 := by decide +kernel
theorem yd_X5_init : yX5_init.cls ≠ "java/lang/invoke/MethodHandle" ∧ yX5_init.cls ≠ "java/lang/invoke/VarHandle" ∧ (parseMethodDescriptor yX5_init.desc).map (fun d => d.parameters.length) = some 0 := by decide +kernel
theorem yd_X1_init : yX1_init.cls ≠ "java/lang/invoke/MethodHandle" ∧ yX1_init.cls ≠ "java/lang/invoke/VarHandle" ∧ (parseMethodDescriptor yX1_init.desc).map (fun d => d.parameters.length) = some 0 := by decide +kernel
theorem yd_X2_init : yX2_init.cls ≠ "java/lang/invoke/MethodHandle" ∧ yX2_init.cls ≠ "java/lang/invoke/VarHandle" ∧ (parseMethodDescriptor yX2_init.desc).map (fun d => d.parameters.length) = some 0 := by decide +kernel
theorem yd_X6_init : yX6_init.cls ≠ "java/lang/invoke/MethodHandle" ∧ yX6_init.cls ≠ "java/lang/invoke/VarHandle" ∧ (parseMethodDescriptor yX6_init.desc).map (fun d => d.parameters.length) = some 0 := by decide +kernel
set_option maxHeartbeats 8000000 in
set_option maxRecDepth 100000 in
theorem cn_X0 (l : Launch) (D : va_G) (cA cT : ClassId) (q : Nat) (N : Nat) (x : Int32) (hx0 : ¬ x < 0) (hxN : x.toNatClampNeg = N) (hNb : N * 4 ≤ 536870912) : CtN l D cA cT yX0_init (Cond.code yX0_init cX0_init 2 none :: lw_all) 1 20 1 N q [.int x] (.inr (0, [.null])) (rs_X0 cA q N) := by
  refine CtN.of (by decide +kernel) (Nat.le_of_ble_eq_true rfl) rfl ?_
  intro p e s m args below meth c Q ls hx hb hml hown hts hKK hin hP hD hS hA hl hend
  have hl : lv_has ls 2 [(0, .ref q), (1, .int x)] := hl
  refine lv_aload_n hx hb dX0_init_0 rfl (lv_at hl 0 rfl) ?_
  refine W.objInit hx hb hown (hts _ q67) (hts _ q50) (hts _ qi51) rfl (hl.1.trans hml.symm) rfl dX0_init_1 (Nat.le_of_ble_eq_true rfl) (Nat.le_of_ble_eq_true rfl) ?_
  refine W.eq (g2 := F0 m 4 ls []) rfl ?_
  refine lv_aload_n hx hb dX0_init_4 rfl (lv_at hl 0 rfl) ?_
  refine lv_iload_n hx hb dX0_init_5 rfl (lv_at hl 1 rfl) ?_
  refine lv_if_ge (tgt := 13) hx hb dX0_init_6 (by decide) (fun hc => ?_) (fun hc => absurd (Int32.not_lt.mp hx0) hc)
  refine lv_iload_n hx hb dX0_init_13 rfl (lv_at hl 1 rfl) ?_
  refine x_newa (N' := N) hx hb hts q70 hKK hP hD hS hA hx0 hxN hNb (Nat.le_of_ble_eq_true rfl) (Nat.le_of_eq (Nat.zero_add N)) dX0_init_14 (fun q14_7 H hP hD hS => ?_)
  refine va_putF (D := D) (ci := 0) (v := .ref q14_7) (ty := .array .int) (C := RX0) (T := TX0) (N := 1) hx hb hts inX0 tyX0 tyX0_ok nmX0 hown hKK.1 hP hD hS 0 (fs := [.null]) rfl rfl 0 (by decide) (hts _ q68) (fun _ h9 => h9) rfl hin rfl (by decide +kernel) rfl rfl (Nat.le_of_ble_eq_true rfl) dX0_init_16 (fun H locs hP hD hS => ?_)
  have hP : va_P D vwCl ((q, .inr (0, [.ref q14_7])) :: [(q14_7, .inl (cA, N, .inl (fun _ => 0)))]) H := hP
  have hD : va_D (An q s.heap.size) ((q, .inr (0, [.ref q14_7])) :: [(q14_7, .inl (cA, N, .inl (fun _ => 0)))]) := hD
  refine W.widen (k := 1) (n := N) (Nat.le_of_ble_eq_true rfl) (Nat.le_of_eq (Nat.zero_add N)) ?_
  exact hend (fun k => [q14_7].getD k 0) _ _ _ _ dX0_init_19 hP hD hS
set_option maxHeartbeats 8000000 in
set_option maxRecDepth 100000 in
theorem cn_X3 (l : Launch) (D : va_G) (cA cT : ClassId) (q : Nat) : CtN l D cA cT yX3_init (Cond.code yX3_init cX3_init 1 none :: lw_all) 2 41 6 1203 q [] (.inr (3, [.null, .null, .null, .int 0])) (rs_X3 cA q) := by
  refine CtN.of (by decide +kernel) (Nat.le_of_ble_eq_true rfl) rfl ?_
  intro p e s m args below meth c Q ls hx hb hml hown hts hKK hin hP hD hS hA hl hend
  have hl : lv_has ls 1 [(0, .ref q)] := hl
  refine lv_aload_n hx hb dX3_init_0 rfl (lv_at hl 0 rfl) ?_
  refine W.objInit hx hb hown (hts _ q61) (hts _ q50) (hts _ qi51) rfl (hl.1.trans hml.symm) rfl dX3_init_1 (Nat.le_of_ble_eq_true rfl) (Nat.le_of_ble_eq_true rfl) ?_
  refine W.eq (g2 := F0 m 4 ls []) rfl ?_
  refine lv_aload_n hx hb dX3_init_4 rfl (lv_at hl 0 rfl) ?_
  refine va_new (ci := 0) (fs := [.null]) (C := RX0) (T := TX0) (N := 1) hx hb hts inX0 tyX0 tyX0_ok hown (hts _ q62) (hts _ q63) (hts _ q38) hKK.1 hP hD hS hA rfl (fun j hj => by rcases (show j = 0 by omega) with rfl <;> rfl) (Nat.le_of_ble_eq_true rfl) (Nat.le_of_ble_eq_true rfl) dX3_init_5 (fun q5_4 H hP hD hS => ?_)
  refine lv_dup hx hb dX3_init_8 rfl ?_
  refine lv_sipush (v := (400 : Int32)) hx hb dX3_init_9 (by decide) ?_
  refine x_INp (As := [.int (400 : Int32)]) hx hb hml hown hts hKK hP hD hS hA (cn_X0 l D cA cT q5_4 400 (400 : Int32) (by decide +kernel) (by decide +kernel) (by decide +kernel)) q64 q65 q38 qi66 rfl yd_X0_init ⟨Nat.le_of_ble_eq_true rfl, Nat.le_of_ble_eq_true rfl⟩ [.ref q5_4, .ref q] rfl (Nat.le_of_ble_eq_true rfl) hl.1 ⟨Nat.le_of_ble_eq_true rfl, Nat.le_of_ble_eq_true rfl⟩ dX3_init_12 (fun α1 H locs hP hD hS => ?_)
  have hP : va_P D vwCl ((q, .inr (3, [.null, .null, .null, .int 0])) :: rs_X0 cA q5_4 400 α1) H := hP
  have hD : va_D (An q s.heap.size) ((q, .inr (3, [.null, .null, .null, .int 0])) :: rs_X0 cA q5_4 400 α1) := hD
  refine va_putF (D := D) (ci := 3) (v := .ref q5_4) (ty := .object "PrunedSlices$Cells") (C := RX3) (T := TX3) (N := 4) hx hb hts inX3 tyX3 tyX3_ok nmX3 hown hKK.1 hP hD hS 0 (fs := [.null, .null, .null, .int 0]) rfl rfl 0 (by decide) (hts _ q71) (fun _ h9 => h9) rfl hin rfl (by decide +kernel) rfl rfl (Nat.le_of_ble_eq_true rfl) dX3_init_15 (fun H locs hP hD hS => ?_)
  have hP : va_P D vwCl ((q, .inr (3, [.ref q5_4, .null, .null, .int 0])) :: rs_X0 cA q5_4 400 α1) H := hP
  have hD : va_D (An q s.heap.size) ((q, .inr (3, [.ref q5_4, .null, .null, .int 0])) :: rs_X0 cA q5_4 400 α1) := hD
  refine lv_aload_n hx hb dX3_init_18 rfl (lv_at hl 0 rfl) ?_
  refine va_new (ci := 0) (fs := [.null]) (C := RX0) (T := TX0) (N := 1) hx hb hts inX0 tyX0 tyX0_ok hown (hts _ q62) (hts _ q63) (hts _ q38) hKK.1 hP hD hS hA rfl (fun j hj => by rcases (show j = 0 by omega) with rfl <;> rfl) (Nat.le_of_ble_eq_true rfl) (Nat.le_of_ble_eq_true rfl) dX3_init_19 (fun q19_10 H hP hD hS => ?_)
  refine lv_dup hx hb dX3_init_22 rfl ?_
  refine lv_sipush (v := (400 : Int32)) hx hb dX3_init_23 (by decide) ?_
  refine x_INp (As := [.int (400 : Int32)]) hx hb hml hown hts hKK hP hD hS hA (cn_X0 l D cA cT q19_10 400 (400 : Int32) (by decide +kernel) (by decide +kernel) (by decide +kernel)) q64 q65 q38 qi66 rfl yd_X0_init ⟨Nat.le_of_ble_eq_true rfl, Nat.le_of_ble_eq_true rfl⟩ [.ref q19_10, .ref q] rfl (Nat.le_of_ble_eq_true rfl) hl.1 ⟨Nat.le_of_ble_eq_true rfl, Nat.le_of_ble_eq_true rfl⟩ dX3_init_26 (fun α2 H locs hP hD hS => ?_)
  have hP : va_P D vwCl ((q, .inr (3, [.ref q5_4, .null, .null, .int 0])) :: (rs_X0 cA q5_4 400 α1 ++ rs_X0 cA q19_10 400 α2)) H := hP
  have hD : va_D (An q s.heap.size) ((q, .inr (3, [.ref q5_4, .null, .null, .int 0])) :: (rs_X0 cA q5_4 400 α1 ++ rs_X0 cA q19_10 400 α2)) := hD
  refine va_putF (D := D) (ci := 3) (v := .ref q19_10) (ty := .object "PrunedSlices$Cells") (C := RX3) (T := TX3) (N := 4) hx hb hts inX3 tyX3 tyX3_ok nmX3 hown hKK.1 hP hD hS 0 (fs := [.ref q5_4, .null, .null, .int 0]) rfl rfl 1 (by decide) (hts _ q72) (fun _ h9 => h9) rfl hin rfl (by decide +kernel) rfl rfl (Nat.le_of_ble_eq_true rfl) dX3_init_29 (fun H locs hP hD hS => ?_)
  have hP : va_P D vwCl ((q, .inr (3, [.ref q5_4, .ref q19_10, .null, .int 0])) :: (rs_X0 cA q5_4 400 α1 ++ rs_X0 cA q19_10 400 α2)) H := hP
  have hD : va_D (An q s.heap.size) ((q, .inr (3, [.ref q5_4, .ref q19_10, .null, .int 0])) :: (rs_X0 cA q5_4 400 α1 ++ rs_X0 cA q19_10 400 α2)) := hD
  refine lv_aload_n hx hb dX3_init_32 rfl (lv_at hl 0 rfl) ?_
  refine va_new (ci := 0) (fs := [.null]) (C := RX0) (T := TX0) (N := 1) hx hb hts inX0 tyX0 tyX0_ok hown (hts _ q62) (hts _ q63) (hts _ q38) hKK.1 hP hD hS hA rfl (fun j hj => by rcases (show j = 0 by omega) with rfl <;> rfl) (Nat.le_of_ble_eq_true rfl) (Nat.le_of_ble_eq_true rfl) dX3_init_33 (fun q33_16 H hP hD hS => ?_)
  refine lv_dup hx hb dX3_init_36 rfl ?_
  refine lv_sipush (v := (400 : Int32)) hx hb dX3_init_37 (by decide) ?_
  refine x_INp (As := [.int (400 : Int32)]) hx hb hml hown hts hKK hP hD hS hA (cn_X0 l D cA cT q33_16 400 (400 : Int32) (by decide +kernel) (by decide +kernel) (by decide +kernel)) q64 q65 q38 qi66 rfl yd_X0_init ⟨Nat.le_of_ble_eq_true rfl, Nat.le_of_ble_eq_true rfl⟩ [.ref q33_16, .ref q] rfl (Nat.le_of_ble_eq_true rfl) hl.1 ⟨Nat.le_of_ble_eq_true rfl, Nat.le_of_ble_eq_true rfl⟩ dX3_init_40 (fun α3 H locs hP hD hS => ?_)
  have hP : va_P D vwCl ((q, .inr (3, [.ref q5_4, .ref q19_10, .null, .int 0])) :: ((rs_X0 cA q5_4 400 α1 ++ rs_X0 cA q19_10 400 α2) ++ rs_X0 cA q33_16 400 α3)) H := hP
  have hD : va_D (An q s.heap.size) ((q, .inr (3, [.ref q5_4, .ref q19_10, .null, .int 0])) :: ((rs_X0 cA q5_4 400 α1 ++ rs_X0 cA q19_10 400 α2) ++ rs_X0 cA q33_16 400 α3)) := hD
  refine va_putF (D := D) (ci := 3) (v := .ref q33_16) (ty := .object "PrunedSlices$Cells") (C := RX3) (T := TX3) (N := 4) hx hb hts inX3 tyX3 tyX3_ok nmX3 hown hKK.1 hP hD hS 0 (fs := [.ref q5_4, .ref q19_10, .null, .int 0]) rfl rfl 2 (by decide) (hts _ q73) (fun _ h9 => h9) rfl hin rfl (by decide +kernel) rfl rfl (Nat.le_of_ble_eq_true rfl) dX3_init_43 (fun H locs hP hD hS => ?_)
  have hP : va_P D vwCl ((q, .inr (3, [.ref q5_4, .ref q19_10, .ref q33_16, .int 0])) :: ((rs_X0 cA q5_4 400 α1 ++ rs_X0 cA q19_10 400 α2) ++ rs_X0 cA q33_16 400 α3)) H := hP
  have hD : va_D (An q s.heap.size) ((q, .inr (3, [.ref q5_4, .ref q19_10, .ref q33_16, .int 0])) :: ((rs_X0 cA q5_4 400 α1 ++ rs_X0 cA q19_10 400 α2) ++ rs_X0 cA q33_16 400 α3)) := hD
  refine W.widen (k := 6) (n := 1203) (Nat.le_of_ble_eq_true rfl) (Nat.le_of_ble_eq_true rfl) ?_
  exact hend (fun k => [q5_4, (α1 0), q19_10, (α2 0), q33_16, (α3 0)].getD k 0) _ _ _ _ dX3_init_46 hP hD hS
set_option maxHeartbeats 8000000 in
set_option maxRecDepth 100000 in
theorem cn_X4 (l : Launch) (D : va_G) (cA cT : ClassId) (q : Nat) : CtN l D cA cT yX4_init (Cond.code yX4_init cX4_init 1 none :: lw_all) 2 41 6 39 q [] (.inr (4, [.null, .null, .null, .int 0, .int 0])) (rs_X4 cA q) := by
  refine CtN.of (by decide +kernel) (Nat.le_of_ble_eq_true rfl) rfl ?_
  intro p e s m args below meth c Q ls hx hb hml hown hts hKK hin hP hD hS hA hl hend
  have hl : lv_has ls 1 [(0, .ref q)] := hl
  refine lv_aload_n hx hb dX4_init_0 rfl (lv_at hl 0 rfl) ?_
  refine W.objInit hx hb hown (hts _ q85) (hts _ q50) (hts _ qi51) rfl (hl.1.trans hml.symm) rfl dX4_init_1 (Nat.le_of_ble_eq_true rfl) (Nat.le_of_ble_eq_true rfl) ?_
  refine W.eq (g2 := F0 m 4 ls []) rfl ?_
  refine lv_aload_n hx hb dX4_init_4 rfl (lv_at hl 0 rfl) ?_
  refine va_new (ci := 0) (fs := [.null]) (C := RX0) (T := TX0) (N := 1) hx hb hts inX0 tyX0 tyX0_ok hown (hts _ q86) (hts _ q63) (hts _ q38) hKK.1 hP hD hS hA rfl (fun j hj => by rcases (show j = 0 by omega) with rfl <;> rfl) (Nat.le_of_ble_eq_true rfl) (Nat.le_of_ble_eq_true rfl) dX4_init_5 (fun q5_4 H hP hD hS => ?_)
  refine lv_dup hx hb dX4_init_8 rfl ?_
  refine lv_bipush (v := (12 : Int32)) hx hb dX4_init_9 (by decide) ?_
  refine x_INp (As := [.int (12 : Int32)]) hx hb hml hown hts hKK hP hD hS hA (cn_X0 l D cA cT q5_4 12 (12 : Int32) (by decide +kernel) (by decide +kernel) (by decide +kernel)) q87 q65 q38 qi66 rfl yd_X0_init ⟨Nat.le_of_ble_eq_true rfl, Nat.le_of_ble_eq_true rfl⟩ [.ref q5_4, .ref q] rfl (Nat.le_of_ble_eq_true rfl) hl.1 ⟨Nat.le_of_ble_eq_true rfl, Nat.le_of_ble_eq_true rfl⟩ dX4_init_11 (fun α1 H locs hP hD hS => ?_)
  have hP : va_P D vwCl ((q, .inr (4, [.null, .null, .null, .int 0, .int 0])) :: rs_X0 cA q5_4 12 α1) H := hP
  have hD : va_D (An q s.heap.size) ((q, .inr (4, [.null, .null, .null, .int 0, .int 0])) :: rs_X0 cA q5_4 12 α1) := hD
  refine va_putF (D := D) (ci := 4) (v := .ref q5_4) (ty := .object "PrunedSlices$Cells") (C := RX4) (T := TX4) (N := 5) hx hb hts inX4 tyX4 tyX4_ok nmX4 hown hKK.1 hP hD hS 0 (fs := [.null, .null, .null, .int 0, .int 0]) rfl rfl 0 (by decide) (hts _ q88) (fun _ h9 => h9) rfl hin rfl (by decide +kernel) rfl rfl (Nat.le_of_ble_eq_true rfl) dX4_init_14 (fun H locs hP hD hS => ?_)
  have hP : va_P D vwCl ((q, .inr (4, [.ref q5_4, .null, .null, .int 0, .int 0])) :: rs_X0 cA q5_4 12 α1) H := hP
  have hD : va_D (An q s.heap.size) ((q, .inr (4, [.ref q5_4, .null, .null, .int 0, .int 0])) :: rs_X0 cA q5_4 12 α1) := hD
  refine lv_aload_n hx hb dX4_init_17 rfl (lv_at hl 0 rfl) ?_
  refine va_new (ci := 0) (fs := [.null]) (C := RX0) (T := TX0) (N := 1) hx hb hts inX0 tyX0 tyX0_ok hown (hts _ q86) (hts _ q63) (hts _ q38) hKK.1 hP hD hS hA rfl (fun j hj => by rcases (show j = 0 by omega) with rfl <;> rfl) (Nat.le_of_ble_eq_true rfl) (Nat.le_of_ble_eq_true rfl) dX4_init_18 (fun q18_10 H hP hD hS => ?_)
  refine lv_dup hx hb dX4_init_21 rfl ?_
  refine lv_bipush (v := (12 : Int32)) hx hb dX4_init_22 (by decide) ?_
  refine x_INp (As := [.int (12 : Int32)]) hx hb hml hown hts hKK hP hD hS hA (cn_X0 l D cA cT q18_10 12 (12 : Int32) (by decide +kernel) (by decide +kernel) (by decide +kernel)) q87 q65 q38 qi66 rfl yd_X0_init ⟨Nat.le_of_ble_eq_true rfl, Nat.le_of_ble_eq_true rfl⟩ [.ref q18_10, .ref q] rfl (Nat.le_of_ble_eq_true rfl) hl.1 ⟨Nat.le_of_ble_eq_true rfl, Nat.le_of_ble_eq_true rfl⟩ dX4_init_24 (fun α2 H locs hP hD hS => ?_)
  have hP : va_P D vwCl ((q, .inr (4, [.ref q5_4, .null, .null, .int 0, .int 0])) :: (rs_X0 cA q5_4 12 α1 ++ rs_X0 cA q18_10 12 α2)) H := hP
  have hD : va_D (An q s.heap.size) ((q, .inr (4, [.ref q5_4, .null, .null, .int 0, .int 0])) :: (rs_X0 cA q5_4 12 α1 ++ rs_X0 cA q18_10 12 α2)) := hD
  refine va_putF (D := D) (ci := 4) (v := .ref q18_10) (ty := .object "PrunedSlices$Cells") (C := RX4) (T := TX4) (N := 5) hx hb hts inX4 tyX4 tyX4_ok nmX4 hown hKK.1 hP hD hS 0 (fs := [.ref q5_4, .null, .null, .int 0, .int 0]) rfl rfl 1 (by decide) (hts _ q89) (fun _ h9 => h9) rfl hin rfl (by decide +kernel) rfl rfl (Nat.le_of_ble_eq_true rfl) dX4_init_27 (fun H locs hP hD hS => ?_)
  have hP : va_P D vwCl ((q, .inr (4, [.ref q5_4, .ref q18_10, .null, .int 0, .int 0])) :: (rs_X0 cA q5_4 12 α1 ++ rs_X0 cA q18_10 12 α2)) H := hP
  have hD : va_D (An q s.heap.size) ((q, .inr (4, [.ref q5_4, .ref q18_10, .null, .int 0, .int 0])) :: (rs_X0 cA q5_4 12 α1 ++ rs_X0 cA q18_10 12 α2)) := hD
  refine lv_aload_n hx hb dX4_init_30 rfl (lv_at hl 0 rfl) ?_
  refine va_new (ci := 0) (fs := [.null]) (C := RX0) (T := TX0) (N := 1) hx hb hts inX0 tyX0 tyX0_ok hown (hts _ q86) (hts _ q63) (hts _ q38) hKK.1 hP hD hS hA rfl (fun j hj => by rcases (show j = 0 by omega) with rfl <;> rfl) (Nat.le_of_ble_eq_true rfl) (Nat.le_of_ble_eq_true rfl) dX4_init_31 (fun q31_16 H hP hD hS => ?_)
  refine lv_dup hx hb dX4_init_34 rfl ?_
  refine lv_bipush (v := (12 : Int32)) hx hb dX4_init_35 (by decide) ?_
  refine x_INp (As := [.int (12 : Int32)]) hx hb hml hown hts hKK hP hD hS hA (cn_X0 l D cA cT q31_16 12 (12 : Int32) (by decide +kernel) (by decide +kernel) (by decide +kernel)) q87 q65 q38 qi66 rfl yd_X0_init ⟨Nat.le_of_ble_eq_true rfl, Nat.le_of_ble_eq_true rfl⟩ [.ref q31_16, .ref q] rfl (Nat.le_of_ble_eq_true rfl) hl.1 ⟨Nat.le_of_ble_eq_true rfl, Nat.le_of_ble_eq_true rfl⟩ dX4_init_37 (fun α3 H locs hP hD hS => ?_)
  have hP : va_P D vwCl ((q, .inr (4, [.ref q5_4, .ref q18_10, .null, .int 0, .int 0])) :: ((rs_X0 cA q5_4 12 α1 ++ rs_X0 cA q18_10 12 α2) ++ rs_X0 cA q31_16 12 α3)) H := hP
  have hD : va_D (An q s.heap.size) ((q, .inr (4, [.ref q5_4, .ref q18_10, .null, .int 0, .int 0])) :: ((rs_X0 cA q5_4 12 α1 ++ rs_X0 cA q18_10 12 α2) ++ rs_X0 cA q31_16 12 α3)) := hD
  refine va_putF (D := D) (ci := 4) (v := .ref q31_16) (ty := .object "PrunedSlices$Cells") (C := RX4) (T := TX4) (N := 5) hx hb hts inX4 tyX4 tyX4_ok nmX4 hown hKK.1 hP hD hS 0 (fs := [.ref q5_4, .ref q18_10, .null, .int 0, .int 0]) rfl rfl 2 (by decide) (hts _ q90) (fun _ h9 => h9) rfl hin rfl (by decide +kernel) rfl rfl (Nat.le_of_ble_eq_true rfl) dX4_init_40 (fun H locs hP hD hS => ?_)
  have hP : va_P D vwCl ((q, .inr (4, [.ref q5_4, .ref q18_10, .ref q31_16, .int 0, .int 0])) :: ((rs_X0 cA q5_4 12 α1 ++ rs_X0 cA q18_10 12 α2) ++ rs_X0 cA q31_16 12 α3)) H := hP
  have hD : va_D (An q s.heap.size) ((q, .inr (4, [.ref q5_4, .ref q18_10, .ref q31_16, .int 0, .int 0])) :: ((rs_X0 cA q5_4 12 α1 ++ rs_X0 cA q18_10 12 α2) ++ rs_X0 cA q31_16 12 α3)) := hD
  refine W.widen (k := 6) (n := 39) (Nat.le_of_ble_eq_true rfl) (Nat.le_of_ble_eq_true rfl) ?_
  exact hend (fun k => [q5_4, (α1 0), q18_10, (α2 0), q31_16, (α3 0)].getD k 0) _ _ _ _ dX4_init_43 hP hD hS
set_option maxHeartbeats 8000000 in
set_option maxRecDepth 100000 in
theorem cn_X5 (l : Launch) (D : va_G) (cA cT : ClassId) (q : Nat) : CtN l D cA cT yX5_init (Cond.code yX5_init cX5_init 1 none :: lw_all) 3 61 14 1251 q [] (.inr (5, [.null, .null, .int 0, .int 0, .int 0])) (rs_X5 cA q) := by
  refine CtN.of (by decide +kernel) (Nat.le_of_ble_eq_true rfl) rfl ?_
  intro p e s m args below meth c Q ls hx hb hml hown hts hKK hin hP hD hS hA hl hend
  have hl : lv_has ls 1 [(0, .ref q)] := hl
  refine lv_aload_n hx hb dX5_init_0 rfl (lv_at hl 0 rfl) ?_
  refine W.objInit hx hb hown (hts _ q56) (hts _ q50) (hts _ qi51) rfl (hl.1.trans hml.symm) rfl dX5_init_1 (Nat.le_of_ble_eq_true rfl) (Nat.le_of_ble_eq_true rfl) ?_
  refine W.eq (g2 := F0 m 4 ls []) rfl ?_
  refine lv_aload_n hx hb dX5_init_4 rfl (lv_at hl 0 rfl) ?_
  refine va_new (ci := 3) (fs := [.null, .null, .null, .int 0]) (C := RX3) (T := TX3) (N := 4) hx hb hts inX3 tyX3 tyX3_ok hown (hts _ q57) (hts _ q58) (hts _ q37) hKK.1 hP hD hS hA rfl (fun j hj => by rcases (show j = 0 ∨ j = 1 ∨ j = 2 ∨ j = 3 by omega) with rfl | rfl | rfl | rfl <;> rfl) (Nat.le_of_ble_eq_true rfl) (Nat.le_of_ble_eq_true rfl) dX5_init_5 (fun q5_4 H hP hD hS => ?_)
  refine lv_dup hx hb dX5_init_8 rfl ?_
  refine x_INn (As := []) hx hb hml hown hts hKK hP hD hS hA (cn_X3 l D cA cT q5_4) hKK.2.2.2.1 q59 q37 qi60 rfl yd_X3_init ⟨Nat.le_of_ble_eq_true rfl, Nat.le_of_ble_eq_true rfl⟩ [.ref q5_4, .ref q] rfl (Nat.le_of_ble_eq_true rfl) hl.1 ⟨Nat.le_of_ble_eq_true rfl, Nat.le_of_ble_eq_true rfl⟩ dX5_init_9 (fun α1 H locs hP hD hS => ?_)
  have hP : va_P D vwCl ((q, .inr (5, [.null, .null, .int 0, .int 0, .int 0])) :: rs_X3 cA q5_4 α1) H := hP
  have hD : va_D (An q s.heap.size) ((q, .inr (5, [.null, .null, .int 0, .int 0, .int 0])) :: rs_X3 cA q5_4 α1) := hD
  refine va_putF (D := D) (ci := 5) (v := .ref q5_4) (ty := .object "PrunedSlices$Rows") (C := RX5) (T := TX5) (N := 5) hx hb hts inX5 tyX5 tyX5_ok nmX5 hown hKK.1 hP hD hS 0 (fs := [.null, .null, .int 0, .int 0, .int 0]) rfl rfl 0 (by decide) (hts _ q100) (fun _ h9 => h9) rfl hin rfl (by decide +kernel) rfl rfl (Nat.le_of_ble_eq_true rfl) dX5_init_12 (fun H locs hP hD hS => ?_)
  have hP : va_P D vwCl ((q, .inr (5, [.ref q5_4, .null, .int 0, .int 0, .int 0])) :: rs_X3 cA q5_4 α1) H := hP
  have hD : va_D (An q s.heap.size) ((q, .inr (5, [.ref q5_4, .null, .int 0, .int 0, .int 0])) :: rs_X3 cA q5_4 α1) := hD
  refine lv_aload_n hx hb dX5_init_15 rfl (lv_at hl 0 rfl) ?_
  refine va_new (ci := 4) (fs := [.null, .null, .null, .int 0, .int 0]) (C := RX4) (T := TX4) (N := 5) hx hb hts inX4 tyX4 tyX4_ok hown (hts _ q81) (hts _ q82) (hts _ q39) hKK.1 hP hD hS hA rfl (fun j hj => by rcases (show j = 0 ∨ j = 1 ∨ j = 2 ∨ j = 3 ∨ j = 4 by omega) with rfl | rfl | rfl | rfl | rfl <;> rfl) (Nat.le_of_ble_eq_true rfl) (Nat.le_of_ble_eq_true rfl) dX5_init_16 (fun q16_9 H hP hD hS => ?_)
  refine lv_dup hx hb dX5_init_19 rfl ?_
  refine x_INn (As := []) hx hb hml hown hts hKK hP hD hS hA (cn_X4 l D cA cT q16_9) hKK.2.2.2.2.1 q83 q39 qi84 rfl yd_X4_init ⟨Nat.le_of_ble_eq_true rfl, Nat.le_of_ble_eq_true rfl⟩ [.ref q16_9, .ref q] rfl (Nat.le_of_ble_eq_true rfl) hl.1 ⟨Nat.le_of_ble_eq_true rfl, Nat.le_of_ble_eq_true rfl⟩ dX5_init_20 (fun α2 H locs hP hD hS => ?_)
  have hP : va_P D vwCl ((q, .inr (5, [.ref q5_4, .null, .int 0, .int 0, .int 0])) :: (rs_X3 cA q5_4 α1 ++ rs_X4 cA q16_9 α2)) H := hP
  have hD : va_D (An q s.heap.size) ((q, .inr (5, [.ref q5_4, .null, .int 0, .int 0, .int 0])) :: (rs_X3 cA q5_4 α1 ++ rs_X4 cA q16_9 α2)) := hD
  refine va_putF (D := D) (ci := 5) (v := .ref q16_9) (ty := .object "PrunedSlices$Slices") (C := RX5) (T := TX5) (N := 5) hx hb hts inX5 tyX5 tyX5_ok nmX5 hown hKK.1 hP hD hS 0 (fs := [.ref q5_4, .null, .int 0, .int 0, .int 0]) rfl rfl 1 (by decide) (hts _ q102) (fun _ h9 => h9) rfl hin rfl (by decide +kernel) rfl rfl (Nat.le_of_ble_eq_true rfl) dX5_init_23 (fun H locs hP hD hS => ?_)
  have hP : va_P D vwCl ((q, .inr (5, [.ref q5_4, .ref q16_9, .int 0, .int 0, .int 0])) :: (rs_X3 cA q5_4 α1 ++ rs_X4 cA q16_9 α2)) H := hP
  have hD : va_D (An q s.heap.size) ((q, .inr (5, [.ref q5_4, .ref q16_9, .int 0, .int 0, .int 0])) :: (rs_X3 cA q5_4 α1 ++ rs_X4 cA q16_9 α2)) := hD
  refine lv_aload_n hx hb dX5_init_26 rfl (lv_at hl 0 rfl) ?_
  refine lv_iconst (v := (1 : Int32)) hx hb dX5_init_27 (by decide) ?_
  refine va_put (D := D) (ci := 5) (v := .int (1 : Int32)) (ty := .boolean) (C := RX5) (T := TX5) (N := 5) hx hb hts inX5 tyX5 tyX5_ok nmX5 hown hKK.1 hP hD hS 0 (fs := [.ref q5_4, .ref q16_9, .int 0, .int 0, .int 0]) rfl rfl 2 (by decide) (hts _ q104) (fun _ h9 => h9) rfl (by decide +kernel) rfl rfl (Nat.le_of_ble_eq_true rfl) dX5_init_28 (fun H locs hP hD hS => ?_)
  have hP : va_P D vwCl ((q, .inr (5, [.ref q5_4, .ref q16_9, .int (1 : Int32), .int 0, .int 0])) :: (rs_X3 cA q5_4 α1 ++ rs_X4 cA q16_9 α2)) H := hP
  have hD : va_D (An q s.heap.size) ((q, .inr (5, [.ref q5_4, .ref q16_9, .int (1 : Int32), .int 0, .int 0])) :: (rs_X3 cA q5_4 α1 ++ rs_X4 cA q16_9 α2)) := hD
  refine W.widen (k := 14) (n := 1251) (Nat.le_of_ble_eq_true rfl) (Nat.le_of_ble_eq_true rfl) ?_
  exact hend (fun k => [q5_4, (α1 0), (α1 1), (α1 2), (α1 3), (α1 4), (α1 5), q16_9, (α2 0), (α2 1), (α2 2), (α2 3), (α2 4), (α2 5)].getD k 0) _ _ _ _ dX5_init_31 hP hD hS
set_option maxHeartbeats 8000000 in
set_option maxRecDepth 100000 in
theorem cn_X2 (l : Launch) (D : va_G) (cA cT : ClassId) (q : Nat) : CtN l D cA cT yX2_init (Cond.code yX2_init cX2_init 1 none :: lw_all) 2 41 12 204 q [] (.inr (2, [.int 0, .int 0, .int 0, .int 0, .int 0, .int 0, .int 0, .int 0, .null, .null, .null, .null, .null, .null])) (rs_X2 cA q) := by
  refine CtN.of (by decide +kernel) (Nat.le_of_ble_eq_true rfl) rfl ?_
  intro p e s m args below meth c Q ls hx hb hml hown hts hKK hin hP hD hS hA hl hend
  have hl : lv_has ls 1 [(0, .ref q)] := hl
  refine lv_aload_n hx hb dX2_init_0 rfl (lv_at hl 0 rfl) ?_
  refine W.objInit hx hb hown (hts _ q134) (hts _ q50) (hts _ qi51) rfl (hl.1.trans hml.symm) rfl dX2_init_1 (Nat.le_of_ble_eq_true rfl) (Nat.le_of_ble_eq_true rfl) ?_
  refine W.eq (g2 := F0 m 4 ls []) rfl ?_
  refine lv_aload_n hx hb dX2_init_4 rfl (lv_at hl 0 rfl) ?_
  refine lv_sipush (v := (-1005 : Int32)) hx hb dX2_init_5 (by decide) ?_
  refine va_put (D := D) (ci := 2) (v := .int (-1005 : Int32)) (ty := .int) (C := RX2) (T := TX2) (N := 14) hx hb hts inX2 tyX2 tyX2_ok nmX2 hown hKK.1 hP hD hS 0 (fs := [.int 0, .int 0, .int 0, .int 0, .int 0, .int 0, .int 0, .int 0, .null, .null, .null, .null, .null, .null]) rfl rfl 1 (by decide) (hts _ q139) (fun _ h9 => h9) rfl (by decide +kernel) rfl rfl (Nat.le_of_ble_eq_true rfl) dX2_init_8 (fun H locs hP hD hS => ?_)
  have hP : va_P D vwCl ((q, .inr (2, [.int 0, .int (-1005 : Int32), .int 0, .int 0, .int 0, .int 0, .int 0, .int 0, .null, .null, .null, .null, .null, .null])) :: []) H := hP
  have hD : va_D (An q s.heap.size) ((q, .inr (2, [.int 0, .int (-1005 : Int32), .int 0, .int 0, .int 0, .int 0, .int 0, .int 0, .null, .null, .null, .null, .null, .null])) :: []) := hD
  refine lv_aload_n hx hb dX2_init_11 rfl (lv_at hl 0 rfl) ?_
  refine lv_iconst (v := (0 : Int32)) hx hb dX2_init_12 (by decide) ?_
  refine va_put (D := D) (ci := 2) (v := .int (0 : Int32)) (ty := .int) (C := RX2) (T := TX2) (N := 14) hx hb hts inX2 tyX2 tyX2_ok nmX2 hown hKK.1 hP hD hS 0 (fs := [.int 0, .int (-1005 : Int32), .int 0, .int 0, .int 0, .int 0, .int 0, .int 0, .null, .null, .null, .null, .null, .null]) rfl rfl 2 (by decide) (hts _ q140) (fun _ h9 => h9) rfl (by decide +kernel) rfl rfl (Nat.le_of_ble_eq_true rfl) dX2_init_13 (fun H locs hP hD hS => ?_)
  have hP : va_P D vwCl ((q, .inr (2, [.int 0, .int (-1005 : Int32), .int (0 : Int32), .int 0, .int 0, .int 0, .int 0, .int 0, .null, .null, .null, .null, .null, .null])) :: []) H := hP
  have hD : va_D (An q s.heap.size) ((q, .inr (2, [.int 0, .int (-1005 : Int32), .int (0 : Int32), .int 0, .int 0, .int 0, .int 0, .int 0, .null, .null, .null, .null, .null, .null])) :: []) := hD
  refine lv_aload_n hx hb dX2_init_16 rfl (lv_at hl 0 rfl) ?_
  refine va_new (ci := 0) (fs := [.null]) (C := RX0) (T := TX0) (N := 1) hx hb hts inX0 tyX0 tyX0_ok hown (hts _ q135) (hts _ q63) (hts _ q38) hKK.1 hP hD hS hA rfl (fun j hj => by rcases (show j = 0 by omega) with rfl <;> rfl) (Nat.le_of_ble_eq_true rfl) (Nat.le_of_ble_eq_true rfl) dX2_init_17 (fun q17_10 H hP hD hS => ?_)
  refine lv_dup hx hb dX2_init_20 rfl ?_
  refine lv_bipush (v := (60 : Int32)) hx hb dX2_init_21 (by decide) ?_
  refine x_INp (As := [.int (60 : Int32)]) hx hb hml hown hts hKK hP hD hS hA (cn_X0 l D cA cT q17_10 60 (60 : Int32) (by decide +kernel) (by decide +kernel) (by decide +kernel)) q136 q65 q38 qi66 rfl yd_X0_init ⟨Nat.le_of_ble_eq_true rfl, Nat.le_of_ble_eq_true rfl⟩ [.ref q17_10, .ref q] rfl (Nat.le_of_ble_eq_true rfl) hl.1 ⟨Nat.le_of_ble_eq_true rfl, Nat.le_of_ble_eq_true rfl⟩ dX2_init_23 (fun α1 H locs hP hD hS => ?_)
  have hP : va_P D vwCl ((q, .inr (2, [.int 0, .int (-1005 : Int32), .int (0 : Int32), .int 0, .int 0, .int 0, .int 0, .int 0, .null, .null, .null, .null, .null, .null])) :: rs_X0 cA q17_10 60 α1) H := hP
  have hD : va_D (An q s.heap.size) ((q, .inr (2, [.int 0, .int (-1005 : Int32), .int (0 : Int32), .int 0, .int 0, .int 0, .int 0, .int 0, .null, .null, .null, .null, .null, .null])) :: rs_X0 cA q17_10 60 α1) := hD
  refine va_putF (D := D) (ci := 2) (v := .ref q17_10) (ty := .object "PrunedSlices$Cells") (C := RX2) (T := TX2) (N := 14) hx hb hts inX2 tyX2 tyX2_ok nmX2 hown hKK.1 hP hD hS 0 (fs := [.int 0, .int (-1005 : Int32), .int (0 : Int32), .int 0, .int 0, .int 0, .int 0, .int 0, .null, .null, .null, .null, .null, .null]) rfl rfl 8 (by decide) (hts _ q146) (fun _ h9 => h9) rfl hin rfl (by decide +kernel) rfl rfl (Nat.le_of_ble_eq_true rfl) dX2_init_26 (fun H locs hP hD hS => ?_)
  have hP : va_P D vwCl ((q, .inr (2, [.int 0, .int (-1005 : Int32), .int (0 : Int32), .int 0, .int 0, .int 0, .int 0, .int 0, .ref q17_10, .null, .null, .null, .null, .null])) :: rs_X0 cA q17_10 60 α1) H := hP
  have hD : va_D (An q s.heap.size) ((q, .inr (2, [.int 0, .int (-1005 : Int32), .int (0 : Int32), .int 0, .int 0, .int 0, .int 0, .int 0, .ref q17_10, .null, .null, .null, .null, .null])) :: rs_X0 cA q17_10 60 α1) := hD
  refine lv_aload_n hx hb dX2_init_29 rfl (lv_at hl 0 rfl) ?_
  refine va_new (ci := 0) (fs := [.null]) (C := RX0) (T := TX0) (N := 1) hx hb hts inX0 tyX0 tyX0_ok hown (hts _ q135) (hts _ q63) (hts _ q38) hKK.1 hP hD hS hA rfl (fun j hj => by rcases (show j = 0 by omega) with rfl <;> rfl) (Nat.le_of_ble_eq_true rfl) (Nat.le_of_ble_eq_true rfl) dX2_init_30 (fun q30_16 H hP hD hS => ?_)
  refine lv_dup hx hb dX2_init_33 rfl ?_
  refine lv_bipush (v := (60 : Int32)) hx hb dX2_init_34 (by decide) ?_
  refine x_INp (As := [.int (60 : Int32)]) hx hb hml hown hts hKK hP hD hS hA (cn_X0 l D cA cT q30_16 60 (60 : Int32) (by decide +kernel) (by decide +kernel) (by decide +kernel)) q136 q65 q38 qi66 rfl yd_X0_init ⟨Nat.le_of_ble_eq_true rfl, Nat.le_of_ble_eq_true rfl⟩ [.ref q30_16, .ref q] rfl (Nat.le_of_ble_eq_true rfl) hl.1 ⟨Nat.le_of_ble_eq_true rfl, Nat.le_of_ble_eq_true rfl⟩ dX2_init_36 (fun α2 H locs hP hD hS => ?_)
  have hP : va_P D vwCl ((q, .inr (2, [.int 0, .int (-1005 : Int32), .int (0 : Int32), .int 0, .int 0, .int 0, .int 0, .int 0, .ref q17_10, .null, .null, .null, .null, .null])) :: (rs_X0 cA q17_10 60 α1 ++ rs_X0 cA q30_16 60 α2)) H := hP
  have hD : va_D (An q s.heap.size) ((q, .inr (2, [.int 0, .int (-1005 : Int32), .int (0 : Int32), .int 0, .int 0, .int 0, .int 0, .int 0, .ref q17_10, .null, .null, .null, .null, .null])) :: (rs_X0 cA q17_10 60 α1 ++ rs_X0 cA q30_16 60 α2)) := hD
  refine va_putF (D := D) (ci := 2) (v := .ref q30_16) (ty := .object "PrunedSlices$Cells") (C := RX2) (T := TX2) (N := 14) hx hb hts inX2 tyX2 tyX2_ok nmX2 hown hKK.1 hP hD hS 0 (fs := [.int 0, .int (-1005 : Int32), .int (0 : Int32), .int 0, .int 0, .int 0, .int 0, .int 0, .ref q17_10, .null, .null, .null, .null, .null]) rfl rfl 9 (by decide) (hts _ q147) (fun _ h9 => h9) rfl hin rfl (by decide +kernel) rfl rfl (Nat.le_of_ble_eq_true rfl) dX2_init_39 (fun H locs hP hD hS => ?_)
  have hP : va_P D vwCl ((q, .inr (2, [.int 0, .int (-1005 : Int32), .int (0 : Int32), .int 0, .int 0, .int 0, .int 0, .int 0, .ref q17_10, .ref q30_16, .null, .null, .null, .null])) :: (rs_X0 cA q17_10 60 α1 ++ rs_X0 cA q30_16 60 α2)) H := hP
  have hD : va_D (An q s.heap.size) ((q, .inr (2, [.int 0, .int (-1005 : Int32), .int (0 : Int32), .int 0, .int 0, .int 0, .int 0, .int 0, .ref q17_10, .ref q30_16, .null, .null, .null, .null])) :: (rs_X0 cA q17_10 60 α1 ++ rs_X0 cA q30_16 60 α2)) := hD
  refine lv_aload_n hx hb dX2_init_42 rfl (lv_at hl 0 rfl) ?_
  refine va_new (ci := 0) (fs := [.null]) (C := RX0) (T := TX0) (N := 1) hx hb hts inX0 tyX0 tyX0_ok hown (hts _ q135) (hts _ q63) (hts _ q38) hKK.1 hP hD hS hA rfl (fun j hj => by rcases (show j = 0 by omega) with rfl <;> rfl) (Nat.le_of_ble_eq_true rfl) (Nat.le_of_ble_eq_true rfl) dX2_init_43 (fun q43_22 H hP hD hS => ?_)
  refine lv_dup hx hb dX2_init_46 rfl ?_
  refine lv_bipush (v := (60 : Int32)) hx hb dX2_init_47 (by decide) ?_
  refine x_INp (As := [.int (60 : Int32)]) hx hb hml hown hts hKK hP hD hS hA (cn_X0 l D cA cT q43_22 60 (60 : Int32) (by decide +kernel) (by decide +kernel) (by decide +kernel)) q136 q65 q38 qi66 rfl yd_X0_init ⟨Nat.le_of_ble_eq_true rfl, Nat.le_of_ble_eq_true rfl⟩ [.ref q43_22, .ref q] rfl (Nat.le_of_ble_eq_true rfl) hl.1 ⟨Nat.le_of_ble_eq_true rfl, Nat.le_of_ble_eq_true rfl⟩ dX2_init_49 (fun α3 H locs hP hD hS => ?_)
  have hP : va_P D vwCl ((q, .inr (2, [.int 0, .int (-1005 : Int32), .int (0 : Int32), .int 0, .int 0, .int 0, .int 0, .int 0, .ref q17_10, .ref q30_16, .null, .null, .null, .null])) :: ((rs_X0 cA q17_10 60 α1 ++ rs_X0 cA q30_16 60 α2) ++ rs_X0 cA q43_22 60 α3)) H := hP
  have hD : va_D (An q s.heap.size) ((q, .inr (2, [.int 0, .int (-1005 : Int32), .int (0 : Int32), .int 0, .int 0, .int 0, .int 0, .int 0, .ref q17_10, .ref q30_16, .null, .null, .null, .null])) :: ((rs_X0 cA q17_10 60 α1 ++ rs_X0 cA q30_16 60 α2) ++ rs_X0 cA q43_22 60 α3)) := hD
  refine va_putF (D := D) (ci := 2) (v := .ref q43_22) (ty := .object "PrunedSlices$Cells") (C := RX2) (T := TX2) (N := 14) hx hb hts inX2 tyX2 tyX2_ok nmX2 hown hKK.1 hP hD hS 0 (fs := [.int 0, .int (-1005 : Int32), .int (0 : Int32), .int 0, .int 0, .int 0, .int 0, .int 0, .ref q17_10, .ref q30_16, .null, .null, .null, .null]) rfl rfl 10 (by decide) (hts _ q148) (fun _ h9 => h9) rfl hin rfl (by decide +kernel) rfl rfl (Nat.le_of_ble_eq_true rfl) dX2_init_52 (fun H locs hP hD hS => ?_)
  have hP : va_P D vwCl ((q, .inr (2, [.int 0, .int (-1005 : Int32), .int (0 : Int32), .int 0, .int 0, .int 0, .int 0, .int 0, .ref q17_10, .ref q30_16, .ref q43_22, .null, .null, .null])) :: ((rs_X0 cA q17_10 60 α1 ++ rs_X0 cA q30_16 60 α2) ++ rs_X0 cA q43_22 60 α3)) H := hP
  have hD : va_D (An q s.heap.size) ((q, .inr (2, [.int 0, .int (-1005 : Int32), .int (0 : Int32), .int 0, .int 0, .int 0, .int 0, .int 0, .ref q17_10, .ref q30_16, .ref q43_22, .null, .null, .null])) :: ((rs_X0 cA q17_10 60 α1 ++ rs_X0 cA q30_16 60 α2) ++ rs_X0 cA q43_22 60 α3)) := hD
  refine lv_aload_n hx hb dX2_init_55 rfl (lv_at hl 0 rfl) ?_
  refine va_new (ci := 0) (fs := [.null]) (C := RX0) (T := TX0) (N := 1) hx hb hts inX0 tyX0 tyX0_ok hown (hts _ q135) (hts _ q63) (hts _ q38) hKK.1 hP hD hS hA rfl (fun j hj => by rcases (show j = 0 by omega) with rfl <;> rfl) (Nat.le_of_ble_eq_true rfl) (Nat.le_of_ble_eq_true rfl) dX2_init_56 (fun q56_28 H hP hD hS => ?_)
  refine lv_dup hx hb dX2_init_59 rfl ?_
  refine lv_bipush (v := (6 : Int32)) hx hb dX2_init_60 (by decide) ?_
  refine x_INp (As := [.int (6 : Int32)]) hx hb hml hown hts hKK hP hD hS hA (cn_X0 l D cA cT q56_28 6 (6 : Int32) (by decide +kernel) (by decide +kernel) (by decide +kernel)) q136 q65 q38 qi66 rfl yd_X0_init ⟨Nat.le_of_ble_eq_true rfl, Nat.le_of_ble_eq_true rfl⟩ [.ref q56_28, .ref q] rfl (Nat.le_of_ble_eq_true rfl) hl.1 ⟨Nat.le_of_ble_eq_true rfl, Nat.le_of_ble_eq_true rfl⟩ dX2_init_62 (fun α4 H locs hP hD hS => ?_)
  have hP : va_P D vwCl ((q, .inr (2, [.int 0, .int (-1005 : Int32), .int (0 : Int32), .int 0, .int 0, .int 0, .int 0, .int 0, .ref q17_10, .ref q30_16, .ref q43_22, .null, .null, .null])) :: (((rs_X0 cA q17_10 60 α1 ++ rs_X0 cA q30_16 60 α2) ++ rs_X0 cA q43_22 60 α3) ++ rs_X0 cA q56_28 6 α4)) H := hP
  have hD : va_D (An q s.heap.size) ((q, .inr (2, [.int 0, .int (-1005 : Int32), .int (0 : Int32), .int 0, .int 0, .int 0, .int 0, .int 0, .ref q17_10, .ref q30_16, .ref q43_22, .null, .null, .null])) :: (((rs_X0 cA q17_10 60 α1 ++ rs_X0 cA q30_16 60 α2) ++ rs_X0 cA q43_22 60 α3) ++ rs_X0 cA q56_28 6 α4)) := hD
  refine va_putF (D := D) (ci := 2) (v := .ref q56_28) (ty := .object "PrunedSlices$Cells") (C := RX2) (T := TX2) (N := 14) hx hb hts inX2 tyX2 tyX2_ok nmX2 hown hKK.1 hP hD hS 0 (fs := [.int 0, .int (-1005 : Int32), .int (0 : Int32), .int 0, .int 0, .int 0, .int 0, .int 0, .ref q17_10, .ref q30_16, .ref q43_22, .null, .null, .null]) rfl rfl 11 (by decide) (hts _ q149) (fun _ h9 => h9) rfl hin rfl (by decide +kernel) rfl rfl (Nat.le_of_ble_eq_true rfl) dX2_init_65 (fun H locs hP hD hS => ?_)
  have hP : va_P D vwCl ((q, .inr (2, [.int 0, .int (-1005 : Int32), .int (0 : Int32), .int 0, .int 0, .int 0, .int 0, .int 0, .ref q17_10, .ref q30_16, .ref q43_22, .ref q56_28, .null, .null])) :: (((rs_X0 cA q17_10 60 α1 ++ rs_X0 cA q30_16 60 α2) ++ rs_X0 cA q43_22 60 α3) ++ rs_X0 cA q56_28 6 α4)) H := hP
  have hD : va_D (An q s.heap.size) ((q, .inr (2, [.int 0, .int (-1005 : Int32), .int (0 : Int32), .int 0, .int 0, .int 0, .int 0, .int 0, .ref q17_10, .ref q30_16, .ref q43_22, .ref q56_28, .null, .null])) :: (((rs_X0 cA q17_10 60 α1 ++ rs_X0 cA q30_16 60 α2) ++ rs_X0 cA q43_22 60 α3) ++ rs_X0 cA q56_28 6 α4)) := hD
  refine lv_aload_n hx hb dX2_init_68 rfl (lv_at hl 0 rfl) ?_
  refine va_new (ci := 0) (fs := [.null]) (C := RX0) (T := TX0) (N := 1) hx hb hts inX0 tyX0 tyX0_ok hown (hts _ q135) (hts _ q63) (hts _ q38) hKK.1 hP hD hS hA rfl (fun j hj => by rcases (show j = 0 by omega) with rfl <;> rfl) (Nat.le_of_ble_eq_true rfl) (Nat.le_of_ble_eq_true rfl) dX2_init_69 (fun q69_34 H hP hD hS => ?_)
  refine lv_dup hx hb dX2_init_72 rfl ?_
  refine lv_bipush (v := (6 : Int32)) hx hb dX2_init_73 (by decide) ?_
  refine x_INp (As := [.int (6 : Int32)]) hx hb hml hown hts hKK hP hD hS hA (cn_X0 l D cA cT q69_34 6 (6 : Int32) (by decide +kernel) (by decide +kernel) (by decide +kernel)) q136 q65 q38 qi66 rfl yd_X0_init ⟨Nat.le_of_ble_eq_true rfl, Nat.le_of_ble_eq_true rfl⟩ [.ref q69_34, .ref q] rfl (Nat.le_of_ble_eq_true rfl) hl.1 ⟨Nat.le_of_ble_eq_true rfl, Nat.le_of_ble_eq_true rfl⟩ dX2_init_75 (fun α5 H locs hP hD hS => ?_)
  have hP : va_P D vwCl ((q, .inr (2, [.int 0, .int (-1005 : Int32), .int (0 : Int32), .int 0, .int 0, .int 0, .int 0, .int 0, .ref q17_10, .ref q30_16, .ref q43_22, .ref q56_28, .null, .null])) :: ((((rs_X0 cA q17_10 60 α1 ++ rs_X0 cA q30_16 60 α2) ++ rs_X0 cA q43_22 60 α3) ++ rs_X0 cA q56_28 6 α4) ++ rs_X0 cA q69_34 6 α5)) H := hP
  have hD : va_D (An q s.heap.size) ((q, .inr (2, [.int 0, .int (-1005 : Int32), .int (0 : Int32), .int 0, .int 0, .int 0, .int 0, .int 0, .ref q17_10, .ref q30_16, .ref q43_22, .ref q56_28, .null, .null])) :: ((((rs_X0 cA q17_10 60 α1 ++ rs_X0 cA q30_16 60 α2) ++ rs_X0 cA q43_22 60 α3) ++ rs_X0 cA q56_28 6 α4) ++ rs_X0 cA q69_34 6 α5)) := hD
  refine va_putF (D := D) (ci := 2) (v := .ref q69_34) (ty := .object "PrunedSlices$Cells") (C := RX2) (T := TX2) (N := 14) hx hb hts inX2 tyX2 tyX2_ok nmX2 hown hKK.1 hP hD hS 0 (fs := [.int 0, .int (-1005 : Int32), .int (0 : Int32), .int 0, .int 0, .int 0, .int 0, .int 0, .ref q17_10, .ref q30_16, .ref q43_22, .ref q56_28, .null, .null]) rfl rfl 12 (by decide) (hts _ q150) (fun _ h9 => h9) rfl hin rfl (by decide +kernel) rfl rfl (Nat.le_of_ble_eq_true rfl) dX2_init_78 (fun H locs hP hD hS => ?_)
  have hP : va_P D vwCl ((q, .inr (2, [.int 0, .int (-1005 : Int32), .int (0 : Int32), .int 0, .int 0, .int 0, .int 0, .int 0, .ref q17_10, .ref q30_16, .ref q43_22, .ref q56_28, .ref q69_34, .null])) :: ((((rs_X0 cA q17_10 60 α1 ++ rs_X0 cA q30_16 60 α2) ++ rs_X0 cA q43_22 60 α3) ++ rs_X0 cA q56_28 6 α4) ++ rs_X0 cA q69_34 6 α5)) H := hP
  have hD : va_D (An q s.heap.size) ((q, .inr (2, [.int 0, .int (-1005 : Int32), .int (0 : Int32), .int 0, .int 0, .int 0, .int 0, .int 0, .ref q17_10, .ref q30_16, .ref q43_22, .ref q56_28, .ref q69_34, .null])) :: ((((rs_X0 cA q17_10 60 α1 ++ rs_X0 cA q30_16 60 α2) ++ rs_X0 cA q43_22 60 α3) ++ rs_X0 cA q56_28 6 α4) ++ rs_X0 cA q69_34 6 α5)) := hD
  refine lv_aload_n hx hb dX2_init_81 rfl (lv_at hl 0 rfl) ?_
  refine va_new (ci := 0) (fs := [.null]) (C := RX0) (T := TX0) (N := 1) hx hb hts inX0 tyX0 tyX0_ok hown (hts _ q135) (hts _ q63) (hts _ q38) hKK.1 hP hD hS hA rfl (fun j hj => by rcases (show j = 0 by omega) with rfl <;> rfl) (Nat.le_of_ble_eq_true rfl) (Nat.le_of_ble_eq_true rfl) dX2_init_82 (fun q82_40 H hP hD hS => ?_)
  refine lv_dup hx hb dX2_init_85 rfl ?_
  refine lv_bipush (v := (6 : Int32)) hx hb dX2_init_86 (by decide) ?_
  refine x_INp (As := [.int (6 : Int32)]) hx hb hml hown hts hKK hP hD hS hA (cn_X0 l D cA cT q82_40 6 (6 : Int32) (by decide +kernel) (by decide +kernel) (by decide +kernel)) q136 q65 q38 qi66 rfl yd_X0_init ⟨Nat.le_of_ble_eq_true rfl, Nat.le_of_ble_eq_true rfl⟩ [.ref q82_40, .ref q] rfl (Nat.le_of_ble_eq_true rfl) hl.1 ⟨Nat.le_of_ble_eq_true rfl, Nat.le_of_ble_eq_true rfl⟩ dX2_init_88 (fun α6 H locs hP hD hS => ?_)
  have hP : va_P D vwCl ((q, .inr (2, [.int 0, .int (-1005 : Int32), .int (0 : Int32), .int 0, .int 0, .int 0, .int 0, .int 0, .ref q17_10, .ref q30_16, .ref q43_22, .ref q56_28, .ref q69_34, .null])) :: (((((rs_X0 cA q17_10 60 α1 ++ rs_X0 cA q30_16 60 α2) ++ rs_X0 cA q43_22 60 α3) ++ rs_X0 cA q56_28 6 α4) ++ rs_X0 cA q69_34 6 α5) ++ rs_X0 cA q82_40 6 α6)) H := hP
  have hD : va_D (An q s.heap.size) ((q, .inr (2, [.int 0, .int (-1005 : Int32), .int (0 : Int32), .int 0, .int 0, .int 0, .int 0, .int 0, .ref q17_10, .ref q30_16, .ref q43_22, .ref q56_28, .ref q69_34, .null])) :: (((((rs_X0 cA q17_10 60 α1 ++ rs_X0 cA q30_16 60 α2) ++ rs_X0 cA q43_22 60 α3) ++ rs_X0 cA q56_28 6 α4) ++ rs_X0 cA q69_34 6 α5) ++ rs_X0 cA q82_40 6 α6)) := hD
  refine va_putF (D := D) (ci := 2) (v := .ref q82_40) (ty := .object "PrunedSlices$Cells") (C := RX2) (T := TX2) (N := 14) hx hb hts inX2 tyX2 tyX2_ok nmX2 hown hKK.1 hP hD hS 0 (fs := [.int 0, .int (-1005 : Int32), .int (0 : Int32), .int 0, .int 0, .int 0, .int 0, .int 0, .ref q17_10, .ref q30_16, .ref q43_22, .ref q56_28, .ref q69_34, .null]) rfl rfl 13 (by decide) (hts _ q151) (fun _ h9 => h9) rfl hin rfl (by decide +kernel) rfl rfl (Nat.le_of_ble_eq_true rfl) dX2_init_91 (fun H locs hP hD hS => ?_)
  have hP : va_P D vwCl ((q, .inr (2, [.int 0, .int (-1005 : Int32), .int (0 : Int32), .int 0, .int 0, .int 0, .int 0, .int 0, .ref q17_10, .ref q30_16, .ref q43_22, .ref q56_28, .ref q69_34, .ref q82_40])) :: (((((rs_X0 cA q17_10 60 α1 ++ rs_X0 cA q30_16 60 α2) ++ rs_X0 cA q43_22 60 α3) ++ rs_X0 cA q56_28 6 α4) ++ rs_X0 cA q69_34 6 α5) ++ rs_X0 cA q82_40 6 α6)) H := hP
  have hD : va_D (An q s.heap.size) ((q, .inr (2, [.int 0, .int (-1005 : Int32), .int (0 : Int32), .int 0, .int 0, .int 0, .int 0, .int 0, .ref q17_10, .ref q30_16, .ref q43_22, .ref q56_28, .ref q69_34, .ref q82_40])) :: (((((rs_X0 cA q17_10 60 α1 ++ rs_X0 cA q30_16 60 α2) ++ rs_X0 cA q43_22 60 α3) ++ rs_X0 cA q56_28 6 α4) ++ rs_X0 cA q69_34 6 α5) ++ rs_X0 cA q82_40 6 α6)) := hD
  refine W.widen (k := 12) (n := 204) (Nat.le_of_ble_eq_true rfl) (Nat.le_of_ble_eq_true rfl) ?_
  exact hend (fun k => [q17_10, (α1 0), q30_16, (α2 0), q43_22, (α3 0), q56_28, (α4 0), q69_34, (α5 0), q82_40, (α6 0)].getD k 0) _ _ _ _ dX2_init_94 hP hD hS
