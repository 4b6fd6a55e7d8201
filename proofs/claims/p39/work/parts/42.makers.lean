set_option maxHeartbeats 8000000 in
set_option maxRecDepth 100000 in
theorem cn_X1 (l : Launch) (D : va_G) (cA cT : ClassId) (q : Nat) : CtN l D cA cT yX1_init (Cond.code yX1_init cX1_init 2 none :: lw_all) 4 81 76 6284 q [] (.inr (1, [.null, .null, .int 0, .int 0])) (rs_X1 cA cT q) := by
  refine CtN.of (by decide +kernel) (Nat.le_of_ble_eq_true rfl) rfl ?_
  intro p e s m args below meth c Q ls hx hb hml hown hts hKK hin hP hD hS hA hl hend
  have hl : lv_has ls 2 [(0, .ref q)] := hl
  refine lv_aload_n hx hb dX1_init_0 rfl (lv_at hl 0 rfl) ?_
  refine W.objInit hx hb hown (hts _ q120) (hts _ q50) (hts _ qi51) rfl (hl.1.trans hml.symm) rfl dX1_init_1 (Nat.le_of_ble_eq_true rfl) (Nat.le_of_ble_eq_true rfl) ?_
  refine W.eq (g2 := F0 m 4 ls []) rfl ?_
  refine lv_aload_n hx hb dX1_init_4 rfl (lv_at hl 0 rfl) ?_
  refine lv_iconst (v := (4 : Int32)) hx hb dX1_init_5 (by decide) ?_
  refine x_newT (N' := 4) hx hb hts hown q121 hKK hP hD hS hA (by decide +kernel) (by decide +kernel) (by decide +kernel) (Nat.le_of_ble_eq_true rfl) (Nat.le_of_ble_eq_true rfl) dX1_init_6 (fun q6_5 H hP hD hS => ?_)
  refine va_putF (D := D) (ci := 1) (v := .ref q6_5) (ty := .array (.object "PrunedSlices$Table")) (C := RX1) (T := TX1) (N := 4) hx hb hts inX1 tyX1 tyX1_ok nmX1 hown hKK.1 hP hD hS 0 (fs := [.null, .null, .int 0, .int 0]) rfl rfl 0 (by decide) (hts _ q122) (fun _ h9 => h9) rfl hin rfl (by decide +kernel) rfl rfl (Nat.le_of_ble_eq_true rfl) dX1_init_9 (fun H locs hP hD hS => ?_)
  have hP : va_P D vwCl ((q, .inr (1, [.ref q6_5, .null, .int 0, .int 0])) :: [(q6_5, .inl (cT, 4, .inr (.inr (.inr (.inr (fun _ => none))))))]) H := hP
  have hD : va_D (An q s.heap.size) ((q, .inr (1, [.ref q6_5, .null, .int 0, .int 0])) :: [(q6_5, .inl (cT, 4, .inr (.inr (.inr (.inr (fun _ => none))))))]) := hD
  refine lv_aload_n hx hb dX1_init_12 rfl (lv_at hl 0 rfl) ?_
  refine va_new (ci := 5) (fs := [.null, .null, .int 0, .int 0, .int 0]) (C := RX5) (T := TX5) (N := 5) hx hb hts inX5 tyX5 tyX5_ok hown (hts _ q121) (hts _ q53) (hts _ q36) hKK.1 hP hD hS hA rfl (fun j hj => by rcases (show j = 0 ∨ j = 1 ∨ j = 2 ∨ j = 3 ∨ j = 4 by omega) with rfl | rfl | rfl | rfl | rfl <;> rfl) (Nat.le_of_ble_eq_true rfl) (Nat.le_of_ble_eq_true rfl) dX1_init_13 (fun q13_8 H hP hD hS => ?_)
  refine lv_dup hx hb dX1_init_16 rfl ?_
  refine x_INn (As := []) hx hb hml hown hts hKK hP hD hS hA (cn_X5 l D cA cT q13_8) hKK.2.2.2.2.2.1 q54 q36 qi55 rfl yd_X5_init ⟨Nat.le_of_ble_eq_true rfl, Nat.le_of_ble_eq_true rfl⟩ [.ref q13_8, .ref q] rfl (Nat.le_of_ble_eq_true rfl) hl.1 ⟨Nat.le_of_ble_eq_true rfl, Nat.le_of_ble_eq_true rfl⟩ dX1_init_17 (fun α1 H locs hP hD hS => ?_)
  have hP : va_P D vwCl ((q, .inr (1, [.ref q6_5, .null, .int 0, .int 0])) :: ([(q6_5, .inl (cT, 4, .inr (.inr (.inr (.inr (fun _ => none))))))] ++ rs_X5 cA q13_8 α1)) H := hP
  have hD : va_D (An q s.heap.size) ((q, .inr (1, [.ref q6_5, .null, .int 0, .int 0])) :: ([(q6_5, .inl (cT, 4, .inr (.inr (.inr (.inr (fun _ => none))))))] ++ rs_X5 cA q13_8 α1)) := hD
  refine va_putF (D := D) (ci := 1) (v := .ref q13_8) (ty := .object "PrunedSlices$Table") (C := RX1) (T := TX1) (N := 4) hx hb hts inX1 tyX1 tyX1_ok nmX1 hown hKK.1 hP hD hS 0 (fs := [.ref q6_5, .null, .int 0, .int 0]) rfl rfl 1 (by decide) (hts _ q123) (fun _ h9 => h9) rfl hin rfl (by decide +kernel) rfl rfl (Nat.le_of_ble_eq_true rfl) dX1_init_20 (fun H locs hP hD hS => ?_)
  have hP : va_P D vwCl ((q, .inr (1, [.ref q6_5, .ref q13_8, .int 0, .int 0])) :: ([(q6_5, .inl (cT, 4, .inr (.inr (.inr (.inr (fun _ => none))))))] ++ rs_X5 cA q13_8 α1)) H := hP
  have hD : va_D (An q s.heap.size) ((q, .inr (1, [.ref q6_5, .ref q13_8, .int 0, .int 0])) :: ([(q6_5, .inl (cT, 4, .inr (.inr (.inr (.inr (fun _ => none))))))] ++ rs_X5 cA q13_8 α1)) := hD
  refine lv_iconst (v := (0 : Int32)) hx hb dX1_init_23 (by decide) ?_
  refine lv_istore_n (lv' := [(1, .int (0 : Int32)), (0, .ref q)]) hx hb dX1_init_24 rfl hl (by decide) rfl (fun ls hl => ?_)
  refine lv_iload_n hx hb dX1_init_25 rfl (lv_at hl 0 rfl) ?_
  refine lv_aload_n hx hb dX1_init_26 rfl (lv_at hl 1 rfl) ?_
  refine va_get (D := D) (ci := 1) (v := .ref q6_5) (C := RX1) (T := TX1) (N := 4) hx hb hts inX1 hown hKK.1 hP 0 (fs := [.ref q6_5, .ref q13_8, .int 0, .int 0]) rfl rfl 0 (by decide) (hts _ q122) (fun _ h9 => h9) rfl dX1_init_27 ?_
  refine va_alen hx hb hKK.1 hP 1 1 rfl (ty := .object "PrunedSlices$Table") rfl (v := (4 : Int32)) rfl dX1_init_30 ?_
  refine lv_icmp_ge (tgt := 53) hx hb dX1_init_31 (by decide) (fun hc => absurd hc (by decide)) (fun hc => ?_)
  refine lv_aload_n hx hb dX1_init_34 rfl (lv_at hl 1 rfl) ?_
  refine va_get (D := D) (ci := 1) (v := .ref q6_5) (C := RX1) (T := TX1) (N := 4) hx hb hts inX1 hown hKK.1 hP 0 (fs := [.ref q6_5, .ref q13_8, .int 0, .int 0]) rfl rfl 0 (by decide) (hts _ q122) (fun _ h9 => h9) rfl dX1_init_35 ?_
  refine lv_iload_n hx hb dX1_init_38 rfl (lv_at hl 0 rfl) ?_
  refine va_new (ci := 5) (fs := [.null, .null, .int 0, .int 0, .int 0]) (C := RX5) (T := TX5) (N := 5) hx hb hts inX5 tyX5 tyX5_ok hown (hts _ q121) (hts _ q53) (hts _ q36) hKK.1 hP hD hS hA rfl (fun j hj => by rcases (show j = 0 ∨ j = 1 ∨ j = 2 ∨ j = 3 ∨ j = 4 by omega) with rfl | rfl | rfl | rfl | rfl <;> rfl) (Nat.le_of_ble_eq_true rfl) (Nat.le_of_ble_eq_true rfl) dX1_init_39 (fun q39_22 H hP hD hS => ?_)
  refine lv_dup hx hb dX1_init_42 rfl ?_
  refine x_INn (As := []) hx hb hml hown hts hKK hP hD hS hA (cn_X5 l D cA cT q39_22) hKK.2.2.2.2.2.1 q54 q36 qi55 rfl yd_X5_init ⟨Nat.le_of_ble_eq_true rfl, Nat.le_of_ble_eq_true rfl⟩ [.ref q39_22, .int (0 : Int32), .ref q6_5] rfl (Nat.le_of_ble_eq_true rfl) hl.1 ⟨Nat.le_of_ble_eq_true rfl, Nat.le_of_ble_eq_true rfl⟩ dX1_init_43 (fun α2 H locs hP hD hS => ?_)
  have hP : va_P D vwCl ((q, .inr (1, [.ref q6_5, .ref q13_8, .int 0, .int 0])) :: (([(q6_5, .inl (cT, 4, .inr (.inr (.inr (.inr (fun _ => none))))))] ++ rs_X5 cA q13_8 α1) ++ rs_X5 cA q39_22 α2)) H := hP
  have hD : va_D (An q s.heap.size) ((q, .inr (1, [.ref q6_5, .ref q13_8, .int 0, .int 0])) :: (([(q6_5, .inl (cT, 4, .inr (.inr (.inr (.inr (fun _ => none))))))] ++ rs_X5 cA q13_8 α1) ++ rs_X5 cA q39_22 α2)) := hD
  refine va_astq (ci := 5) (r := (RX5, TX5, 5)) hx hb hKK.1 hP hD hS 1 1 17 rfl rfl rfl rfl (by unfold vp_in; decide) dX1_init_46 (fun H locs hP hD hS => ?_)
  have hP : va_P D vwCl ((q, .inr (1, [.ref q6_5, .ref q13_8, .int 0, .int 0])) :: (([(q6_5, .inl (cT, 4, .inr (.inr (.inr (.inr (va_up (fun _ => none) ((0 : Int32)).toNatClampNeg (some q39_22)))))))] ++ rs_X5 cA q13_8 α1) ++ rs_X5 cA q39_22 α2)) H := hP
  have hD : va_D (An q s.heap.size) ((q, .inr (1, [.ref q6_5, .ref q13_8, .int 0, .int 0])) :: (([(q6_5, .inl (cT, 4, .inr (.inr (.inr (.inr (va_up (fun _ => none) ((0 : Int32)).toNatClampNeg (some q39_22)))))))] ++ rs_X5 cA q13_8 α1) ++ rs_X5 cA q39_22 α2)) := hD
  refine lv_iinc (v := (1 : Int32)) (lv' := [(1, .int (1 : Int32)), (0, .ref q)]) hx hb dX1_init_47 hl (k := 0) rfl rfl (by decide) rfl (fun ls hl => ?_)
  refine lv_goto (tgt := 25) hx hb dX1_init_50 (by decide) ?_
  refine lv_iload_n hx hb dX1_init_25 rfl (lv_at hl 0 rfl) ?_
  refine lv_aload_n hx hb dX1_init_26 rfl (lv_at hl 1 rfl) ?_
  refine va_get (D := D) (ci := 1) (v := .ref q6_5) (C := RX1) (T := TX1) (N := 4) hx hb hts inX1 hown hKK.1 hP 0 (fs := [.ref q6_5, .ref q13_8, .int 0, .int 0]) rfl rfl 0 (by decide) (hts _ q122) (fun _ h9 => h9) rfl dX1_init_27 ?_
  refine va_alen hx hb hKK.1 hP 1 1 rfl (ty := .object "PrunedSlices$Table") rfl (v := (4 : Int32)) rfl dX1_init_30 ?_
  refine lv_icmp_ge (tgt := 53) hx hb dX1_init_31 (by decide) (fun hc => absurd hc (by decide)) (fun hc => ?_)
  refine lv_aload_n hx hb dX1_init_34 rfl (lv_at hl 1 rfl) ?_
  refine va_get (D := D) (ci := 1) (v := .ref q6_5) (C := RX1) (T := TX1) (N := 4) hx hb hts inX1 hown hKK.1 hP 0 (fs := [.ref q6_5, .ref q13_8, .int 0, .int 0]) rfl rfl 0 (by decide) (hts _ q122) (fun _ h9 => h9) rfl dX1_init_35 ?_
  refine lv_iload_n hx hb dX1_init_38 rfl (lv_at hl 0 rfl) ?_
  refine va_new (ci := 5) (fs := [.null, .null, .int 0, .int 0, .int 0]) (C := RX5) (T := TX5) (N := 5) hx hb hts inX5 tyX5 tyX5_ok hown (hts _ q121) (hts _ q53) (hts _ q36) hKK.1 hP hD hS hA rfl (fun j hj => by rcases (show j = 0 ∨ j = 1 ∨ j = 2 ∨ j = 3 ∨ j = 4 by omega) with rfl | rfl | rfl | rfl | rfl <;> rfl) (Nat.le_of_ble_eq_true rfl) (Nat.le_of_ble_eq_true rfl) dX1_init_39 (fun q39_36 H hP hD hS => ?_)
  refine lv_dup hx hb dX1_init_42 rfl ?_
  refine x_INn (As := []) hx hb hml hown hts hKK hP hD hS hA (cn_X5 l D cA cT q39_36) hKK.2.2.2.2.2.1 q54 q36 qi55 rfl yd_X5_init ⟨Nat.le_of_ble_eq_true rfl, Nat.le_of_ble_eq_true rfl⟩ [.ref q39_36, .int (1 : Int32), .ref q6_5] rfl (Nat.le_of_ble_eq_true rfl) hl.1 ⟨Nat.le_of_ble_eq_true rfl, Nat.le_of_ble_eq_true rfl⟩ dX1_init_43 (fun α3 H locs hP hD hS => ?_)
  have hP : va_P D vwCl ((q, .inr (1, [.ref q6_5, .ref q13_8, .int 0, .int 0])) :: ((([(q6_5, .inl (cT, 4, .inr (.inr (.inr (.inr (va_up (fun _ => none) ((0 : Int32)).toNatClampNeg (some q39_22)))))))] ++ rs_X5 cA q13_8 α1) ++ rs_X5 cA q39_22 α2) ++ rs_X5 cA q39_36 α3)) H := hP
  have hD : va_D (An q s.heap.size) ((q, .inr (1, [.ref q6_5, .ref q13_8, .int 0, .int 0])) :: ((([(q6_5, .inl (cT, 4, .inr (.inr (.inr (.inr (va_up (fun _ => none) ((0 : Int32)).toNatClampNeg (some q39_22)))))))] ++ rs_X5 cA q13_8 α1) ++ rs_X5 cA q39_22 α2) ++ rs_X5 cA q39_36 α3)) := hD
  refine va_astq (ci := 5) (r := (RX5, TX5, 5)) hx hb hKK.1 hP hD hS 1 1 32 rfl rfl rfl rfl (by unfold vp_in; decide) dX1_init_46 (fun H locs hP hD hS => ?_)
  have hP : va_P D vwCl ((q, .inr (1, [.ref q6_5, .ref q13_8, .int 0, .int 0])) :: ((([(q6_5, .inl (cT, 4, .inr (.inr (.inr (.inr (va_up (va_up (fun _ => none) ((0 : Int32)).toNatClampNeg (some q39_22)) ((1 : Int32)).toNatClampNeg (some q39_36)))))))] ++ rs_X5 cA q13_8 α1) ++ rs_X5 cA q39_22 α2) ++ rs_X5 cA q39_36 α3)) H := hP
  have hD : va_D (An q s.heap.size) ((q, .inr (1, [.ref q6_5, .ref q13_8, .int 0, .int 0])) :: ((([(q6_5, .inl (cT, 4, .inr (.inr (.inr (.inr (va_up (va_up (fun _ => none) ((0 : Int32)).toNatClampNeg (some q39_22)) ((1 : Int32)).toNatClampNeg (some q39_36)))))))] ++ rs_X5 cA q13_8 α1) ++ rs_X5 cA q39_22 α2) ++ rs_X5 cA q39_36 α3)) := hD
  refine lv_iinc (v := (2 : Int32)) (lv' := [(1, .int (2 : Int32)), (0, .ref q)]) hx hb dX1_init_47 hl (k := 0) rfl rfl (by decide) rfl (fun ls hl => ?_)
  refine lv_goto (tgt := 25) hx hb dX1_init_50 (by decide) ?_
  refine lv_iload_n hx hb dX1_init_25 rfl (lv_at hl 0 rfl) ?_
  refine lv_aload_n hx hb dX1_init_26 rfl (lv_at hl 1 rfl) ?_
  refine va_get (D := D) (ci := 1) (v := .ref q6_5) (C := RX1) (T := TX1) (N := 4) hx hb hts inX1 hown hKK.1 hP 0 (fs := [.ref q6_5, .ref q13_8, .int 0, .int 0]) rfl rfl 0 (by decide) (hts _ q122) (fun _ h9 => h9) rfl dX1_init_27 ?_
  refine va_alen hx hb hKK.1 hP 1 1 rfl (ty := .object "PrunedSlices$Table") rfl (v := (4 : Int32)) rfl dX1_init_30 ?_
  refine lv_icmp_ge (tgt := 53) hx hb dX1_init_31 (by decide) (fun hc => absurd hc (by decide)) (fun hc => ?_)
  refine lv_aload_n hx hb dX1_init_34 rfl (lv_at hl 1 rfl) ?_
  refine va_get (D := D) (ci := 1) (v := .ref q6_5) (C := RX1) (T := TX1) (N := 4) hx hb hts inX1 hown hKK.1 hP 0 (fs := [.ref q6_5, .ref q13_8, .int 0, .int 0]) rfl rfl 0 (by decide) (hts _ q122) (fun _ h9 => h9) rfl dX1_init_35 ?_
  refine lv_iload_n hx hb dX1_init_38 rfl (lv_at hl 0 rfl) ?_
  refine va_new (ci := 5) (fs := [.null, .null, .int 0, .int 0, .int 0]) (C := RX5) (T := TX5) (N := 5) hx hb hts inX5 tyX5 tyX5_ok hown (hts _ q121) (hts _ q53) (hts _ q36) hKK.1 hP hD hS hA rfl (fun j hj => by rcases (show j = 0 ∨ j = 1 ∨ j = 2 ∨ j = 3 ∨ j = 4 by omega) with rfl | rfl | rfl | rfl | rfl <;> rfl) (Nat.le_of_ble_eq_true rfl) (Nat.le_of_ble_eq_true rfl) dX1_init_39 (fun q39_50 H hP hD hS => ?_)
  refine lv_dup hx hb dX1_init_42 rfl ?_
  refine x_INn (As := []) hx hb hml hown hts hKK hP hD hS hA (cn_X5 l D cA cT q39_50) hKK.2.2.2.2.2.1 q54 q36 qi55 rfl yd_X5_init ⟨Nat.le_of_ble_eq_true rfl, Nat.le_of_ble_eq_true rfl⟩ [.ref q39_50, .int (2 : Int32), .ref q6_5] rfl (Nat.le_of_ble_eq_true rfl) hl.1 ⟨Nat.le_of_ble_eq_true rfl, Nat.le_of_ble_eq_true rfl⟩ dX1_init_43 (fun α4 H locs hP hD hS => ?_)
  have hP : va_P D vwCl ((q, .inr (1, [.ref q6_5, .ref q13_8, .int 0, .int 0])) :: (((([(q6_5, .inl (cT, 4, .inr (.inr (.inr (.inr (va_up (va_up (fun _ => none) ((0 : Int32)).toNatClampNeg (some q39_22)) ((1 : Int32)).toNatClampNeg (some q39_36)))))))] ++ rs_X5 cA q13_8 α1) ++ rs_X5 cA q39_22 α2) ++ rs_X5 cA q39_36 α3) ++ rs_X5 cA q39_50 α4)) H := hP
  have hD : va_D (An q s.heap.size) ((q, .inr (1, [.ref q6_5, .ref q13_8, .int 0, .int 0])) :: (((([(q6_5, .inl (cT, 4, .inr (.inr (.inr (.inr (va_up (va_up (fun _ => none) ((0 : Int32)).toNatClampNeg (some q39_22)) ((1 : Int32)).toNatClampNeg (some q39_36)))))))] ++ rs_X5 cA q13_8 α1) ++ rs_X5 cA q39_22 α2) ++ rs_X5 cA q39_36 α3) ++ rs_X5 cA q39_50 α4)) := hD
  refine va_astq (ci := 5) (r := (RX5, TX5, 5)) hx hb hKK.1 hP hD hS 1 1 47 rfl rfl rfl rfl (by unfold vp_in; decide) dX1_init_46 (fun H locs hP hD hS => ?_)
  have hP : va_P D vwCl ((q, .inr (1, [.ref q6_5, .ref q13_8, .int 0, .int 0])) :: (((([(q6_5, .inl (cT, 4, .inr (.inr (.inr (.inr (va_up (va_up (va_up (fun _ => none) ((0 : Int32)).toNatClampNeg (some q39_22)) ((1 : Int32)).toNatClampNeg (some q39_36)) ((2 : Int32)).toNatClampNeg (some q39_50)))))))] ++ rs_X5 cA q13_8 α1) ++ rs_X5 cA q39_22 α2) ++ rs_X5 cA q39_36 α3) ++ rs_X5 cA q39_50 α4)) H := hP
  have hD : va_D (An q s.heap.size) ((q, .inr (1, [.ref q6_5, .ref q13_8, .int 0, .int 0])) :: (((([(q6_5, .inl (cT, 4, .inr (.inr (.inr (.inr (va_up (va_up (va_up (fun _ => none) ((0 : Int32)).toNatClampNeg (some q39_22)) ((1 : Int32)).toNatClampNeg (some q39_36)) ((2 : Int32)).toNatClampNeg (some q39_50)))))))] ++ rs_X5 cA q13_8 α1) ++ rs_X5 cA q39_22 α2) ++ rs_X5 cA q39_36 α3) ++ rs_X5 cA q39_50 α4)) := hD
  refine lv_iinc (v := (3 : Int32)) (lv' := [(1, .int (3 : Int32)), (0, .ref q)]) hx hb dX1_init_47 hl (k := 0) rfl rfl (by decide) rfl (fun ls hl => ?_)
  refine lv_goto (tgt := 25) hx hb dX1_init_50 (by decide) ?_
  refine lv_iload_n hx hb dX1_init_25 rfl (lv_at hl 0 rfl) ?_
  refine lv_aload_n hx hb dX1_init_26 rfl (lv_at hl 1 rfl) ?_
  refine va_get (D := D) (ci := 1) (v := .ref q6_5) (C := RX1) (T := TX1) (N := 4) hx hb hts inX1 hown hKK.1 hP 0 (fs := [.ref q6_5, .ref q13_8, .int 0, .int 0]) rfl rfl 0 (by decide) (hts _ q122) (fun _ h9 => h9) rfl dX1_init_27 ?_
  refine va_alen hx hb hKK.1 hP 1 1 rfl (ty := .object "PrunedSlices$Table") rfl (v := (4 : Int32)) rfl dX1_init_30 ?_
  refine lv_icmp_ge (tgt := 53) hx hb dX1_init_31 (by decide) (fun hc => absurd hc (by decide)) (fun hc => ?_)
  refine lv_aload_n hx hb dX1_init_34 rfl (lv_at hl 1 rfl) ?_
  refine va_get (D := D) (ci := 1) (v := .ref q6_5) (C := RX1) (T := TX1) (N := 4) hx hb hts inX1 hown hKK.1 hP 0 (fs := [.ref q6_5, .ref q13_8, .int 0, .int 0]) rfl rfl 0 (by decide) (hts _ q122) (fun _ h9 => h9) rfl dX1_init_35 ?_
  refine lv_iload_n hx hb dX1_init_38 rfl (lv_at hl 0 rfl) ?_
  refine va_new (ci := 5) (fs := [.null, .null, .int 0, .int 0, .int 0]) (C := RX5) (T := TX5) (N := 5) hx hb hts inX5 tyX5 tyX5_ok hown (hts _ q121) (hts _ q53) (hts _ q36) hKK.1 hP hD hS hA rfl (fun j hj => by rcases (show j = 0 ∨ j = 1 ∨ j = 2 ∨ j = 3 ∨ j = 4 by omega) with rfl | rfl | rfl | rfl | rfl <;> rfl) (Nat.le_of_ble_eq_true rfl) (Nat.le_of_ble_eq_true rfl) dX1_init_39 (fun q39_64 H hP hD hS => ?_)
  refine lv_dup hx hb dX1_init_42 rfl ?_
  refine x_INn (As := []) hx hb hml hown hts hKK hP hD hS hA (cn_X5 l D cA cT q39_64) hKK.2.2.2.2.2.1 q54 q36 qi55 rfl yd_X5_init ⟨Nat.le_of_ble_eq_true rfl, Nat.le_of_ble_eq_true rfl⟩ [.ref q39_64, .int (3 : Int32), .ref q6_5] rfl (Nat.le_of_ble_eq_true rfl) hl.1 ⟨Nat.le_of_ble_eq_true rfl, Nat.le_of_ble_eq_true rfl⟩ dX1_init_43 (fun α5 H locs hP hD hS => ?_)
  have hP : va_P D vwCl ((q, .inr (1, [.ref q6_5, .ref q13_8, .int 0, .int 0])) :: ((((([(q6_5, .inl (cT, 4, .inr (.inr (.inr (.inr (va_up (va_up (va_up (fun _ => none) ((0 : Int32)).toNatClampNeg (some q39_22)) ((1 : Int32)).toNatClampNeg (some q39_36)) ((2 : Int32)).toNatClampNeg (some q39_50)))))))] ++ rs_X5 cA q13_8 α1) ++ rs_X5 cA q39_22 α2) ++ rs_X5 cA q39_36 α3) ++ rs_X5 cA q39_50 α4) ++ rs_X5 cA q39_64 α5)) H := hP
  have hD : va_D (An q s.heap.size) ((q, .inr (1, [.ref q6_5, .ref q13_8, .int 0, .int 0])) :: ((((([(q6_5, .inl (cT, 4, .inr (.inr (.inr (.inr (va_up (va_up (va_up (fun _ => none) ((0 : Int32)).toNatClampNeg (some q39_22)) ((1 : Int32)).toNatClampNeg (some q39_36)) ((2 : Int32)).toNatClampNeg (some q39_50)))))))] ++ rs_X5 cA q13_8 α1) ++ rs_X5 cA q39_22 α2) ++ rs_X5 cA q39_36 α3) ++ rs_X5 cA q39_50 α4) ++ rs_X5 cA q39_64 α5)) := hD
  refine va_astq (ci := 5) (r := (RX5, TX5, 5)) hx hb hKK.1 hP hD hS 1 1 62 rfl rfl rfl rfl (by unfold vp_in; decide) dX1_init_46 (fun H locs hP hD hS => ?_)
  have hP : va_P D vwCl ((q, .inr (1, [.ref q6_5, .ref q13_8, .int 0, .int 0])) :: ((((([(q6_5, .inl (cT, 4, .inr (.inr (.inr (.inr (va_up (va_up (va_up (va_up (fun _ => none) ((0 : Int32)).toNatClampNeg (some q39_22)) ((1 : Int32)).toNatClampNeg (some q39_36)) ((2 : Int32)).toNatClampNeg (some q39_50)) ((3 : Int32)).toNatClampNeg (some q39_64)))))))] ++ rs_X5 cA q13_8 α1) ++ rs_X5 cA q39_22 α2) ++ rs_X5 cA q39_36 α3) ++ rs_X5 cA q39_50 α4) ++ rs_X5 cA q39_64 α5)) H := hP
  have hD : va_D (An q s.heap.size) ((q, .inr (1, [.ref q6_5, .ref q13_8, .int 0, .int 0])) :: ((((([(q6_5, .inl (cT, 4, .inr (.inr (.inr (.inr (va_up (va_up (va_up (va_up (fun _ => none) ((0 : Int32)).toNatClampNeg (some q39_22)) ((1 : Int32)).toNatClampNeg (some q39_36)) ((2 : Int32)).toNatClampNeg (some q39_50)) ((3 : Int32)).toNatClampNeg (some q39_64)))))))] ++ rs_X5 cA q13_8 α1) ++ rs_X5 cA q39_22 α2) ++ rs_X5 cA q39_36 α3) ++ rs_X5 cA q39_50 α4) ++ rs_X5 cA q39_64 α5)) := hD
  refine lv_iinc (v := (4 : Int32)) (lv' := [(1, .int (4 : Int32)), (0, .ref q)]) hx hb dX1_init_47 hl (k := 0) rfl rfl (by decide) rfl (fun ls hl => ?_)
  refine lv_goto (tgt := 25) hx hb dX1_init_50 (by decide) ?_
  refine lv_iload_n hx hb dX1_init_25 rfl (lv_at hl 0 rfl) ?_
  refine lv_aload_n hx hb dX1_init_26 rfl (lv_at hl 1 rfl) ?_
  refine va_get (D := D) (ci := 1) (v := .ref q6_5) (C := RX1) (T := TX1) (N := 4) hx hb hts inX1 hown hKK.1 hP 0 (fs := [.ref q6_5, .ref q13_8, .int 0, .int 0]) rfl rfl 0 (by decide) (hts _ q122) (fun _ h9 => h9) rfl dX1_init_27 ?_
  refine va_alen hx hb hKK.1 hP 1 1 rfl (ty := .object "PrunedSlices$Table") rfl (v := (4 : Int32)) rfl dX1_init_30 ?_
  refine lv_icmp_ge (tgt := 53) hx hb dX1_init_31 (by decide) (fun hc => ?_) (fun hc => absurd (by decide) hc)
  refine W.widen (k := 76) (n := 6284) (Nat.le_of_ble_eq_true rfl) (Nat.le_of_ble_eq_true rfl) ?_
  exact hend (fun k => [q6_5, q13_8, (α1 0), (α1 1), (α1 2), (α1 3), (α1 4), (α1 5), (α1 6), (α1 7), (α1 8), (α1 9), (α1 10), (α1 11), (α1 12), (α1 13), q39_22, (α2 0), (α2 1), (α2 2), (α2 3), (α2 4), (α2 5), (α2 6), (α2 7), (α2 8), (α2 9), (α2 10), (α2 11), (α2 12), (α2 13), q39_36, (α3 0), (α3 1), (α3 2), (α3 3), (α3 4), (α3 5), (α3 6), (α3 7), (α3 8), (α3 9), (α3 10), (α3 11), (α3 12), (α3 13), q39_50, (α4 0), (α4 1), (α4 2), (α4 3), (α4 4), (α4 5), (α4 6), (α4 7), (α4 8), (α4 9), (α4 10), (α4 11), (α4 12), (α4 13), q39_64, (α5 0), (α5 1), (α5 2), (α5 3), (α5 4), (α5 5), (α5 6), (α5 7), (α5 8), (α5 9), (α5 10), (α5 11), (α5 12), (α5 13)].getD k 0) _ _ _ _ dX1_init_53 hP hD hS
