set_option maxHeartbeats 4000000 in
set_option maxRecDepth 100000 in
theorem ct_X2_addTruth (l : Launch) (D : va_G) (a : Nat → Nat) (cA cT : ClassId) (hI : WI a TC) (g : MG) (x0 : Int32) (x1 : Int32)  (g' : MG) (h : m_X2_addTruth g x0 x1 = some g') :
    CtV l D a cA cT TC yX2_addTruth (Cond.code yX2_addTruth cX2_addTruth 4 none :: lw_all) (rmm 1 26) [.ref (a 3), .int x0, .int x1] g g' := by
  refine CtV.of (by decide +kernel) (Nat.le_of_ble_eq_true rfl) ?_
  intro p e s m args below meth c Q ls hx hb hml hown hts hK hP hS hl hend
  have hl : lv_has ls 4 [(0, .ref (a 3)), (1, .int x0), (2, .int x1)] := hl
  unfold m_X2_addTruth at h
  refine lv_aload_n hx hb dX2_addTruth_0 rfl (lv_at hl 0 rfl) ?_
  refine x_getr hx hb hts inX2 hown hK hP tF_3 (C := RX2) (F := TX2) (N := 14) rfl 13 (by decide) q151 rfl 18 rfl dX2_addTruth_1 ?_
  refine lv_iload_n hx hb dX2_addTruth_4 rfl (lv_at hl 1 rfl) ?_
  obtain ⟨r5, hcal, h⟩ := bnd_s h
  refine x_VI (As := [.int x0]) hx hb hml hown hts hK hP hS (ct_X0_at l D a cA cT hI g 19 6 x0 18 tF_18 tF_19 r5 hcal) tF_18 (C := RX0) (F := TX0) (N := 1) rfl (g_V q653 q229 q230 q38 q231) yd_X0_at ⟨Nat.le_of_ble_eq_true rfl, Nat.le_of_ble_eq_true rfl⟩ [] rfl (Nat.le_of_ble_eq_true rfl) hl.1 ⟨Nat.le_refl _, Nat.le_refl _⟩ dX2_addTruth_5 (fun H locs hP hS => ?_)
  refine lv_iconst (v := (1 : Int32)) hx hb dX2_addTruth_8 (by decide) ?_
  refine lv_icmp_ne (tgt := 18) hx hb dX2_addTruth_9 (by decide) (fun hc => ?_) (fun hc => ?_)
  · have h := ite_f hc h
    refine lv_iload_n hx hb dX2_addTruth_18 rfl (lv_at hl 2 rfl) ?_
    refine lv_istore_n (lv' := [(3, .int x1), (0, .ref (a 3)), (1, .int x0), (2, .int x1)]) hx hb dX2_addTruth_19 rfl hl (by decide) rfl (fun ls hl => ?_)
    refine lv_aload_n hx hb dX2_addTruth_20 rfl (lv_at hl 1 rfl) ?_
    refine x_getr hx hb hts inX2 hown hK hP tF_3 (C := RX2) (F := TX2) (N := 14) rfl 12 (by decide) q150 rfl 16 rfl dX2_addTruth_21 ?_
    refine lv_iload_n hx hb dX2_addTruth_24 rfl (lv_at hl 2 rfl) ?_
    refine lv_aload_n hx hb dX2_addTruth_25 rfl (lv_at hl 1 rfl) ?_
    refine x_getr hx hb hts inX2 hown hK hP tF_3 (C := RX2) (F := TX2) (N := 14) rfl 12 (by decide) q150 rfl 16 rfl dX2_addTruth_26 ?_
    refine lv_iload_n hx hb dX2_addTruth_29 rfl (lv_at hl 2 rfl) ?_
    obtain ⟨r30, hcal, h⟩ := bnd_s h
    refine x_VI (As := [.int x0]) hx hb hml hown hts hK hP hS (ct_X0_at l D a cA cT hI g 17 6 x0 16 tF_16 tF_17 r30 hcal) tF_16 (C := RX0) (F := TX0) (N := 1) rfl (g_V q653 q229 q230 q38 q231) yd_X0_at ⟨Nat.le_of_ble_eq_true rfl, Nat.le_of_ble_eq_true rfl⟩ [.int x0, .ref (a 16)] rfl (Nat.le_of_ble_eq_true rfl) hl.1 ⟨Nat.le_refl _, Nat.le_refl _⟩ dX2_addTruth_30 (fun H locs hP hS => ?_)
    refine lv_iload_n hx hb dX2_addTruth_33 rfl (lv_at hl 0 rfl) ?_
    refine va_mmin hx hb (hml.trans hl.1.symm) hown (hts _ q663) (hts _ q202) (hts _ q42) (hts _ q203) (Nat.le_of_ble_eq_true rfl) (Nat.le_of_ble_eq_true rfl) (Nat.le_refl _) (Nat.le_refl _) dX2_addTruth_34 ?_
    obtain ⟨g37, hcal, h⟩ := bnd_s h
    refine x_VV (As := [.int x0, .int (if x1 < r30 then x1 else r30)]) hx hb hml hown hts hK hP hS (ct_X0_write l D a cA cT hI g 17 6 x0 (if x1 < r30 then x1 else r30) 16 tF_16 tF_17 g37 hcal) tF_16 (C := RX0) (F := TX0) (N := 1) rfl (g_V q612 q424 q425 q38 q426) yd_X0_write ⟨Nat.le_of_ble_eq_true rfl, Nat.le_of_ble_eq_true rfl⟩ [] rfl (Nat.le_of_ble_eq_true rfl) hl.1 ⟨Nat.le_refl _, Nat.le_refl _⟩ dX2_addTruth_37 (fun H locs hP hS => ?_)
    refine lv_aload_n hx hb dX2_addTruth_40 rfl (lv_at hl 1 rfl) ?_
    refine x_getr hx hb hts inX2 hown hK hP tF_3 (C := RX2) (F := TX2) (N := 14) rfl 13 (by decide) q151 rfl 18 rfl dX2_addTruth_41 ?_
    refine lv_iload_n hx hb dX2_addTruth_44 rfl (lv_at hl 2 rfl) ?_
    refine lv_iconst (v := (0 : Int32)) hx hb dX2_addTruth_45 (by decide) ?_
    obtain ⟨g46, hcal, h⟩ := bnd_s h
    refine x_VV (As := [.int x0, .int (0 : Int32)]) hx hb hml hown hts hK hP hS (ct_X0_write l D a cA cT hI g37 19 6 x0 (0 : Int32) 18 tF_18 tF_19 g46 hcal) tF_18 (C := RX0) (F := TX0) (N := 1) rfl (g_V q612 q424 q425 q38 q426) yd_X0_write ⟨Nat.le_of_ble_eq_true rfl, Nat.le_of_ble_eq_true rfl⟩ [] rfl (Nat.le_of_ble_eq_true rfl) hl.1 ⟨Nat.le_refl _, Nat.le_refl _⟩ dX2_addTruth_46 (fun H locs hP hS => ?_)
    obtain rfl := Option.some.inj h
    exact hend _ _ _ _ dX2_addTruth_49 hP hS
  · have h := ite_t hc h
    refine lv_iconst (v := (2 : Int32)) hx hb dX2_addTruth_12 (by decide) ?_
    refine lv_iload_n hx hb dX2_addTruth_13 rfl (lv_at hl 2 rfl) ?_
    refine lv_isub hx hb dX2_addTruth_14 ?_
    refine lv_goto (tgt := 19) hx hb dX2_addTruth_15 (by decide) ?_
    refine lv_istore_n (lv' := [(3, .int ((2 : Int32) - x1)), (0, .ref (a 3)), (1, .int x0), (2, .int x1)]) hx hb dX2_addTruth_19 rfl hl (by decide) rfl (fun ls hl => ?_)
    refine lv_aload_n hx hb dX2_addTruth_20 rfl (lv_at hl 1 rfl) ?_
    refine x_getr hx hb hts inX2 hown hK hP tF_3 (C := RX2) (F := TX2) (N := 14) rfl 12 (by decide) q150 rfl 16 rfl dX2_addTruth_21 ?_
    refine lv_iload_n hx hb dX2_addTruth_24 rfl (lv_at hl 2 rfl) ?_
    refine lv_aload_n hx hb dX2_addTruth_25 rfl (lv_at hl 1 rfl) ?_
    refine x_getr hx hb hts inX2 hown hK hP tF_3 (C := RX2) (F := TX2) (N := 14) rfl 12 (by decide) q150 rfl 16 rfl dX2_addTruth_26 ?_
    refine lv_iload_n hx hb dX2_addTruth_29 rfl (lv_at hl 2 rfl) ?_
    obtain ⟨r30, hcal, h⟩ := bnd_s h
    refine x_VI (As := [.int x0]) hx hb hml hown hts hK hP hS (ct_X0_at l D a cA cT hI g 17 6 x0 16 tF_16 tF_17 r30 hcal) tF_16 (C := RX0) (F := TX0) (N := 1) rfl (g_V q653 q229 q230 q38 q231) yd_X0_at ⟨Nat.le_of_ble_eq_true rfl, Nat.le_of_ble_eq_true rfl⟩ [.int x0, .ref (a 16)] rfl (Nat.le_of_ble_eq_true rfl) hl.1 ⟨Nat.le_refl _, Nat.le_refl _⟩ dX2_addTruth_30 (fun H locs hP hS => ?_)
    refine lv_iload_n hx hb dX2_addTruth_33 rfl (lv_at hl 0 rfl) ?_
    refine va_mmin hx hb (hml.trans hl.1.symm) hown (hts _ q663) (hts _ q202) (hts _ q42) (hts _ q203) (Nat.le_of_ble_eq_true rfl) (Nat.le_of_ble_eq_true rfl) (Nat.le_refl _) (Nat.le_refl _) dX2_addTruth_34 ?_
    obtain ⟨g37, hcal, h⟩ := bnd_s h
    refine x_VV (As := [.int x0, .int (if ((2 : Int32) - x1) < r30 then ((2 : Int32) - x1) else r30)]) hx hb hml hown hts hK hP hS (ct_X0_write l D a cA cT hI g 17 6 x0 (if ((2 : Int32) - x1) < r30 then ((2 : Int32) - x1) else r30) 16 tF_16 tF_17 g37 hcal) tF_16 (C := RX0) (F := TX0) (N := 1) rfl (g_V q612 q424 q425 q38 q426) yd_X0_write ⟨Nat.le_of_ble_eq_true rfl, Nat.le_of_ble_eq_true rfl⟩ [] rfl (Nat.le_of_ble_eq_true rfl) hl.1 ⟨Nat.le_refl _, Nat.le_refl _⟩ dX2_addTruth_37 (fun H locs hP hS => ?_)
    refine lv_aload_n hx hb dX2_addTruth_40 rfl (lv_at hl 1 rfl) ?_
    refine x_getr hx hb hts inX2 hown hK hP tF_3 (C := RX2) (F := TX2) (N := 14) rfl 13 (by decide) q151 rfl 18 rfl dX2_addTruth_41 ?_
    refine lv_iload_n hx hb dX2_addTruth_44 rfl (lv_at hl 2 rfl) ?_
    refine lv_iconst (v := (0 : Int32)) hx hb dX2_addTruth_45 (by decide) ?_
    obtain ⟨g46, hcal, h⟩ := bnd_s h
    refine x_VV (As := [.int x0, .int (0 : Int32)]) hx hb hml hown hts hK hP hS (ct_X0_write l D a cA cT hI g37 19 6 x0 (0 : Int32) 18 tF_18 tF_19 g46 hcal) tF_18 (C := RX0) (F := TX0) (N := 1) rfl (g_V q612 q424 q425 q38 q426) yd_X0_write ⟨Nat.le_of_ble_eq_true rfl, Nat.le_of_ble_eq_true rfl⟩ [] rfl (Nat.le_of_ble_eq_true rfl) hl.1 ⟨Nat.le_refl _, Nat.le_refl _⟩ dX2_addTruth_46 (fun H locs hP hS => ?_)
    obtain rfl := Option.some.inj h
    exact hend _ _ _ _ dX2_addTruth_49 hP hS
set_option maxHeartbeats 4000000 in
set_option maxRecDepth 100000 in
theorem ct_X2_endPart (l : Launch) (D : va_G) (a : Nat → Nat) (cA cT : ClassId) (hI : WI a TC) (g : MG) (x0 : Int32)  (g' : MG) (h : m_X2_endPart g x0 = some g') :
    CtV l D a cA cT TC yX2_endPart (Cond.code yX2_endPart cX2_endPart 2 none :: lw_all) (rmm 1 26) [.ref (a 3), .int x0] g g' := by
  refine CtV.of (by decide +kernel) (Nat.le_of_ble_eq_true rfl) ?_
  intro p e s m args below meth c Q ls hx hb hml hown hts hK hP hS hl hend
  have hl : lv_has ls 2 [(0, .ref (a 3)), (1, .int x0)] := hl
  unfold m_X2_endPart at h
  refine lv_aload_n hx hb dX2_endPart_0 rfl (lv_at hl 0 rfl) ?_
  refine x_getr hx hb hts inX2 hown hK hP tF_3 (C := RX2) (F := TX2) (N := 14) rfl 11 (by decide) q149 rfl 14 rfl dX2_endPart_1 ?_
  refine lv_iload_n hx hb dX2_endPart_4 rfl (lv_at hl 1 rfl) ?_
  refine lv_aload_n hx hb dX2_endPart_5 rfl (lv_at hl 0 rfl) ?_
  refine x_getr hx hb hts inX2 hown hK hP tF_3 (C := RX2) (F := TX2) (N := 14) rfl 11 (by decide) q149 rfl 14 rfl dX2_endPart_6 ?_
  refine lv_iload_n hx hb dX2_endPart_9 rfl (lv_at hl 1 rfl) ?_
  obtain ⟨r10, hcal, h⟩ := bnd_s h
  refine x_VI (As := [.int x0]) hx hb hml hown hts hK hP hS (ct_X0_at l D a cA cT hI g 15 6 x0 14 tF_14 tF_15 r10 hcal) tF_14 (C := RX0) (F := TX0) (N := 1) rfl (g_V q653 q229 q230 q38 q231) yd_X0_at ⟨Nat.le_of_ble_eq_true rfl, Nat.le_of_ble_eq_true rfl⟩ [.int x0, .ref (a 14)] rfl (Nat.le_of_ble_eq_true rfl) hl.1 ⟨Nat.le_refl _, Nat.le_refl _⟩ dX2_endPart_10 (fun H locs hP hS => ?_)
  refine lv_aload_n hx hb dX2_endPart_13 rfl (lv_at hl 0 rfl) ?_
  refine x_getr hx hb hts inX2 hown hK hP tF_3 (C := RX2) (F := TX2) (N := 14) rfl 12 (by decide) q150 rfl 16 rfl dX2_endPart_14 ?_
  refine lv_iload_n hx hb dX2_endPart_17 rfl (lv_at hl 1 rfl) ?_
  obtain ⟨r18, hcal, h⟩ := bnd_s h
  refine x_VI (As := [.int x0]) hx hb hml hown hts hK hP hS (ct_X0_at l D a cA cT hI g 17 6 x0 16 tF_16 tF_17 r18 hcal) tF_16 (C := RX0) (F := TX0) (N := 1) rfl (g_V q653 q229 q230 q38 q231) yd_X0_at ⟨Nat.le_of_ble_eq_true rfl, Nat.le_of_ble_eq_true rfl⟩ [.int r10, .int x0, .ref (a 14)] rfl (Nat.le_of_ble_eq_true rfl) hl.1 ⟨Nat.le_refl _, Nat.le_refl _⟩ dX2_endPart_18 (fun H locs hP hS => ?_)
  refine va_mmax hx hb (hml.trans hl.1.symm) hown (hts _ q667) (hts _ q504) (hts _ q42) (hts _ q505) (Nat.le_of_ble_eq_true rfl) (Nat.le_of_ble_eq_true rfl) (Nat.le_refl _) (Nat.le_refl _) dX2_endPart_21 ?_
  obtain ⟨g24, hcal, h⟩ := bnd_s h
  refine x_VV (As := [.int x0, .int (if r10 < r18 then r18 else r10)]) hx hb hml hown hts hK hP hS (ct_X0_write l D a cA cT hI g 15 6 x0 (if r10 < r18 then r18 else r10) 14 tF_14 tF_15 g24 hcal) tF_14 (C := RX0) (F := TX0) (N := 1) rfl (g_V q612 q424 q425 q38 q426) yd_X0_write ⟨Nat.le_of_ble_eq_true rfl, Nat.le_of_ble_eq_true rfl⟩ [] rfl (Nat.le_of_ble_eq_true rfl) hl.1 ⟨Nat.le_refl _, Nat.le_refl _⟩ dX2_endPart_24 (fun H locs hP hS => ?_)
  refine lv_aload_n hx hb dX2_endPart_27 rfl (lv_at hl 0 rfl) ?_
  refine x_getr hx hb hts inX2 hown hK hP tF_3 (C := RX2) (F := TX2) (N := 14) rfl 12 (by decide) q150 rfl 16 rfl dX2_endPart_28 ?_
  refine lv_iload_n hx hb dX2_endPart_31 rfl (lv_at hl 1 rfl) ?_
  refine lv_iconst (v := (2 : Int32)) hx hb dX2_endPart_32 (by decide) ?_
  obtain ⟨g33, hcal, h⟩ := bnd_s h
  refine x_VV (As := [.int x0, .int (2 : Int32)]) hx hb hml hown hts hK hP hS (ct_X0_write l D a cA cT hI g24 17 6 x0 (2 : Int32) 16 tF_16 tF_17 g33 hcal) tF_16 (C := RX0) (F := TX0) (N := 1) rfl (g_V q612 q424 q425 q38 q426) yd_X0_write ⟨Nat.le_of_ble_eq_true rfl, Nat.le_of_ble_eq_true rfl⟩ [] rfl (Nat.le_of_ble_eq_true rfl) hl.1 ⟨Nat.le_refl _, Nat.le_refl _⟩ dX2_endPart_33 (fun H locs hP hS => ?_)
  obtain rfl := Option.some.inj h
  exact hend _ _ _ _ dX2_endPart_36 hP hS
set_option maxHeartbeats 4000000 in
set_option maxRecDepth 100000 in
theorem ct_X2_truth (l : Launch) (D : va_G) (a : Nat → Nat) (cA cT : ClassId) (hI : WI a TC) (g : MG) (x0 : Int32) (x1 : Int32) (x2 : Int32) (x3 : Int32)  (r : Int32) (g' : MG) (h : m_X2_truth g x0 x1 x2 x3 = some (r, g')) :
    CtI l D a cA cT TC yX2_truth (Cond.code yX2_truth cX2_truth 7 (some .int) :: lw_all) (rmm 2 49) [.ref (a 3), .int x0, .int x1, .int x2, .int x3] g r g' := by
  refine CtI.of (by decide +kernel) (Nat.le_of_ble_eq_true rfl) ?_
  intro p e s m args below meth c Q ls hx hb hml hown hts hK hP hS hl hend
  have hl : lv_has ls 7 [(0, .ref (a 3)), (1, .int x0), (2, .int x1), (3, .int x2), (4, .int x3)] := hl
  unfold m_X2_truth at h
  refine lv_iconst (v := (0 : Int32)) hx hb dX2_truth_0 (by decide) ?_
  refine lv_istore (lv' := [(5, .int (0 : Int32)), (0, .ref (a 3)), (1, .int x0), (2, .int x1), (3, .int x2), (4, .int x3)]) hx hb dX2_truth_1 hl (by decide) rfl (fun ls hl => ?_)
  refine lv_aload_n hx hb dX2_truth_3 rfl (lv_at hl 1 rfl) ?_
  refine lv_iload hx hb dX2_truth_4 (lv_at hl 0 rfl) ?_
  obtain ⟨g6, hcal, h⟩ := bnd_s h
  refine x_VV (As := [.int (0 : Int32)]) hx hb hml hown hts hK hP hS (ct_X2_startDepth l D a cA cT hI g (0 : Int32) g6 hcal) tF_3 (C := RX2) (F := TX2) (N := 14) rfl (g_V q650 q651 q19 q41 q652) yd_X2_startDepth ⟨Nat.le_of_ble_eq_true rfl, Nat.le_of_ble_eq_true rfl⟩ [] rfl (Nat.le_of_ble_eq_true rfl) hl.1 ⟨Nat.le_refl _, Nat.le_refl _⟩ dX2_truth_6 (fun H locs hP hS => ?_)
  refine lv_iconst (v := (0 : Int32)) hx hb dX2_truth_9 (by decide) ?_
  refine lv_istore (lv' := [(6, .int (0 : Int32)), (5, .int (0 : Int32)), (0, .ref (a 3)), (1, .int x0), (2, .int x1), (3, .int x2), (4, .int x3)]) hx hb dX2_truth_10 hl (by decide) rfl (fun ls hl => ?_)
  have K12 : ∀ (n12 : Nat) (v5 : Int32) (v6 : Int32) (g12 : MG) (H : Heap) (locs : List Loc) (ls : Array Slot), WP D a cA cT TC g12 H → va_S (AA a TC) s.heap H locs → lv_has ls 7 [(0, .ref (a 3)), (1, .int x0), (2, .int x1), (3, .int x2), (4, .int x3), (5, .int v5), (6, .int v6)] → lpo (b_X2_truth_L12 x0 x1 x2 x3) n12 (v5, v6, g12) = some (r, g') → W p l e (rmm 2 49) s m args below meth c H locs 0 0 Q (F0 m 12 ls []) := by
    intro n12
    induction n12 with
    | zero => intro v5 v6 g12 H locs ls hP hS hl h; exact (lpo_0 h).elim
    | succ n12 ih12 =>
      intro v5 v6 g12 H locs ls hP hS hl h
      have h : m_X2_truth_L12 (lpo (b_X2_truth_L12 x0 x1 x2 x3) n12) x0 x1 x2 x3 v5 v6 g12 = some (r, g') := h
      unfold m_X2_truth_L12 at h
      refine lv_iload hx hb dX2_truth_12 (lv_at hl 6 rfl) ?_
      refine lv_aload_n hx hb dX2_truth_14 rfl (lv_at hl 0 rfl) ?_
      refine x_get hx hb hts inX2 hown hK hP tF_3 (C := RX2) (F := TX2) (N := 14) rfl 7 (by decide) q145 rfl rfl dX2_truth_15 ?_
      refine lv_icmp_ge (tgt := 211) hx hb dX2_truth_18 (by decide) (fun hc => ?_) (fun hc => ?_)
      · have h := ite_t hc h
        refine lv_aload_n hx hb dX2_truth_211 rfl (lv_at hl 0 rfl) ?_
        refine lv_iload hx hb dX2_truth_212 (lv_at hl 5 rfl) ?_
        obtain ⟨g214, hcal, h⟩ := bnd_s h
        refine x_VV (As := [.int v5]) hx hb hml hown hts hK hP hS (ct_X2_endPart l D a cA cT hI g12 v5 g214 hcal) tF_3 (C := RX2) (F := TX2) (N := 14) rfl (g_V q664 q665 q22 q41 q666) yd_X2_endPart ⟨Nat.le_of_ble_eq_true rfl, Nat.le_of_ble_eq_true rfl⟩ [] rfl (Nat.le_of_ble_eq_true rfl) hl.1 ⟨Nat.le_refl _, Nat.le_refl _⟩ dX2_truth_214 (fun H locs hP hS => ?_)
        refine lv_aload_n hx hb dX2_truth_217 rfl (lv_at hl 0 rfl) ?_
        refine x_getr hx hb hts inX2 hown hK hP tF_3 (C := RX2) (F := TX2) (N := 14) rfl 11 (by decide) q149 rfl 14 rfl dX2_truth_218 ?_
        refine lv_iload hx hb dX2_truth_221 (lv_at hl 5 rfl) ?_
        obtain ⟨r223, hcal, h⟩ := bnd_s h
        refine x_VI (As := [.int v5]) hx hb hml hown hts hK hP hS (ct_X0_at l D a cA cT hI g214 15 6 v5 14 tF_14 tF_15 r223 hcal) tF_14 (C := RX0) (F := TX0) (N := 1) rfl (g_V q653 q229 q230 q38 q231) yd_X0_at ⟨Nat.le_of_ble_eq_true rfl, Nat.le_of_ble_eq_true rfl⟩ [] rfl (Nat.le_of_ble_eq_true rfl) hl.1 ⟨Nat.le_refl _, Nat.le_refl _⟩ dX2_truth_223 (fun H locs hP hS => ?_)
        obtain ⟨rfl, rfl⟩ := Prod.mk.inj (Option.some.inj h)
        exact hend _ _ _ _ dX2_truth_226 rfl hP hS
      · have h := ite_f hc h
        refine lv_aload_n hx hb dX2_truth_21 rfl (lv_at hl 0 rfl) ?_
        refine x_getr hx hb hts inX2 hown hK hP tF_3 (C := RX2) (F := TX2) (N := 14) rfl 8 (by decide) q146 rfl 8 rfl dX2_truth_22 ?_
        refine lv_iload hx hb dX2_truth_25 (lv_at hl 6 rfl) ?_
        obtain ⟨r27, hcal, h⟩ := bnd_s h
        refine x_VI (As := [.int v6]) hx hb hml hown hts hK hP hS (ct_X0_at l D a cA cT hI g12 9 60 v6 8 tF_8 tF_9 r27 hcal) tF_8 (C := RX0) (F := TX0) (N := 1) rfl (g_V q653 q229 q230 q38 q231) yd_X0_at ⟨Nat.le_of_ble_eq_true rfl, Nat.le_of_ble_eq_true rfl⟩ [] rfl (Nat.le_of_ble_eq_true rfl) hl.1 ⟨Nat.le_refl _, Nat.le_refl _⟩ dX2_truth_27 (fun H locs hP hS => ?_)
        by_cases hs33 : r27 = (33 : Int32)
        · have h := ite_t hs33 h
          refine lv_lookup (off := 102) (tgt := 132) hx hb dX2_truth_30 (by decide) (by rw [hs33]; decide) (by decide) ?_
          refine lv_aload_n hx hb dX2_truth_132 rfl (lv_at hl 0 rfl) ?_
          refine x_getr hx hb hts inX2 hown hK hP tF_3 (C := RX2) (F := TX2) (N := 14) rfl 13 (by decide) q151 rfl 18 rfl dX2_truth_133 ?_
          refine lv_iload hx hb dX2_truth_136 (lv_at hl 5 rfl) ?_
          refine lv_iconst (v := (1 : Int32)) hx hb dX2_truth_138 (by decide) ?_
          refine lv_aload_n hx hb dX2_truth_139 rfl (lv_at hl 0 rfl) ?_
          refine x_getr hx hb hts inX2 hown hK hP tF_3 (C := RX2) (F := TX2) (N := 14) rfl 13 (by decide) q151 rfl 18 rfl dX2_truth_140 ?_
          refine lv_iload hx hb dX2_truth_143 (lv_at hl 5 rfl) ?_
          obtain ⟨r145, hcal, h⟩ := bnd_s h
          refine x_VI (As := [.int v5]) hx hb hml hown hts hK hP hS (ct_X0_at l D a cA cT hI g12 19 6 v5 18 tF_18 tF_19 r145 hcal) tF_18 (C := RX0) (F := TX0) (N := 1) rfl (g_V q653 q229 q230 q38 q231) yd_X0_at ⟨Nat.le_of_ble_eq_true rfl, Nat.le_of_ble_eq_true rfl⟩ [.int (1 : Int32), .int v5, .ref (a 18)] rfl (Nat.le_of_ble_eq_true rfl) hl.1 ⟨Nat.le_refl _, Nat.le_refl _⟩ dX2_truth_145 (fun H locs hP hS => ?_)
          refine lv_isub hx hb dX2_truth_148 ?_
          obtain ⟨g149, hcal, h⟩ := bnd_s h
          refine x_VV (As := [.int v5, .int ((1 : Int32) - r145)]) hx hb hml hown hts hK hP hS (ct_X0_write l D a cA cT hI g12 19 6 v5 ((1 : Int32) - r145) 18 tF_18 tF_19 g149 hcal) tF_18 (C := RX0) (F := TX0) (N := 1) rfl (g_V q612 q424 q425 q38 q426) yd_X0_write ⟨Nat.le_of_ble_eq_true rfl, Nat.le_of_ble_eq_true rfl⟩ [] rfl (Nat.le_of_ble_eq_true rfl) hl.1 ⟨Nat.le_refl _, Nat.le_refl _⟩ dX2_truth_149 (fun H locs hP hS => ?_)
          refine lv_goto (tgt := 205) hx hb dX2_truth_152 (by decide) ?_
          refine lv_iinc (v := (v6 + (1 : Int32))) (lv' := [(6, .int (v6 + (1 : Int32))), (0, .ref (a 3)), (1, .int x0), (2, .int x1), (3, .int x2), (4, .int x3), (5, .int v5)]) hx hb dX2_truth_205 hl (k := 6) rfl rfl (by decide) rfl (fun ls hl => ?_)
          refine lv_goto (tgt := 12) hx hb dX2_truth_208 (by decide) ?_
          exact ih12 v5 (v6 + (1 : Int32)) g149 _ _ _ hP hS (lv_sub hl [1, 2, 3, 4, 5, 6, 0] rfl) h
        have h := ite_f hs33 h
        by_cases hs40 : r27 = (40 : Int32)
        · have h := ite_t hs40 h
          refine lv_lookup (off := 134) (tgt := 164) hx hb dX2_truth_30 (by decide) (by rw [hs40]; decide) (by decide) ?_
          refine lv_iinc (v := (v5 + (1 : Int32))) (lv' := [(5, .int (v5 + (1 : Int32))), (0, .ref (a 3)), (1, .int x0), (2, .int x1), (3, .int x2), (4, .int x3), (6, .int v6)]) hx hb dX2_truth_164 hl (k := 5) rfl rfl (by decide) rfl (fun ls hl => ?_)
          refine lv_aload_n hx hb dX2_truth_167 rfl (lv_at hl 1 rfl) ?_
          refine lv_iload hx hb dX2_truth_168 (lv_at hl 0 rfl) ?_
          obtain ⟨g170, hcal, h⟩ := bnd_s h
          refine x_VV (As := [.int (v5 + (1 : Int32))]) hx hb hml hown hts hK hP hS (ct_X2_startDepth l D a cA cT hI g12 (v5 + (1 : Int32)) g170 hcal) tF_3 (C := RX2) (F := TX2) (N := 14) rfl (g_V q650 q651 q19 q41 q652) yd_X2_startDepth ⟨Nat.le_of_ble_eq_true rfl, Nat.le_of_ble_eq_true rfl⟩ [] rfl (Nat.le_of_ble_eq_true rfl) hl.1 ⟨Nat.le_refl _, Nat.le_refl _⟩ dX2_truth_170 (fun H locs hP hS => ?_)
          refine lv_goto (tgt := 205) hx hb dX2_truth_173 (by decide) ?_
          refine lv_iinc (v := (v6 + (1 : Int32))) (lv' := [(6, .int (v6 + (1 : Int32))), (5, .int (v5 + (1 : Int32))), (0, .ref (a 3)), (1, .int x0), (2, .int x1), (3, .int x2), (4, .int x3)]) hx hb dX2_truth_205 hl (k := 6) rfl rfl (by decide) rfl (fun ls hl => ?_)
          refine lv_goto (tgt := 12) hx hb dX2_truth_208 (by decide) ?_
          exact ih12 (v5 + (1 : Int32)) (v6 + (1 : Int32)) g170 _ _ _ hP hS (lv_sub hl [2, 3, 4, 5, 6, 1, 0] rfl) h
        have h := ite_f hs40 h
        by_cases hs41 : r27 = (41 : Int32)
        · have h := ite_t hs41 h
          refine lv_lookup (off := 146) (tgt := 176) hx hb dX2_truth_30 (by decide) (by rw [hs41]; decide) (by decide) ?_
          refine lv_aload_n hx hb dX2_truth_176 rfl (lv_at hl 0 rfl) ?_
          refine lv_iload hx hb dX2_truth_177 (lv_at hl 5 rfl) ?_
          obtain ⟨g179, hcal, h⟩ := bnd_s h
          refine x_VV (As := [.int v5]) hx hb hml hown hts hK hP hS (ct_X2_endPart l D a cA cT hI g12 v5 g179 hcal) tF_3 (C := RX2) (F := TX2) (N := 14) rfl (g_V q664 q665 q22 q41 q666) yd_X2_endPart ⟨Nat.le_of_ble_eq_true rfl, Nat.le_of_ble_eq_true rfl⟩ [] rfl (Nat.le_of_ble_eq_true rfl) hl.1 ⟨Nat.le_refl _, Nat.le_refl _⟩ dX2_truth_179 (fun H locs hP hS => ?_)
          refine lv_iinc (v := (v5 + (-1 : Int32))) (lv' := [(5, .int (v5 + (-1 : Int32))), (0, .ref (a 3)), (1, .int x0), (2, .int x1), (3, .int x2), (4, .int x3), (6, .int v6)]) hx hb dX2_truth_182 hl (k := 5) rfl rfl (by decide) rfl (fun ls hl => ?_)
          refine lv_aload_n hx hb dX2_truth_185 rfl (lv_at hl 1 rfl) ?_
          refine lv_iload hx hb dX2_truth_186 (lv_at hl 0 rfl) ?_
          refine lv_aload_n hx hb dX2_truth_188 rfl (lv_at hl 1 rfl) ?_
          refine x_getr hx hb hts inX2 hown hK hP tF_3 (C := RX2) (F := TX2) (N := 14) rfl 11 (by decide) q149 rfl 14 rfl dX2_truth_189 ?_
          refine lv_iload hx hb dX2_truth_192 (lv_at hl 0 rfl) ?_
          refine lv_iconst (v := (1 : Int32)) hx hb dX2_truth_194 (by decide) ?_
          refine lv_iadd hx hb dX2_truth_195 ?_
          obtain ⟨r196, hcal, h⟩ := bnd_s h
          refine x_VI (As := [.int ((v5 + (-1 : Int32)) + (1 : Int32))]) hx hb hml hown hts hK hP hS (ct_X0_at l D a cA cT hI g179 15 6 ((v5 + (-1 : Int32)) + (1 : Int32)) 14 tF_14 tF_15 r196 hcal) tF_14 (C := RX0) (F := TX0) (N := 1) rfl (g_V q653 q229 q230 q38 q231) yd_X0_at ⟨Nat.le_of_ble_eq_true rfl, Nat.le_of_ble_eq_true rfl⟩ [.int (v5 + (-1 : Int32)), .ref (a 3)] rfl (Nat.le_of_ble_eq_true rfl) hl.1 ⟨Nat.le_refl _, Nat.le_refl _⟩ dX2_truth_196 (fun H locs hP hS => ?_)
          obtain ⟨g199, hcal, h⟩ := bnd_s h
          refine x_VV (As := [.int (v5 + (-1 : Int32)), .int r196]) hx hb hml hown hts hK hP hS (ct_X2_addTruth l D a cA cT hI g179 (v5 + (-1 : Int32)) r196 g199 hcal) tF_3 (C := RX2) (F := TX2) (N := 14) rfl (g_V q660 q661 q21 q41 q662) yd_X2_addTruth ⟨Nat.le_of_ble_eq_true rfl, Nat.le_of_ble_eq_true rfl⟩ [] rfl (Nat.le_of_ble_eq_true rfl) hl.1 ⟨Nat.le_refl _, Nat.le_refl _⟩ dX2_truth_199 (fun H locs hP hS => ?_)
          refine lv_goto (tgt := 205) hx hb dX2_truth_202 (by decide) ?_
          refine lv_iinc (v := (v6 + (1 : Int32))) (lv' := [(6, .int (v6 + (1 : Int32))), (5, .int (v5 + (-1 : Int32))), (0, .ref (a 3)), (1, .int x0), (2, .int x1), (3, .int x2), (4, .int x3)]) hx hb dX2_truth_205 hl (k := 6) rfl rfl (by decide) rfl (fun ls hl => ?_)
          refine lv_goto (tgt := 12) hx hb dX2_truth_208 (by decide) ?_
          exact ih12 (v5 + (-1 : Int32)) (v6 + (1 : Int32)) g199 _ _ _ hP hS (lv_sub hl [2, 3, 4, 5, 6, 1, 0] rfl) h
        have h := ite_f hs41 h
        by_cases hs107 : r27 = (107 : Int32)
        · have h := ite_t hs107 h
          refine lv_lookup (off := 58) (tgt := 88) hx hb dX2_truth_30 (by decide) (by rw [hs107]; decide) (by decide) ?_
          refine lv_aload_n hx hb dX2_truth_88 rfl (lv_at hl 0 rfl) ?_
          refine lv_iload hx hb dX2_truth_89 (lv_at hl 5 rfl) ?_
          refine lv_aload_n hx hb dX2_truth_91 rfl (lv_at hl 0 rfl) ?_
          refine lv_iload hx hb dX2_truth_92 (lv_at hl 6 rfl) ?_
          refine lv_iload_n hx hb dX2_truth_94 rfl (lv_at hl 1 rfl) ?_
          refine lv_iload_n hx hb dX2_truth_95 rfl (lv_at hl 2 rfl) ?_
          obtain ⟨r96, hcal, h⟩ := bnd_s h
          refine x_VI (As := [.int v6, .int x0, .int x1]) hx hb hml hown hts hK hP hS (ct_X2_testTruth l D a cA cT hI g12 v6 x0 x1 r96 hcal) tF_3 (C := RX2) (F := TX2) (N := 14) rfl (g_V q654 q655 q20 q41 q656) yd_X2_testTruth ⟨Nat.le_of_ble_eq_true rfl, Nat.le_of_ble_eq_true rfl⟩ [.int v5, .ref (a 3)] rfl (Nat.le_of_ble_eq_true rfl) hl.1 ⟨Nat.le_refl _, Nat.le_refl _⟩ dX2_truth_96 (fun H locs hP hS => ?_)
          obtain ⟨g99, hcal, h⟩ := bnd_s h
          refine x_VV (As := [.int v5, .int r96]) hx hb hml hown hts hK hP hS (ct_X2_addTruth l D a cA cT hI g12 v5 r96 g99 hcal) tF_3 (C := RX2) (F := TX2) (N := 14) rfl (g_V q660 q661 q21 q41 q662) yd_X2_addTruth ⟨Nat.le_of_ble_eq_true rfl, Nat.le_of_ble_eq_true rfl⟩ [] rfl (Nat.le_of_ble_eq_true rfl) hl.1 ⟨Nat.le_refl _, Nat.le_refl _⟩ dX2_truth_99 (fun H locs hP hS => ?_)
          refine lv_goto (tgt := 205) hx hb dX2_truth_102 (by decide) ?_
          refine lv_iinc (v := (v6 + (1 : Int32))) (lv' := [(6, .int (v6 + (1 : Int32))), (0, .ref (a 3)), (1, .int x0), (2, .int x1), (3, .int x2), (4, .int x3), (5, .int v5)]) hx hb dX2_truth_205 hl (k := 6) rfl rfl (by decide) rfl (fun ls hl => ?_)
          refine lv_goto (tgt := 12) hx hb dX2_truth_208 (by decide) ?_
          exact ih12 v5 (v6 + (1 : Int32)) g99 _ _ _ hP hS (lv_sub hl [1, 2, 3, 4, 5, 6, 0] rfl) h
        have h := ite_f hs107 h
        by_cases hs118 : r27 = (118 : Int32)
        · have h := ite_t hs118 h
          refine lv_lookup (off := 75) (tgt := 105) hx hb dX2_truth_30 (by decide) (by rw [hs118]; decide) (by decide) ?_
          refine lv_aload_n hx hb dX2_truth_105 rfl (lv_at hl 0 rfl) ?_
          refine lv_iload hx hb dX2_truth_106 (lv_at hl 5 rfl) ?_
          refine lv_iload_n hx hb dX2_truth_108 rfl (lv_at hl 3 rfl) ?_
          refine lv_if_eq (tgt := 125) hx hb dX2_truth_109 (by decide) (fun hc => ?_) (fun hc => ?_)
          · have h := ite_t hc h
            refine lv_iconst (v := (1 : Int32)) hx hb dX2_truth_125 (by decide) ?_
            obtain ⟨g126, hcal, h⟩ := bnd_s h
            refine x_VV (As := [.int v5, .int (1 : Int32)]) hx hb hml hown hts hK hP hS (ct_X2_addTruth l D a cA cT hI g12 v5 (1 : Int32) g126 hcal) tF_3 (C := RX2) (F := TX2) (N := 14) rfl (g_V q660 q661 q21 q41 q662) yd_X2_addTruth ⟨Nat.le_of_ble_eq_true rfl, Nat.le_of_ble_eq_true rfl⟩ [] rfl (Nat.le_of_ble_eq_true rfl) hl.1 ⟨Nat.le_refl _, Nat.le_refl _⟩ dX2_truth_126 (fun H locs hP hS => ?_)
            refine lv_goto (tgt := 205) hx hb dX2_truth_129 (by decide) ?_
            refine lv_iinc (v := (v6 + (1 : Int32))) (lv' := [(6, .int (v6 + (1 : Int32))), (0, .ref (a 3)), (1, .int x0), (2, .int x1), (3, .int x2), (4, .int x3), (5, .int v5)]) hx hb dX2_truth_205 hl (k := 6) rfl rfl (by decide) rfl (fun ls hl => ?_)
            refine lv_goto (tgt := 12) hx hb dX2_truth_208 (by decide) ?_
            exact ih12 v5 (v6 + (1 : Int32)) g126 _ _ _ hP hS (lv_sub hl [1, 2, 3, 4, 5, 6, 0] rfl) h
          · have h := ite_f hc h
            refine lv_aload_n hx hb dX2_truth_112 rfl (lv_at hl 0 rfl) ?_
            refine lv_iload hx hb dX2_truth_113 (lv_at hl 6 rfl) ?_
            refine lv_iload hx hb dX2_truth_115 (lv_at hl 4 rfl) ?_
            refine lv_iload hx hb dX2_truth_117 (lv_at hl 4 rfl) ?_
            obtain ⟨r119, hcal, h⟩ := bnd_s h
            refine x_VI (As := [.int v6, .int x3, .int x3]) hx hb hml hown hts hK hP hS (ct_X2_testTruth l D a cA cT hI g12 v6 x3 x3 r119 hcal) tF_3 (C := RX2) (F := TX2) (N := 14) rfl (g_V q654 q655 q20 q41 q656) yd_X2_testTruth ⟨Nat.le_of_ble_eq_true rfl, Nat.le_of_ble_eq_true rfl⟩ [.int v5, .ref (a 3)] rfl (Nat.le_of_ble_eq_true rfl) hl.1 ⟨Nat.le_refl _, Nat.le_refl _⟩ dX2_truth_119 (fun H locs hP hS => ?_)
            refine lv_goto (tgt := 126) hx hb dX2_truth_122 (by decide) ?_
            obtain ⟨g126, hcal, h⟩ := bnd_s h
            refine x_VV (As := [.int v5, .int r119]) hx hb hml hown hts hK hP hS (ct_X2_addTruth l D a cA cT hI g12 v5 r119 g126 hcal) tF_3 (C := RX2) (F := TX2) (N := 14) rfl (g_V q660 q661 q21 q41 q662) yd_X2_addTruth ⟨Nat.le_of_ble_eq_true rfl, Nat.le_of_ble_eq_true rfl⟩ [] rfl (Nat.le_of_ble_eq_true rfl) hl.1 ⟨Nat.le_refl _, Nat.le_refl _⟩ dX2_truth_126 (fun H locs hP hS => ?_)
            refine lv_goto (tgt := 205) hx hb dX2_truth_129 (by decide) ?_
            refine lv_iinc (v := (v6 + (1 : Int32))) (lv' := [(6, .int (v6 + (1 : Int32))), (0, .ref (a 3)), (1, .int x0), (2, .int x1), (3, .int x2), (4, .int x3), (5, .int v5)]) hx hb dX2_truth_205 hl (k := 6) rfl rfl (by decide) rfl (fun ls hl => ?_)
            refine lv_goto (tgt := 12) hx hb dX2_truth_208 (by decide) ?_
            exact ih12 v5 (v6 + (1 : Int32)) g126 _ _ _ hP hS (lv_sub hl [1, 2, 3, 4, 5, 6, 0] rfl) h
        have h := ite_f hs118 h
        by_cases hs124 : r27 = (124 : Int32)
        · have h := ite_t hs124 h
          refine lv_lookup (off := 125) (tgt := 155) hx hb dX2_truth_30 (by decide) (by rw [hs124]; decide) (by decide) ?_
          refine lv_aload_n hx hb dX2_truth_155 rfl (lv_at hl 0 rfl) ?_
          refine lv_iload hx hb dX2_truth_156 (lv_at hl 5 rfl) ?_
          obtain ⟨g158, hcal, h⟩ := bnd_s h
          refine x_VV (As := [.int v5]) hx hb hml hown hts hK hP hS (ct_X2_endPart l D a cA cT hI g12 v5 g158 hcal) tF_3 (C := RX2) (F := TX2) (N := 14) rfl (g_V q664 q665 q22 q41 q666) yd_X2_endPart ⟨Nat.le_of_ble_eq_true rfl, Nat.le_of_ble_eq_true rfl⟩ [] rfl (Nat.le_of_ble_eq_true rfl) hl.1 ⟨Nat.le_refl _, Nat.le_refl _⟩ dX2_truth_158 (fun H locs hP hS => ?_)
          refine lv_goto (tgt := 205) hx hb dX2_truth_161 (by decide) ?_
          refine lv_iinc (v := (v6 + (1 : Int32))) (lv' := [(6, .int (v6 + (1 : Int32))), (0, .ref (a 3)), (1, .int x0), (2, .int x1), (3, .int x2), (4, .int x3), (5, .int v5)]) hx hb dX2_truth_205 hl (k := 6) rfl rfl (by decide) rfl (fun ls hl => ?_)
          refine lv_goto (tgt := 12) hx hb dX2_truth_208 (by decide) ?_
          exact ih12 v5 (v6 + (1 : Int32)) g158 _ _ _ hP hS (lv_sub hl [1, 2, 3, 4, 5, 6, 0] rfl) h
        have h := ite_f hs124 h
        refine lv_lookup (off := 175) (tgt := 205) hx hb dX2_truth_30 (by decide) (by simp only [Op.lookupswitch.offset, List.toList_toArray, if_neg (sw_en (n := 33) hs33 (by decide)), if_neg (sw_en (n := 40) hs40 (by decide)), if_neg (sw_en (n := 41) hs41 (by decide)), if_neg (sw_en (n := 107) hs107 (by decide)), if_neg (sw_en (n := 118) hs118 (by decide)), if_neg (sw_en (n := 124) hs124 (by decide))]) (by decide) ?_
        refine lv_iinc (v := (v6 + (1 : Int32))) (lv' := [(6, .int (v6 + (1 : Int32))), (0, .ref (a 3)), (1, .int x0), (2, .int x1), (3, .int x2), (4, .int x3), (5, .int v5)]) hx hb dX2_truth_205 hl (k := 6) rfl rfl (by decide) rfl (fun ls hl => ?_)
        refine lv_goto (tgt := 12) hx hb dX2_truth_208 (by decide) ?_
        exact ih12 v5 (v6 + (1 : Int32)) g12 _ _ _ hP hS (lv_sub hl [1, 2, 3, 4, 5, 6, 0] rfl) h
  exact K12 fuelN (0 : Int32) (0 : Int32) g6 _ _ _ hP hS (lv_sub hl [2, 3, 4, 5, 6, 1, 0] rfl) h
set_option maxHeartbeats 4000000 in
set_option maxRecDepth 100000 in
theorem ct_X2_keyMayHold (l : Launch) (D : va_G) (a : Nat → Nat) (cA cT : ClassId) (hI : WI a TC) (g : MG) (x0 : Int32) (x1 : Int32) (x2 : Int32)  (r : Int32) (g' : MG) (h : m_X2_keyMayHold g x0 x1 x2 = some (r, g')) :
    CtI l D a cA cT TC yX2_keyMayHold (Cond.code yX2_keyMayHold cX2_keyMayHold 4 (some .boolean) :: lw_all) (rmm 3 75) [.ref (a 3), .int x0, .int x1, .int x2] g r g' := by
  refine CtI.of (by decide +kernel) (Nat.le_of_ble_eq_true rfl) ?_
  intro p e s m args below meth c Q ls hx hb hml hown hts hK hP hS hl hend
  have hl : lv_has ls 4 [(0, .ref (a 3)), (1, .int x0), (2, .int x1), (3, .int x2)] := hl
  unfold m_X2_keyMayHold at h
  refine lv_iload_n hx hb dX2_keyMayHold_0 rfl (lv_at hl 1 rfl) ?_
  refine lv_iload_n hx hb dX2_keyMayHold_1 rfl (lv_at hl 2 rfl) ?_
  refine lv_icmp_lt (tgt := 25) hx hb dX2_keyMayHold_2 (by decide) (fun hc => ?_) (fun hc => ?_)
  · have h := ite_t hc h
    refine lv_iconst (v := (0 : Int32)) hx hb dX2_keyMayHold_25 (by decide) ?_
    obtain ⟨rfl, rfl⟩ := Prod.mk.inj (Option.some.inj h)
    exact hend _ _ _ _ dX2_keyMayHold_26 rfl hP hS
  · have h := ite_f hc h
    refine lv_iload_n hx hb dX2_keyMayHold_5 rfl (lv_at hl 1 rfl) ?_
    refine lv_iload_n hx hb dX2_keyMayHold_6 rfl (lv_at hl 3 rfl) ?_
    refine lv_icmp_gt (tgt := 25) hx hb dX2_keyMayHold_7 (by decide) (fun hc => ?_) (fun hc => ?_)
    · have h := ite_t hc h
      refine lv_iconst (v := (0 : Int32)) hx hb dX2_keyMayHold_25 (by decide) ?_
      obtain ⟨rfl, rfl⟩ := Prod.mk.inj (Option.some.inj h)
      exact hend _ _ _ _ dX2_keyMayHold_26 rfl hP hS
    · have h := ite_f hc h
      refine lv_aload_n hx hb dX2_keyMayHold_10 rfl (lv_at hl 0 rfl) ?_
      refine lv_iload_n hx hb dX2_keyMayHold_11 rfl (lv_at hl 1 rfl) ?_
      refine lv_iload_n hx hb dX2_keyMayHold_12 rfl (lv_at hl 1 rfl) ?_
      refine lv_iconst (v := (0 : Int32)) hx hb dX2_keyMayHold_13 (by decide) ?_
      refine lv_iconst (v := (0 : Int32)) hx hb dX2_keyMayHold_14 (by decide) ?_
      obtain ⟨r15, g15, hcal, h⟩ := bnd2_s h
      refine x_VI (As := [.int x0, .int x0, .int (0 : Int32), .int (0 : Int32)]) hx hb hml hown hts hK hP hS (ct_X2_truth l D a cA cT hI g x0 x0 (0 : Int32) (0 : Int32) r15 g15 hcal) tF_3 (C := RX2) (F := TX2) (N := 14) rfl (g_V q685 q647 q648 q41 q649) yd_X2_truth ⟨Nat.le_of_ble_eq_true rfl, Nat.le_of_ble_eq_true rfl⟩ [] rfl (Nat.le_of_ble_eq_true rfl) hl.1 ⟨Nat.le_refl _, Nat.le_refl _⟩ dX2_keyMayHold_15 (fun H locs hP hS => ?_)
      refine lv_if_eq (tgt := 25) hx hb dX2_keyMayHold_18 (by decide) (fun hc => ?_) (fun hc => ?_)
      · have h := ite_t hc h
        refine lv_iconst (v := (0 : Int32)) hx hb dX2_keyMayHold_25 (by decide) ?_
        obtain ⟨rfl, rfl⟩ := Prod.mk.inj (Option.some.inj h)
        exact hend _ _ _ _ dX2_keyMayHold_26 rfl hP hS
      · have h := ite_f hc h
        refine lv_iconst (v := (1 : Int32)) hx hb dX2_keyMayHold_21 (by decide) ?_
        refine lv_goto (tgt := 26) hx hb dX2_keyMayHold_22 (by decide) ?_
        obtain ⟨rfl, rfl⟩ := Prod.mk.inj (Option.some.inj h)
        exact hend _ _ _ _ dX2_keyMayHold_26 rfl hP hS
set_option maxHeartbeats 4000000 in
set_option maxRecDepth 100000 in
theorem ct_X2_someKeyMayHold (l : Launch) (D : va_G) (a : Nat → Nat) (cA cT : ClassId) (hI : WI a TC) (g : MG) (x0 : Int32) (x1 : Int32)  (r : Int32) (g' : MG) (h : m_X2_someKeyMayHold g x0 x1 = some (r, g')) :
    CtI l D a cA cT TC yX2_someKeyMayHold (Cond.code yX2_someKeyMayHold cX2_someKeyMayHold 5 (some .boolean) :: lw_all) (rmm 4 98) [.ref (a 3), .int x0, .int x1] g r g' := by
  refine CtI.of (by decide +kernel) (Nat.le_of_ble_eq_true rfl) ?_
  intro p e s m args below meth c Q ls hx hb hml hown hts hK hP hS hl hend
  have hl : lv_has ls 5 [(0, .ref (a 3)), (1, .int x0), (2, .int x1)] := hl
  unfold m_X2_someKeyMayHold at h
  refine lv_aload_n hx hb dX2_someKeyMayHold_0 rfl (lv_at hl 0 rfl) ?_
  refine lv_iload_n hx hb dX2_someKeyMayHold_1 rfl (lv_at hl 1 rfl) ?_
  refine lv_iload_n hx hb dX2_someKeyMayHold_2 rfl (lv_at hl 1 rfl) ?_
  refine lv_iload_n hx hb dX2_someKeyMayHold_3 rfl (lv_at hl 2 rfl) ?_
  obtain ⟨r4, g4, hcal, h⟩ := bnd2_s h
  refine x_VI (As := [.int x0, .int x0, .int x1]) hx hb hml hown hts hK hP hS (ct_X2_keyMayHold l D a cA cT hI g x0 x0 x1 r4 g4 hcal) tF_3 (C := RX2) (F := TX2) (N := 14) rfl (g_V q682 q683 q25 q41 q684) yd_X2_keyMayHold ⟨Nat.le_of_ble_eq_true rfl, Nat.le_of_ble_eq_true rfl⟩ [] rfl (Nat.le_of_ble_eq_true rfl) hl.1 ⟨Nat.le_refl _, Nat.le_refl _⟩ dX2_someKeyMayHold_4 (fun H locs hP hS => ?_)
  refine lv_if_eq (tgt := 12) hx hb dX2_someKeyMayHold_7 (by decide) (fun hc => ?_) (fun hc => ?_)
  · have h := ite_t hc h
    refine lv_iconst (v := (0 : Int32)) hx hb dX2_someKeyMayHold_12 (by decide) ?_
    refine lv_istore_n (lv' := [(3, .int (0 : Int32)), (0, .ref (a 3)), (1, .int x0), (2, .int x1)]) hx hb dX2_someKeyMayHold_13 rfl hl (by decide) rfl (fun ls hl => ?_)
    have K14 : ∀ (n14 : Nat) (v3 : Int32) (g14 : MG) (H : Heap) (locs : List Loc) (ls : Array Slot), WP D a cA cT TC g14 H → va_S (AA a TC) s.heap H locs → lv_has ls 5 [(0, .ref (a 3)), (1, .int x0), (2, .int x1), (3, .int v3)] → lpo (b_X2_someKeyMayHold_L14 x0 x1) n14 (v3, g14) = some (r, g') → W p l e (rmm 4 98) s m args below meth c H locs 0 0 Q (F0 m 14 ls []) := by
      intro n14
      induction n14 with
      | zero => intro v3 g14 H locs ls hP hS hl h; exact (lpo_0 h).elim
      | succ n14 ih14 =>
        intro v3 g14 H locs ls hP hS hl h
        have h : m_X2_someKeyMayHold_L14 (lpo (b_X2_someKeyMayHold_L14 x0 x1) n14) x0 x1 v3 g14 = some (r, g') := h
        unfold m_X2_someKeyMayHold_L14 at h
        refine lv_iload_n hx hb dX2_someKeyMayHold_14 rfl (lv_at hl 3 rfl) ?_
        refine lv_aload_n hx hb dX2_someKeyMayHold_15 rfl (lv_at hl 0 rfl) ?_
        refine x_get hx hb hts inX2 hown hK hP tF_3 (C := RX2) (F := TX2) (N := 14) rfl 7 (by decide) q145 rfl rfl dX2_someKeyMayHold_16 ?_
        refine lv_icmp_ge (tgt := 77) hx hb dX2_someKeyMayHold_19 (by decide) (fun hc => ?_) (fun hc => ?_)
        · have h := ite_t hc h
          refine lv_iconst (v := (0 : Int32)) hx hb dX2_someKeyMayHold_77 (by decide) ?_
          obtain ⟨rfl, rfl⟩ := Prod.mk.inj (Option.some.inj h)
          exact hend _ _ _ _ dX2_someKeyMayHold_78 rfl hP hS
        · have h := ite_f hc h
          refine lv_aload_n hx hb dX2_someKeyMayHold_22 rfl (lv_at hl 0 rfl) ?_
          refine x_getr hx hb hts inX2 hown hK hP tF_3 (C := RX2) (F := TX2) (N := 14) rfl 10 (by decide) q148 rfl 12 rfl dX2_someKeyMayHold_23 ?_
          refine lv_iload_n hx hb dX2_someKeyMayHold_26 rfl (lv_at hl 3 rfl) ?_
          obtain ⟨r27, hcal, h⟩ := bnd_s h
          refine x_VI (As := [.int v3]) hx hb hml hown hts hK hP hS (ct_X0_at l D a cA cT hI g14 13 60 v3 12 tF_12 tF_13 r27 hcal) tF_12 (C := RX0) (F := TX0) (N := 1) rfl (g_V q653 q229 q230 q38 q231) yd_X0_at ⟨Nat.le_of_ble_eq_true rfl, Nat.le_of_ble_eq_true rfl⟩ [] rfl (Nat.le_of_ble_eq_true rfl) hl.1 ⟨Nat.le_refl _, Nat.le_refl _⟩ dX2_someKeyMayHold_27 (fun H locs hP hS => ?_)
          refine lv_istore (lv' := [(4, .int r27), (0, .ref (a 3)), (1, .int x0), (2, .int x1), (3, .int v3)]) hx hb dX2_someKeyMayHold_30 hl (by decide) rfl (fun ls hl => ?_)
          refine lv_aload_n hx hb dX2_someKeyMayHold_32 rfl (lv_at hl 1 rfl) ?_
          refine x_getr hx hb hts inX2 hown hK hP tF_3 (C := RX2) (F := TX2) (N := 14) rfl 8 (by decide) q146 rfl 8 rfl dX2_someKeyMayHold_33 ?_
          refine lv_iload_n hx hb dX2_someKeyMayHold_36 rfl (lv_at hl 4 rfl) ?_
          obtain ⟨r37, hcal, h⟩ := bnd_s h
          refine x_VI (As := [.int v3]) hx hb hml hown hts hK hP hS (ct_X0_at l D a cA cT hI g14 9 60 v3 8 tF_8 tF_9 r37 hcal) tF_8 (C := RX0) (F := TX0) (N := 1) rfl (g_V q653 q229 q230 q38 q231) yd_X0_at ⟨Nat.le_of_ble_eq_true rfl, Nat.le_of_ble_eq_true rfl⟩ [] rfl (Nat.le_of_ble_eq_true rfl) hl.1 ⟨Nat.le_refl _, Nat.le_refl _⟩ dX2_someKeyMayHold_37 (fun H locs hP hS => ?_)
          refine lv_bipush (v := (107 : Int32)) hx hb dX2_someKeyMayHold_40 (by decide) ?_
          refine lv_icmp_ne (tgt := 71) hx hb dX2_someKeyMayHold_42 (by decide) (fun hc => ?_) (fun hc => ?_)
          · have h := ite_f hc h
            refine lv_iinc (v := (v3 + (1 : Int32))) (lv' := [(3, .int (v3 + (1 : Int32))), (4, .int r27), (0, .ref (a 3)), (1, .int x0), (2, .int x1)]) hx hb dX2_someKeyMayHold_71 hl (k := 4) rfl rfl (by decide) rfl (fun ls hl => ?_)
            refine lv_goto (tgt := 14) hx hb dX2_someKeyMayHold_74 (by decide) ?_
            exact ih14 (v3 + (1 : Int32)) g14 _ _ _ hP hS (lv_sub hl [2, 3, 4, 0] rfl) h
          · have h := ite_t hc h
            refine lv_aload_n hx hb dX2_someKeyMayHold_45 rfl (lv_at hl 1 rfl) ?_
            refine lv_iload hx hb dX2_someKeyMayHold_46 (lv_at hl 0 rfl) ?_
            refine lv_iload_n hx hb dX2_someKeyMayHold_48 rfl (lv_at hl 2 rfl) ?_
            refine lv_iload_n hx hb dX2_someKeyMayHold_49 rfl (lv_at hl 3 rfl) ?_
            obtain ⟨r50, g50, hcal, h⟩ := bnd2_s h
            refine x_VI (As := [.int r27, .int x0, .int x1]) hx hb hml hown hts hK hP hS (ct_X2_keyMayHold l D a cA cT hI g14 r27 x0 x1 r50 g50 hcal) tF_3 (C := RX2) (F := TX2) (N := 14) rfl (g_V q682 q683 q25 q41 q684) yd_X2_keyMayHold ⟨Nat.le_of_ble_eq_true rfl, Nat.le_of_ble_eq_true rfl⟩ [] rfl (Nat.le_of_ble_eq_true rfl) hl.1 ⟨Nat.le_refl _, Nat.le_refl _⟩ dX2_someKeyMayHold_50 (fun H locs hP hS => ?_)
            refine lv_if_ne (tgt := 69) hx hb dX2_someKeyMayHold_53 (by decide) (fun hc => ?_) (fun hc => ?_)
            · have h := ite_f hc h
              refine lv_iconst (v := (1 : Int32)) hx hb dX2_someKeyMayHold_69 (by decide) ?_
              obtain ⟨rfl, rfl⟩ := Prod.mk.inj (Option.some.inj h)
              exact hend _ _ _ _ dX2_someKeyMayHold_70 rfl hP hS
            · have h := ite_t hc h
              refine lv_aload_n hx hb dX2_someKeyMayHold_56 rfl (lv_at hl 1 rfl) ?_
              refine lv_iload hx hb dX2_someKeyMayHold_57 (lv_at hl 0 rfl) ?_
              refine lv_iconst (v := (1 : Int32)) hx hb dX2_someKeyMayHold_59 (by decide) ?_
              refine lv_iadd hx hb dX2_someKeyMayHold_60 ?_
              refine lv_iload_n hx hb dX2_someKeyMayHold_61 rfl (lv_at hl 2 rfl) ?_
              refine lv_iload_n hx hb dX2_someKeyMayHold_62 rfl (lv_at hl 3 rfl) ?_
              obtain ⟨r63, g63, hcal, h⟩ := bnd2_s h
              refine x_VI (As := [.int (r27 + (1 : Int32)), .int x0, .int x1]) hx hb hml hown hts hK hP hS (ct_X2_keyMayHold l D a cA cT hI g50 (r27 + (1 : Int32)) x0 x1 r63 g63 hcal) tF_3 (C := RX2) (F := TX2) (N := 14) rfl (g_V q682 q683 q25 q41 q684) yd_X2_keyMayHold ⟨Nat.le_of_ble_eq_true rfl, Nat.le_of_ble_eq_true rfl⟩ [] rfl (Nat.le_of_ble_eq_true rfl) hl.1 ⟨Nat.le_refl _, Nat.le_refl _⟩ dX2_someKeyMayHold_63 (fun H locs hP hS => ?_)
              refine lv_if_eq (tgt := 71) hx hb dX2_someKeyMayHold_66 (by decide) (fun hc => ?_) (fun hc => ?_)
              · have h := ite_t hc h
                refine lv_iinc (v := (v3 + (1 : Int32))) (lv' := [(3, .int (v3 + (1 : Int32))), (4, .int r27), (0, .ref (a 3)), (1, .int x0), (2, .int x1)]) hx hb dX2_someKeyMayHold_71 hl (k := 4) rfl rfl (by decide) rfl (fun ls hl => ?_)
                refine lv_goto (tgt := 14) hx hb dX2_someKeyMayHold_74 (by decide) ?_
                exact ih14 (v3 + (1 : Int32)) g63 _ _ _ hP hS (lv_sub hl [2, 3, 4, 0] rfl) h
              · have h := ite_f hc h
                refine lv_iconst (v := (1 : Int32)) hx hb dX2_someKeyMayHold_69 (by decide) ?_
                obtain ⟨rfl, rfl⟩ := Prod.mk.inj (Option.some.inj h)
                exact hend _ _ _ _ dX2_someKeyMayHold_70 rfl hP hS
    exact K14 fuelN (0 : Int32) g4 _ _ _ hP hS (lv_sub hl [1, 2, 3, 0] rfl) h
  · have h := ite_f hc h
    refine lv_iconst (v := (1 : Int32)) hx hb dX2_someKeyMayHold_10 (by decide) ?_
    obtain ⟨rfl, rfl⟩ := Prod.mk.inj (Option.some.inj h)
    exact hend _ _ _ _ dX2_someKeyMayHold_11 rfl hP hS
set_option maxHeartbeats 4000000 in
set_option maxRecDepth 100000 in
theorem ct_X3_placeOf (l : Launch) (D : va_G) (a : Nat → Nat) (cA cT : ClassId) (hI : WI a TC) (g : MG) (t : Nat) (x0 : Int32) (ht : t < 6) (r : Int32) (h : m_X3_placeOf g t x0 = some r) :
    CtI l D a cA cT TC yX3_placeOf (Cond.code yX3_placeOf cX3_placeOf 2 (some .int) :: lw_all) (rmm 1 21) [.ref (a (21 + 15 * t)), .int x0] g r g := by
  refine CtI.of (by decide +kernel) (Nat.le_of_ble_eq_true rfl) ?_
  intro p e s m args below meth c Q ls hx hb hml hown hts hK hP hS hl hend
  have hl : lv_has ls 2 [(0, .ref (a (21 + 15 * t))), (1, .int x0)] := hl
  unfold m_X3_placeOf at h
  refine lv_iload_n hx hb dX3_placeOf_0 rfl (lv_at hl 1 rfl) ?_
  refine lv_if_lt (tgt := 23) hx hb dX3_placeOf_1 (by decide) (fun hc => ?_) (fun hc => ?_)
  · have h := ite_t hc h
    refine lv_iconst (v := (-1 : Int32)) hx hb dX3_placeOf_23 (by decide) ?_
    obtain rfl := Option.some.inj h
    exact hend _ _ _ _ dX3_placeOf_24 rfl hP hS
  · have h := ite_f hc h
    refine lv_iload_n hx hb dX3_placeOf_4 rfl (lv_at hl 1 rfl) ?_
    refine lv_aload_n hx hb dX3_placeOf_5 rfl (lv_at hl 0 rfl) ?_
    refine x_get hx hb hts inX3 hown hK hP (tT_21 ht) (C := RX3) (F := TX3) (N := 4) rfl 3 (by decide) q74 rfl rfl dX3_placeOf_6 ?_
    refine lv_icmp_ge (tgt := 23) hx hb dX3_placeOf_9 (by decide) (fun hc => ?_) (fun hc => ?_)
    · have h := ite_t hc h
      refine lv_iconst (v := (-1 : Int32)) hx hb dX3_placeOf_23 (by decide) ?_
      obtain rfl := Option.some.inj h
      exact hend _ _ _ _ dX3_placeOf_24 rfl hP hS
    · have h := ite_f hc h
      refine lv_aload_n hx hb dX3_placeOf_12 rfl (lv_at hl 0 rfl) ?_
      refine x_getr hx hb hts inX3 hown hK hP (tT_21 ht) (C := RX3) (F := TX3) (N := 4) rfl 2 (by decide) q73 rfl (27 + 15 * t) rfl dX3_placeOf_13 ?_
      refine lv_iload_n hx hb dX3_placeOf_16 rfl (lv_at hl 1 rfl) ?_
      obtain ⟨r17, hcal, h⟩ := bnd_s h
      refine x_VI (As := [.int x0]) hx hb hml hown hts hK hP hS (ct_X0_at l D a cA cT hI g (28 + 15 * t) 400 x0 (27 + 15 * t) (tT_27 ht) (tT_28 ht) r17 hcal) (tT_27 ht) (C := RX0) (F := TX0) (N := 1) rfl (g_V q228 q229 q230 q38 q231) yd_X0_at ⟨Nat.le_of_ble_eq_true rfl, Nat.le_of_ble_eq_true rfl⟩ [] rfl (Nat.le_of_ble_eq_true rfl) hl.1 ⟨Nat.le_refl _, Nat.le_refl _⟩ dX3_placeOf_17 (fun H locs hP hS => ?_)
      refine lv_goto (tgt := 24) hx hb dX3_placeOf_20 (by decide) ?_
      obtain rfl := Option.some.inj h
      exact hend _ _ _ _ dX3_placeOf_24 rfl hP hS
set_option maxHeartbeats 4000000 in
set_option maxRecDepth 100000 in
theorem ct_X3_has (l : Launch) (D : va_G) (a : Nat → Nat) (cA cT : ClassId) (hI : WI a TC) (g : MG) (t : Nat) (x0 : Int32) (ht : t < 6) (r : Int32) (h : m_X3_has g t x0 = some r) :
    CtI l D a cA cT TC yX3_has (Cond.code yX3_has cX3_has 2 (some .boolean) :: lw_all) (rmm 2 42) [.ref (a (21 + 15 * t)), .int x0] g r g := by
  refine CtI.of (by decide +kernel) (Nat.le_of_ble_eq_true rfl) ?_
  intro p e s m args below meth c Q ls hx hb hml hown hts hK hP hS hl hend
  have hl : lv_has ls 2 [(0, .ref (a (21 + 15 * t))), (1, .int x0)] := hl
  unfold m_X3_has at h
  refine lv_aload_n hx hb dX3_has_0 rfl (lv_at hl 0 rfl) ?_
  refine lv_iload_n hx hb dX3_has_1 rfl (lv_at hl 1 rfl) ?_
  obtain ⟨r2, hcal, h⟩ := bnd_s h
  refine x_VI (As := [.int x0]) hx hb hml hown hts hK hP hS (ct_X3_placeOf l D a cA cT hI g t x0 ht r2 hcal) (tT_21 ht) (C := RX3) (F := TX3) (N := 4) rfl (g_V q224 q225 q226 q37 q227) yd_X3_placeOf ⟨Nat.le_of_ble_eq_true rfl, Nat.le_of_ble_eq_true rfl⟩ [] rfl (Nat.le_of_ble_eq_true rfl) hl.1 ⟨Nat.le_refl _, Nat.le_refl _⟩ dX3_has_2 (fun H locs hP hS => ?_)
  refine lv_iconst (v := (-1 : Int32)) hx hb dX3_has_5 (by decide) ?_
  refine lv_icmp_eq (tgt := 13) hx hb dX3_has_6 (by decide) (fun hc => ?_) (fun hc => ?_)
  · have h := ite_t hc h
    refine lv_iconst (v := (0 : Int32)) hx hb dX3_has_13 (by decide) ?_
    obtain rfl := Option.some.inj h
    exact hend _ _ _ _ dX3_has_14 rfl hP hS
  · have h := ite_f hc h
    refine lv_iconst (v := (1 : Int32)) hx hb dX3_has_9 (by decide) ?_
    refine lv_goto (tgt := 14) hx hb dX3_has_10 (by decide) ?_
    obtain rfl := Option.some.inj h
    exact hend _ _ _ _ dX3_has_14 rfl hP hS
set_option maxHeartbeats 4000000 in
set_option maxRecDepth 100000 in
theorem ct_X3_keyOf (l : Launch) (D : va_G) (a : Nat → Nat) (cA cT : ClassId) (hI : WI a TC) (g : MG) (t : Nat) (x0 : Int32) (ht : t < 6) (r : Int32) (h : m_X3_keyOf g t x0 = some r) :
    CtI l D a cA cT TC yX3_keyOf (Cond.code yX3_keyOf cX3_keyOf 2 (some .int) :: lw_all) (rmm 1 21) [.ref (a (21 + 15 * t)), .int x0] g r g := by
  refine CtI.of (by decide +kernel) (Nat.le_of_ble_eq_true rfl) ?_
  intro p e s m args below meth c Q ls hx hb hml hown hts hK hP hS hl hend
  have hl : lv_has ls 2 [(0, .ref (a (21 + 15 * t))), (1, .int x0)] := hl
  unfold m_X3_keyOf at h
  refine lv_aload_n hx hb dX3_keyOf_0 rfl (lv_at hl 0 rfl) ?_
  refine x_getr hx hb hts inX3 hown hK hP (tT_21 ht) (C := RX3) (F := TX3) (N := 4) rfl 0 (by decide) q71 rfl (23 + 15 * t) rfl dX3_keyOf_1 ?_
  refine lv_iload_n hx hb dX3_keyOf_4 rfl (lv_at hl 1 rfl) ?_
  obtain ⟨r5, hcal, h⟩ := bnd_s h
  refine x_VI (As := [.int x0]) hx hb hml hown hts hK hP hS (ct_X0_at l D a cA cT hI g (24 + 15 * t) 400 x0 (23 + 15 * t) (tT_23 ht) (tT_24 ht) r5 hcal) (tT_23 ht) (C := RX0) (F := TX0) (N := 1) rfl (g_V q228 q229 q230 q38 q231) yd_X0_at ⟨Nat.le_of_ble_eq_true rfl, Nat.le_of_ble_eq_true rfl⟩ [] rfl (Nat.le_of_ble_eq_true rfl) hl.1 ⟨Nat.le_refl _, Nat.le_refl _⟩ dX3_keyOf_5 (fun H locs hP hS => ?_)
  obtain rfl := Option.some.inj h
  exact hend _ _ _ _ dX3_keyOf_8 rfl hP hS
set_option maxHeartbeats 4000000 in
set_option maxRecDepth 100000 in
theorem ct_X3_valueOf (l : Launch) (D : va_G) (a : Nat → Nat) (cA cT : ClassId) (hI : WI a TC) (g : MG) (t : Nat) (x0 : Int32) (ht : t < 6) (r : Int32) (h : m_X3_valueOf g t x0 = some r) :
    CtI l D a cA cT TC yX3_valueOf (Cond.code yX3_valueOf cX3_valueOf 2 (some .int) :: lw_all) (rmm 1 21) [.ref (a (21 + 15 * t)), .int x0] g r g := by
  refine CtI.of (by decide +kernel) (Nat.le_of_ble_eq_true rfl) ?_
  intro p e s m args below meth c Q ls hx hb hml hown hts hK hP hS hl hend
  have hl : lv_has ls 2 [(0, .ref (a (21 + 15 * t))), (1, .int x0)] := hl
  unfold m_X3_valueOf at h
  refine lv_aload_n hx hb dX3_valueOf_0 rfl (lv_at hl 0 rfl) ?_
  refine x_getr hx hb hts inX3 hown hK hP (tT_21 ht) (C := RX3) (F := TX3) (N := 4) rfl 1 (by decide) q72 rfl (25 + 15 * t) rfl dX3_valueOf_1 ?_
  refine lv_iload_n hx hb dX3_valueOf_4 rfl (lv_at hl 1 rfl) ?_
  obtain ⟨r5, hcal, h⟩ := bnd_s h
  refine x_VI (As := [.int x0]) hx hb hml hown hts hK hP hS (ct_X0_at l D a cA cT hI g (26 + 15 * t) 400 x0 (25 + 15 * t) (tT_25 ht) (tT_26 ht) r5 hcal) (tT_25 ht) (C := RX0) (F := TX0) (N := 1) rfl (g_V q228 q229 q230 q38 q231) yd_X0_at ⟨Nat.le_of_ble_eq_true rfl, Nat.le_of_ble_eq_true rfl⟩ [] rfl (Nat.le_of_ble_eq_true rfl) hl.1 ⟨Nat.le_refl _, Nat.le_refl _⟩ dX3_valueOf_5 (fun H locs hP hS => ?_)
  obtain rfl := Option.some.inj h
  exact hend _ _ _ _ dX3_valueOf_8 rfl hP hS
set_option maxHeartbeats 4000000 in
set_option maxRecDepth 100000 in
theorem ct_X3_isInTable (l : Launch) (D : va_G) (a : Nat → Nat) (cA cT : ClassId) (hI : WI a TC) (g : MG) (t : Nat) (x0 : Int32) (ht : t < 6) (r : Int32) (h : m_X3_isInTable g t x0 = some r) :
    CtI l D a cA cT TC yX3_isInTable (Cond.code yX3_isInTable cX3_isInTable 3 (some .boolean) :: lw_all) (rmm 2 42) [.ref (a (21 + 15 * t)), .int x0] g r g := by
  refine CtI.of (by decide +kernel) (Nat.le_of_ble_eq_true rfl) ?_
  intro p e s m args below meth c Q ls hx hb hml hown hts hK hP hS hl hend
  have hl : lv_has ls 3 [(0, .ref (a (21 + 15 * t))), (1, .int x0)] := hl
  unfold m_X3_isInTable at h
  refine lv_aload_n hx hb dX3_isInTable_0 rfl (lv_at hl 0 rfl) ?_
  refine lv_iload_n hx hb dX3_isInTable_1 rfl (lv_at hl 1 rfl) ?_
  obtain ⟨r2, hcal, h⟩ := bnd_s h
  refine x_VI (As := [.int x0]) hx hb hml hown hts hK hP hS (ct_X3_placeOf l D a cA cT hI g t x0 ht r2 hcal) (tT_21 ht) (C := RX3) (F := TX3) (N := 4) rfl (g_V q224 q225 q226 q37 q227) yd_X3_placeOf ⟨Nat.le_of_ble_eq_true rfl, Nat.le_of_ble_eq_true rfl⟩ [] rfl (Nat.le_of_ble_eq_true rfl) hl.1 ⟨Nat.le_refl _, Nat.le_refl _⟩ dX3_isInTable_2 (fun H locs hP hS => ?_)
  refine lv_istore_n (lv' := [(2, .int r2), (0, .ref (a (21 + 15 * t))), (1, .int x0)]) hx hb dX3_isInTable_5 rfl hl (by decide) rfl (fun ls hl => ?_)
  refine lv_iload_n hx hb dX3_isInTable_6 rfl (lv_at hl 0 rfl) ?_
  refine lv_iconst (v := (-1 : Int32)) hx hb dX3_isInTable_7 (by decide) ?_
  refine lv_icmp_eq (tgt := 21) hx hb dX3_isInTable_8 (by decide) (fun hc => ?_) (fun hc => ?_)
  · have h := ite_t hc h
    refine lv_iconst (v := (0 : Int32)) hx hb dX3_isInTable_21 (by decide) ?_
    obtain rfl := Option.some.inj h
    exact hend _ _ _ _ dX3_isInTable_22 rfl hP hS
  · have h := ite_f hc h
    refine lv_iload_n hx hb dX3_isInTable_11 rfl (lv_at hl 0 rfl) ?_
    refine lv_bipush (v := (61 : Int32)) hx hb dX3_isInTable_12 (by decide) ?_
    refine lv_icmp_eq (tgt := 21) hx hb dX3_isInTable_14 (by decide) (fun hc => ?_) (fun hc => ?_)
    · have h := ite_t hc h
      refine lv_iconst (v := (0 : Int32)) hx hb dX3_isInTable_21 (by decide) ?_
      obtain rfl := Option.some.inj h
      exact hend _ _ _ _ dX3_isInTable_22 rfl hP hS
    · have h := ite_f hc h
      refine lv_iconst (v := (1 : Int32)) hx hb dX3_isInTable_17 (by decide) ?_
      refine lv_goto (tgt := 22) hx hb dX3_isInTable_18 (by decide) ?_
      obtain rfl := Option.some.inj h
      exact hend _ _ _ _ dX3_isInTable_22 rfl hP hS
set_option maxHeartbeats 4000000 in
set_option maxRecDepth 100000 in
theorem ct_X3_append (l : Launch) (D : va_G) (a : Nat → Nat) (cA cT : ClassId) (hI : WI a TC) (g : MG) (t : Nat) (x0 : Int32) (x1 : Int32) (x2 : Int32) (ht : t < 6) (r : Int32) (g' : MG) (h : m_X3_append g t x0 x1 x2 = some (r, g')) :
    CtI l D a cA cT TC yX3_append (Cond.code yX3_append cX3_append 5 (some .int) :: lw_all) (rmm 1 22) [.ref (a (21 + 15 * t)), .int x0, .int x1, .int x2] g r g' := by
  refine CtI.of (by decide +kernel) (Nat.le_of_ble_eq_true rfl) ?_
  intro p e s m args below meth c Q ls hx hb hml hown hts hK hP hS hl hend
  have hl : lv_has ls 5 [(0, .ref (a (21 + 15 * t))), (1, .int x0), (2, .int x1), (3, .int x2)] := hl
  unfold m_X3_append at h
  refine lv_aload_n hx hb dX3_append_0 rfl (lv_at hl 0 rfl) ?_
  refine x_get hx hb hts inX3 hown hK hP (tT_21 ht) (C := RX3) (F := TX3) (N := 4) rfl 3 (by decide) q74 rfl rfl dX3_append_1 ?_
  refine lv_istore (lv' := [(4, .int (g.1 (21 + 15 * t) 3)), (0, .ref (a (21 + 15 * t))), (1, .int x0), (2, .int x1), (3, .int x2)]) hx hb dX3_append_4 hl (by decide) rfl (fun ls hl => ?_)
  refine lv_aload_n hx hb dX3_append_6 rfl (lv_at hl 1 rfl) ?_
  refine x_getr hx hb hts inX3 hown hK hP (tT_21 ht) (C := RX3) (F := TX3) (N := 4) rfl 0 (by decide) q71 rfl (23 + 15 * t) rfl dX3_append_7 ?_
  refine lv_iload hx hb dX3_append_10 (lv_at hl 0 rfl) ?_
  refine lv_iload_n hx hb dX3_append_12 rfl (lv_at hl 2 rfl) ?_
  obtain ⟨g13, hcal, h⟩ := bnd_s h
  refine x_VV (As := [.int (g.1 (21 + 15 * t) 3), .int x0]) hx hb hml hown hts hK hP hS (ct_X0_write l D a cA cT hI g (24 + 15 * t) 400 (g.1 (21 + 15 * t) 3) x0 (23 + 15 * t) (tT_23 ht) (tT_24 ht) g13 hcal) (tT_23 ht) (C := RX0) (F := TX0) (N := 1) rfl (g_V q423 q424 q425 q38 q426) yd_X0_write ⟨Nat.le_of_ble_eq_true rfl, Nat.le_of_ble_eq_true rfl⟩ [] rfl (Nat.le_of_ble_eq_true rfl) hl.1 ⟨Nat.le_refl _, Nat.le_refl _⟩ dX3_append_13 (fun H locs hP hS => ?_)
  refine lv_aload_n hx hb dX3_append_16 rfl (lv_at hl 1 rfl) ?_
  refine x_getr hx hb hts inX3 hown hK hP (tT_21 ht) (C := RX3) (F := TX3) (N := 4) rfl 1 (by decide) q72 rfl (25 + 15 * t) rfl dX3_append_17 ?_
  refine lv_iload hx hb dX3_append_20 (lv_at hl 0 rfl) ?_
  refine lv_iload_n hx hb dX3_append_22 rfl (lv_at hl 3 rfl) ?_
  obtain ⟨g23, hcal, h⟩ := bnd_s h
  refine x_VV (As := [.int (g.1 (21 + 15 * t) 3), .int x1]) hx hb hml hown hts hK hP hS (ct_X0_write l D a cA cT hI g13 (26 + 15 * t) 400 (g.1 (21 + 15 * t) 3) x1 (25 + 15 * t) (tT_25 ht) (tT_26 ht) g23 hcal) (tT_25 ht) (C := RX0) (F := TX0) (N := 1) rfl (g_V q423 q424 q425 q38 q426) yd_X0_write ⟨Nat.le_of_ble_eq_true rfl, Nat.le_of_ble_eq_true rfl⟩ [] rfl (Nat.le_of_ble_eq_true rfl) hl.1 ⟨Nat.le_refl _, Nat.le_refl _⟩ dX3_append_23 (fun H locs hP hS => ?_)
  refine lv_aload_n hx hb dX3_append_26 rfl (lv_at hl 1 rfl) ?_
  refine x_getr hx hb hts inX3 hown hK hP (tT_21 ht) (C := RX3) (F := TX3) (N := 4) rfl 2 (by decide) q73 rfl (27 + 15 * t) rfl dX3_append_27 ?_
  refine lv_iload hx hb dX3_append_30 (lv_at hl 0 rfl) ?_
  refine lv_iload_n hx hb dX3_append_32 rfl (lv_at hl 4 rfl) ?_
  obtain ⟨g33, hcal, h⟩ := bnd_s h
  refine x_VV (As := [.int (g.1 (21 + 15 * t) 3), .int x2]) hx hb hml hown hts hK hP hS (ct_X0_write l D a cA cT hI g23 (28 + 15 * t) 400 (g.1 (21 + 15 * t) 3) x2 (27 + 15 * t) (tT_27 ht) (tT_28 ht) g33 hcal) (tT_27 ht) (C := RX0) (F := TX0) (N := 1) rfl (g_V q423 q424 q425 q38 q426) yd_X0_write ⟨Nat.le_of_ble_eq_true rfl, Nat.le_of_ble_eq_true rfl⟩ [] rfl (Nat.le_of_ble_eq_true rfl) hl.1 ⟨Nat.le_refl _, Nat.le_refl _⟩ dX3_append_33 (fun H locs hP hS => ?_)
  refine lv_aload_n hx hb dX3_append_36 rfl (lv_at hl 1 rfl) ?_
  refine lv_dup hx hb dX3_append_37 rfl ?_
  refine x_get hx hb hts inX3 hown hK hP (tT_21 ht) (C := RX3) (F := TX3) (N := 4) rfl 3 (by decide) q74 rfl rfl dX3_append_38 ?_
  refine lv_iconst (v := (1 : Int32)) hx hb dX3_append_41 (by decide) ?_
  refine lv_iadd hx hb dX3_append_42 ?_
  refine x_put hx hb hts inX3 tyX3 tyX3_ok nmX3 hown hK hI hP hS (tT_21 ht) (C := RX3) (F := TX3) (N := 4) rfl 3 (by decide) q74 rfl rfl rfl rfl rfl dX3_append_43 (fun H locs hP hS => ?_)
  refine lv_iload hx hb dX3_append_46 (lv_at hl 0 rfl) ?_
  obtain ⟨rfl, rfl⟩ := Prod.mk.inj (Option.some.inj h)
  exact hend _ _ _ _ dX3_append_48 rfl hP hS
set_option maxHeartbeats 4000000 in
set_option maxRecDepth 100000 in
theorem ct_X3_changeKey (l : Launch) (D : va_G) (a : Nat → Nat) (cA cT : ClassId) (hI : WI a TC) (g : MG) (t : Nat) (x0 : Int32) (x1 : Int32) (ht : t < 6) (g' : MG) (h : m_X3_changeKey g t x0 x1 = some g') :
    CtV l D a cA cT TC yX3_changeKey (Cond.code yX3_changeKey cX3_changeKey 3 none :: lw_all) (rmm 1 22) [.ref (a (21 + 15 * t)), .int x0, .int x1] g g' := by
  refine CtV.of (by decide +kernel) (Nat.le_of_ble_eq_true rfl) ?_
  intro p e s m args below meth c Q ls hx hb hml hown hts hK hP hS hl hend
  have hl : lv_has ls 3 [(0, .ref (a (21 + 15 * t))), (1, .int x0), (2, .int x1)] := hl
  unfold m_X3_changeKey at h
  refine lv_aload_n hx hb dX3_changeKey_0 rfl (lv_at hl 0 rfl) ?_
  refine x_getr hx hb hts inX3 hown hK hP (tT_21 ht) (C := RX3) (F := TX3) (N := 4) rfl 0 (by decide) q71 rfl (23 + 15 * t) rfl dX3_changeKey_1 ?_
  refine lv_iload_n hx hb dX3_changeKey_4 rfl (lv_at hl 1 rfl) ?_
  refine lv_iload_n hx hb dX3_changeKey_5 rfl (lv_at hl 2 rfl) ?_
  obtain ⟨g6, hcal, h⟩ := bnd_s h
  refine x_VV (As := [.int x0, .int x1]) hx hb hml hown hts hK hP hS (ct_X0_write l D a cA cT hI g (24 + 15 * t) 400 x0 x1 (23 + 15 * t) (tT_23 ht) (tT_24 ht) g6 hcal) (tT_23 ht) (C := RX0) (F := TX0) (N := 1) rfl (g_V q423 q424 q425 q38 q426) yd_X0_write ⟨Nat.le_of_ble_eq_true rfl, Nat.le_of_ble_eq_true rfl⟩ [] rfl (Nat.le_of_ble_eq_true rfl) hl.1 ⟨Nat.le_refl _, Nat.le_refl _⟩ dX3_changeKey_6 (fun H locs hP hS => ?_)
  obtain rfl := Option.some.inj h
  exact hend _ _ _ _ dX3_changeKey_9 hP hS
set_option maxHeartbeats 4000000 in
set_option maxRecDepth 100000 in
theorem ct_X3_move (l : Launch) (D : va_G) (a : Nat → Nat) (cA cT : ClassId) (hI : WI a TC) (g : MG) (t : Nat) (x0 : Int32) (x1 : Int32) (ht : t < 6) (g' : MG) (h : m_X3_move g t x0 x1 = some g') :
    CtV l D a cA cT TC yX3_move (Cond.code yX3_move cX3_move 3 none :: lw_all) (rmm 1 22) [.ref (a (21 + 15 * t)), .int x0, .int x1] g g' := by
  refine CtV.of (by decide +kernel) (Nat.le_of_ble_eq_true rfl) ?_
  intro p e s m args below meth c Q ls hx hb hml hown hts hK hP hS hl hend
  have hl : lv_has ls 3 [(0, .ref (a (21 + 15 * t))), (1, .int x0), (2, .int x1)] := hl
  unfold m_X3_move at h
  refine lv_aload_n hx hb dX3_move_0 rfl (lv_at hl 0 rfl) ?_
  refine x_getr hx hb hts inX3 hown hK hP (tT_21 ht) (C := RX3) (F := TX3) (N := 4) rfl 2 (by decide) q73 rfl (27 + 15 * t) rfl dX3_move_1 ?_
  refine lv_iload_n hx hb dX3_move_4 rfl (lv_at hl 1 rfl) ?_
  refine lv_iload_n hx hb dX3_move_5 rfl (lv_at hl 2 rfl) ?_
  obtain ⟨g6, hcal, h⟩ := bnd_s h
  refine x_VV (As := [.int x0, .int x1]) hx hb hml hown hts hK hP hS (ct_X0_write l D a cA cT hI g (28 + 15 * t) 400 x0 x1 (27 + 15 * t) (tT_27 ht) (tT_28 ht) g6 hcal) (tT_27 ht) (C := RX0) (F := TX0) (N := 1) rfl (g_V q423 q424 q425 q38 q426) yd_X0_write ⟨Nat.le_of_ble_eq_true rfl, Nat.le_of_ble_eq_true rfl⟩ [] rfl (Nat.le_of_ble_eq_true rfl) hl.1 ⟨Nat.le_refl _, Nat.le_refl _⟩ dX3_move_6 (fun H locs hP hS => ?_)
  obtain rfl := Option.some.inj h
  exact hend _ _ _ _ dX3_move_9 hP hS
set_option maxHeartbeats 4000000 in
set_option maxRecDepth 100000 in
theorem ct_X3_liesWithKey (l : Launch) (D : va_G) (a : Nat → Nat) (cA cT : ClassId) (hI : WI a TC) (g : MG) (t : Nat) (x0 : Int32) (x1 : Int32) (x2 : Int32) (x3 : Int32) (ht : t < 6) (r : Int32) (h : m_X3_liesWithKey g t x0 x1 x2 x3 = some r) :
    CtI l D a cA cT TC yX3_liesWithKey (Cond.code yX3_liesWithKey cX3_liesWithKey 5 (some .boolean) :: lw_all) (rmm 2 42) [.ref (a (21 + 15 * t)), .int x0, .int x1, .int x2, .int x3] g r g := by
  refine CtI.of (by decide +kernel) (Nat.le_of_ble_eq_true rfl) ?_
  intro p e s m args below meth c Q ls hx hb hml hown hts hK hP hS hl hend
  have hl : lv_has ls 5 [(0, .ref (a (21 + 15 * t))), (1, .int x0), (2, .int x1), (3, .int x2), (4, .int x3)] := hl
  unfold m_X3_liesWithKey at h
  refine lv_aload_n hx hb dX3_liesWithKey_0 rfl (lv_at hl 0 rfl) ?_
  refine lv_iload_n hx hb dX3_liesWithKey_1 rfl (lv_at hl 1 rfl) ?_
  obtain ⟨r2, hcal, h⟩ := bnd_s h
  refine x_VI (As := [.int x0]) hx hb hml hown hts hK hP hS (ct_X3_placeOf l D a cA cT hI g t x0 ht r2 hcal) (tT_21 ht) (C := RX3) (F := TX3) (N := 4) rfl (g_V q224 q225 q226 q37 q227) yd_X3_placeOf ⟨Nat.le_of_ble_eq_true rfl, Nat.le_of_ble_eq_true rfl⟩ [] rfl (Nat.le_of_ble_eq_true rfl) hl.1 ⟨Nat.le_refl _, Nat.le_refl _⟩ dX3_liesWithKey_2 (fun H locs hP hS => ?_)
  refine lv_iload_n hx hb dX3_liesWithKey_5 rfl (lv_at hl 2 rfl) ?_
  refine lv_icmp_ne (tgt := 32) hx hb dX3_liesWithKey_6 (by decide) (fun hc => ?_) (fun hc => ?_)
  · have h := ite_f hc h
    refine lv_iconst (v := (0 : Int32)) hx hb dX3_liesWithKey_32 (by decide) ?_
    obtain rfl := Option.some.inj h
    exact hend _ _ _ _ dX3_liesWithKey_33 rfl hP hS
  · have h := ite_t hc h
    refine lv_aload_n hx hb dX3_liesWithKey_9 rfl (lv_at hl 0 rfl) ?_
    refine lv_iload_n hx hb dX3_liesWithKey_10 rfl (lv_at hl 1 rfl) ?_
    obtain ⟨r11, hcal, h⟩ := bnd_s h
    refine x_VI (As := [.int x0]) hx hb hml hown hts hK hP hS (ct_X3_keyOf l D a cA cT hI g t x0 ht r11 hcal) (tT_21 ht) (C := RX3) (F := TX3) (N := 4) rfl (g_V q243 q244 q245 q37 q246) yd_X3_keyOf ⟨Nat.le_of_ble_eq_true rfl, Nat.le_of_ble_eq_true rfl⟩ [] rfl (Nat.le_of_ble_eq_true rfl) hl.1 ⟨Nat.le_refl _, Nat.le_refl _⟩ dX3_liesWithKey_11 (fun H locs hP hS => ?_)
    refine lv_iload_n hx hb dX3_liesWithKey_14 rfl (lv_at hl 3 rfl) ?_
    refine lv_icmp_lt (tgt := 32) hx hb dX3_liesWithKey_15 (by decide) (fun hc => ?_) (fun hc => ?_)
    · have h := ite_t hc h
      refine lv_iconst (v := (0 : Int32)) hx hb dX3_liesWithKey_32 (by decide) ?_
      obtain rfl := Option.some.inj h
      exact hend _ _ _ _ dX3_liesWithKey_33 rfl hP hS
    · have h := ite_f hc h
      refine lv_aload_n hx hb dX3_liesWithKey_18 rfl (lv_at hl 0 rfl) ?_
      refine lv_iload_n hx hb dX3_liesWithKey_19 rfl (lv_at hl 1 rfl) ?_
      obtain ⟨r20, hcal, h⟩ := bnd_s h
      refine x_VI (As := [.int x0]) hx hb hml hown hts hK hP hS (ct_X3_keyOf l D a cA cT hI g t x0 ht r20 hcal) (tT_21 ht) (C := RX3) (F := TX3) (N := 4) rfl (g_V q243 q244 q245 q37 q246) yd_X3_keyOf ⟨Nat.le_of_ble_eq_true rfl, Nat.le_of_ble_eq_true rfl⟩ [] rfl (Nat.le_of_ble_eq_true rfl) hl.1 ⟨Nat.le_refl _, Nat.le_refl _⟩ dX3_liesWithKey_20 (fun H locs hP hS => ?_)
      refine lv_iload hx hb dX3_liesWithKey_23 (lv_at hl 4 rfl) ?_
      refine lv_icmp_ge (tgt := 32) hx hb dX3_liesWithKey_25 (by decide) (fun hc => ?_) (fun hc => ?_)
      · have h := ite_t hc h
        refine lv_iconst (v := (0 : Int32)) hx hb dX3_liesWithKey_32 (by decide) ?_
        obtain rfl := Option.some.inj h
        exact hend _ _ _ _ dX3_liesWithKey_33 rfl hP hS
      · have h := ite_f hc h
        refine lv_iconst (v := (1 : Int32)) hx hb dX3_liesWithKey_28 (by decide) ?_
        refine lv_goto (tgt := 33) hx hb dX3_liesWithKey_29 (by decide) ?_
        obtain rfl := Option.some.inj h
        exact hend _ _ _ _ dX3_liesWithKey_33 rfl hP hS
set_option maxHeartbeats 4000000 in
set_option maxRecDepth 100000 in
theorem ct_X3_moveKeys (l : Launch) (D : va_G) (a : Nat → Nat) (cA cT : ClassId) (hI : WI a TC) (g : MG) (t : Nat) (x0 : Int32) (x1 : Int32) (x2 : Int32) (x3 : Int32) (ht : t < 6) (g' : MG) (h : m_X3_moveKeys g t x0 x1 x2 x3 = some g') :
    CtV l D a cA cT TC yX3_moveKeys (Cond.code yX3_moveKeys cX3_moveKeys 6 none :: lw_all) (rmm 3 66) [.ref (a (21 + 15 * t)), .int x0, .int x1, .int x2, .int x3] g g' := by
  refine CtV.of (by decide +kernel) (Nat.le_of_ble_eq_true rfl) ?_
  intro p e s m args below meth c Q ls hx hb hml hown hts hK hP hS hl hend
  have hl : lv_has ls 6 [(0, .ref (a (21 + 15 * t))), (1, .int x0), (2, .int x1), (3, .int x2), (4, .int x3)] := hl
  unfold m_X3_moveKeys at h
  refine lv_iconst (v := (0 : Int32)) hx hb dX3_moveKeys_0 (by decide) ?_
  refine lv_istore (lv' := [(5, .int (0 : Int32)), (0, .ref (a (21 + 15 * t))), (1, .int x0), (2, .int x1), (3, .int x2), (4, .int x3)]) hx hb dX3_moveKeys_1 hl (by decide) rfl (fun ls hl => ?_)
  have K3 : ∀ (n3 : Nat) (v5 : Int32) (g3 : MG) (H : Heap) (locs : List Loc) (ls : Array Slot), WP D a cA cT TC g3 H → va_S (AA a TC) s.heap H locs → lv_has ls 6 [(0, .ref (a (21 + 15 * t))), (1, .int x0), (2, .int x1), (3, .int x2), (4, .int x3), (5, .int v5)] → lpo (b_X3_moveKeys_L3 t x0 x1 x2 x3) n3 (v5, g3) = some g' → W p l e (rmm 3 66) s m args below meth c H locs 0 0 Q (F0 m 3 ls []) := by
    intro n3
    induction n3 with
    | zero => intro v5 g3 H locs ls hP hS hl h; exact (lpo_0 h).elim
    | succ n3 ih3 =>
      intro v5 g3 H locs ls hP hS hl h
      have h : m_X3_moveKeys_L3 (lpo (b_X3_moveKeys_L3 t x0 x1 x2 x3) n3) t x0 x1 x2 x3 v5 g3 = some g' := h
      unfold m_X3_moveKeys_L3 at h
      refine lv_iload hx hb dX3_moveKeys_3 (lv_at hl 5 rfl) ?_
      refine lv_aload_n hx hb dX3_moveKeys_5 rfl (lv_at hl 0 rfl) ?_
      refine x_get hx hb hts inX3 hown hK hP (tT_21 ht) (C := RX3) (F := TX3) (N := 4) rfl 3 (by decide) q74 rfl rfl dX3_moveKeys_6 ?_
      refine lv_icmp_ge (tgt := 38) hx hb dX3_moveKeys_9 (by decide) (fun hc => ?_) (fun hc => ?_)
      · have h := ite_t hc h
        obtain rfl := Option.some.inj h
        exact hend _ _ _ _ dX3_moveKeys_38 hP hS
      · have h := ite_f hc h
        refine lv_aload_n hx hb dX3_moveKeys_12 rfl (lv_at hl 0 rfl) ?_
        refine lv_iload hx hb dX3_moveKeys_13 (lv_at hl 5 rfl) ?_
        refine lv_iload_n hx hb dX3_moveKeys_15 rfl (lv_at hl 1 rfl) ?_
        refine lv_iload_n hx hb dX3_moveKeys_16 rfl (lv_at hl 3 rfl) ?_
        refine lv_iload hx hb dX3_moveKeys_17 (lv_at hl 4 rfl) ?_
        obtain ⟨r19, hcal, h⟩ := bnd_s h
        refine x_VI (As := [.int v5, .int x0, .int x2, .int x3]) hx hb hml hown hts hK hP hS (ct_X3_liesWithKey l D a cA cT hI g3 t v5 x0 x2 x3 ht r19 hcal) (tT_21 ht) (C := RX3) (F := TX3) (N := 4) rfl (g_V q240 q241 q1 q37 q242) yd_X3_liesWithKey ⟨Nat.le_of_ble_eq_true rfl, Nat.le_of_ble_eq_true rfl⟩ [] rfl (Nat.le_of_ble_eq_true rfl) hl.1 ⟨Nat.le_refl _, Nat.le_refl _⟩ dX3_moveKeys_19 (fun H locs hP hS => ?_)
        refine lv_if_eq (tgt := 32) hx hb dX3_moveKeys_22 (by decide) (fun hc => ?_) (fun hc => ?_)
        · have h := ite_t hc h
          refine lv_iinc (v := (v5 + (1 : Int32))) (lv' := [(5, .int (v5 + (1 : Int32))), (0, .ref (a (21 + 15 * t))), (1, .int x0), (2, .int x1), (3, .int x2), (4, .int x3)]) hx hb dX3_moveKeys_32 hl (k := 5) rfl rfl (by decide) rfl (fun ls hl => ?_)
          refine lv_goto (tgt := 3) hx hb dX3_moveKeys_35 (by decide) ?_
          exact ih3 (v5 + (1 : Int32)) g3 _ _ _ hP hS (lv_sub hl [1, 2, 3, 4, 5, 0] rfl) h
        · have h := ite_f hc h
          refine lv_aload_n hx hb dX3_moveKeys_25 rfl (lv_at hl 0 rfl) ?_
          refine lv_iload hx hb dX3_moveKeys_26 (lv_at hl 5 rfl) ?_
          refine lv_iload_n hx hb dX3_moveKeys_28 rfl (lv_at hl 2 rfl) ?_
          obtain ⟨g29, hcal, h⟩ := bnd_s h
          refine x_VV (As := [.int v5, .int x1]) hx hb hml hown hts hK hP hS (ct_X3_move l D a cA cT hI g3 t v5 x1 ht g29 hcal) (tT_21 ht) (C := RX3) (F := TX3) (N := 4) rfl (g_V q463 q464 q465 q37 q466) yd_X3_move ⟨Nat.le_of_ble_eq_true rfl, Nat.le_of_ble_eq_true rfl⟩ [] rfl (Nat.le_of_ble_eq_true rfl) hl.1 ⟨Nat.le_refl _, Nat.le_refl _⟩ dX3_moveKeys_29 (fun H locs hP hS => ?_)
          refine lv_iinc (v := (v5 + (1 : Int32))) (lv' := [(5, .int (v5 + (1 : Int32))), (0, .ref (a (21 + 15 * t))), (1, .int x0), (2, .int x1), (3, .int x2), (4, .int x3)]) hx hb dX3_moveKeys_32 hl (k := 5) rfl rfl (by decide) rfl (fun ls hl => ?_)
          refine lv_goto (tgt := 3) hx hb dX3_moveKeys_35 (by decide) ?_
          exact ih3 (v5 + (1 : Int32)) g29 _ _ _ hP hS (lv_sub hl [1, 2, 3, 4, 5, 0] rfl) h
  exact K3 fuelN (0 : Int32) g _ _ _ hP hS (lv_sub hl [1, 2, 3, 4, 5, 0] rfl) h
set_option maxHeartbeats 4000000 in
set_option maxRecDepth 100000 in
theorem ct_X3_moveAll (l : Launch) (D : va_G) (a : Nat → Nat) (cA cT : ClassId) (hI : WI a TC) (g : MG) (t : Nat) (x0 : Int32) (x1 : Int32) (ht : t < 6) (g' : MG) (h : m_X3_moveAll g t x0 x1 = some g') :
    CtV l D a cA cT TC yX3_moveAll (Cond.code yX3_moveAll cX3_moveAll 3 none :: lw_all) (rmm 4 91) [.ref (a (21 + 15 * t)), .int x0, .int x1] g g' := by
  refine CtV.of (by decide +kernel) (Nat.le_of_ble_eq_true rfl) ?_
  intro p e s m args below meth c Q ls hx hb hml hown hts hK hP hS hl hend
  have hl : lv_has ls 3 [(0, .ref (a (21 + 15 * t))), (1, .int x0), (2, .int x1)] := hl
  unfold m_X3_moveAll at h
  refine lv_aload_n hx hb dX3_moveAll_0 rfl (lv_at hl 0 rfl) ?_
  refine lv_iload_n hx hb dX3_moveAll_1 rfl (lv_at hl 1 rfl) ?_
  refine lv_iload_n hx hb dX3_moveAll_2 rfl (lv_at hl 2 rfl) ?_
  refine lv_iconst (v := (0 : Int32)) hx hb dX3_moveAll_3 (by decide) ?_
  refine lv_sipush (v := (1000 : Int32)) hx hb dX3_moveAll_4 (by decide) ?_
  obtain ⟨g7, hcal, h⟩ := bnd_s h
  refine x_VV (As := [.int x0, .int x1, .int (0 : Int32), .int (1000 : Int32)]) hx hb hml hown hts hK hP hS (ct_X3_moveKeys l D a cA cT hI g t x0 x1 (0 : Int32) (1000 : Int32) ht g7 hcal) (tT_21 ht) (C := RX3) (F := TX3) (N := 4) rfl (g_V q497 q460 q461 q37 q462) yd_X3_moveKeys ⟨Nat.le_of_ble_eq_true rfl, Nat.le_of_ble_eq_true rfl⟩ [] rfl (Nat.le_of_ble_eq_true rfl) hl.1 ⟨Nat.le_refl _, Nat.le_refl _⟩ dX3_moveAll_7 (fun H locs hP hS => ?_)
  obtain rfl := Option.some.inj h
  exact hend _ _ _ _ dX3_moveAll_10 hP hS
set_option maxHeartbeats 4000000 in
set_option maxRecDepth 100000 in
theorem ct_X3_exchange (l : Launch) (D : va_G) (a : Nat → Nat) (cA cT : ClassId) (hI : WI a TC) (g : MG) (t : Nat) (x0 : Int32) (x1 : Int32) (ht : t < 6) (g' : MG) (h : m_X3_exchange g t x0 x1 = some g') :
    CtV l D a cA cT TC yX3_exchange (Cond.code yX3_exchange cX3_exchange 4 none :: lw_all) (rmm 2 44) [.ref (a (21 + 15 * t)), .int x0, .int x1] g g' := by
  refine CtV.of (by decide +kernel) (Nat.le_of_ble_eq_true rfl) ?_
  intro p e s m args below meth c Q ls hx hb hml hown hts hK hP hS hl hend
  have hl : lv_has ls 4 [(0, .ref (a (21 + 15 * t))), (1, .int x0), (2, .int x1)] := hl
  unfold m_X3_exchange at h
  refine lv_iconst (v := (0 : Int32)) hx hb dX3_exchange_0 (by decide) ?_
  refine lv_istore_n (lv' := [(3, .int (0 : Int32)), (0, .ref (a (21 + 15 * t))), (1, .int x0), (2, .int x1)]) hx hb dX3_exchange_1 rfl hl (by decide) rfl (fun ls hl => ?_)
  have K2 : ∀ (n2 : Nat) (v3 : Int32) (g2 : MG) (H : Heap) (locs : List Loc) (ls : Array Slot), WP D a cA cT TC g2 H → va_S (AA a TC) s.heap H locs → lv_has ls 4 [(0, .ref (a (21 + 15 * t))), (1, .int x0), (2, .int x1), (3, .int v3)] → lpo (b_X3_exchange_L2 t x0 x1) n2 (v3, g2) = some g' → W p l e (rmm 2 44) s m args below meth c H locs 0 0 Q (F0 m 2 ls []) := by
    intro n2
    induction n2 with
    | zero => intro v3 g2 H locs ls hP hS hl h; exact (lpo_0 h).elim
    | succ n2 ih2 =>
      intro v3 g2 H locs ls hP hS hl h
      have h : m_X3_exchange_L2 (lpo (b_X3_exchange_L2 t x0 x1) n2) t x0 x1 v3 g2 = some g' := h
      unfold m_X3_exchange_L2 at h
      refine lv_iload_n hx hb dX3_exchange_2 rfl (lv_at hl 3 rfl) ?_
      refine lv_aload_n hx hb dX3_exchange_3 rfl (lv_at hl 0 rfl) ?_
      refine x_get hx hb hts inX3 hown hK hP (tT_21 ht) (C := RX3) (F := TX3) (N := 4) rfl 3 (by decide) q74 rfl rfl dX3_exchange_4 ?_
      refine lv_icmp_ge (tgt := 49) hx hb dX3_exchange_7 (by decide) (fun hc => ?_) (fun hc => ?_)
      · have h := ite_t hc h
        obtain rfl := Option.some.inj h
        exact hend _ _ _ _ dX3_exchange_49 hP hS
      · have h := ite_f hc h
        refine lv_aload_n hx hb dX3_exchange_10 rfl (lv_at hl 0 rfl) ?_
        refine lv_iload_n hx hb dX3_exchange_11 rfl (lv_at hl 3 rfl) ?_
        obtain ⟨r12, hcal, h⟩ := bnd_s h
        refine x_VI (As := [.int v3]) hx hb hml hown hts hK hP hS (ct_X3_placeOf l D a cA cT hI g2 t v3 ht r12 hcal) (tT_21 ht) (C := RX3) (F := TX3) (N := 4) rfl (g_V q224 q225 q226 q37 q227) yd_X3_placeOf ⟨Nat.le_of_ble_eq_true rfl, Nat.le_of_ble_eq_true rfl⟩ [] rfl (Nat.le_of_ble_eq_true rfl) hl.1 ⟨Nat.le_refl _, Nat.le_refl _⟩ dX3_exchange_12 (fun H locs hP hS => ?_)
        refine lv_iload_n hx hb dX3_exchange_15 rfl (lv_at hl 1 rfl) ?_
        refine lv_icmp_ne (tgt := 28) hx hb dX3_exchange_16 (by decide) (fun hc => ?_) (fun hc => ?_)
        · have h := ite_f hc h
          refine lv_aload_n hx hb dX3_exchange_28 rfl (lv_at hl 0 rfl) ?_
          refine lv_iload_n hx hb dX3_exchange_29 rfl (lv_at hl 3 rfl) ?_
          obtain ⟨r30, hcal, h⟩ := bnd_s h
          refine x_VI (As := [.int v3]) hx hb hml hown hts hK hP hS (ct_X3_placeOf l D a cA cT hI g2 t v3 ht r30 hcal) (tT_21 ht) (C := RX3) (F := TX3) (N := 4) rfl (g_V q224 q225 q226 q37 q227) yd_X3_placeOf ⟨Nat.le_of_ble_eq_true rfl, Nat.le_of_ble_eq_true rfl⟩ [] rfl (Nat.le_of_ble_eq_true rfl) hl.1 ⟨Nat.le_refl _, Nat.le_refl _⟩ dX3_exchange_30 (fun H locs hP hS => ?_)
          refine lv_iload_n hx hb dX3_exchange_33 rfl (lv_at hl 2 rfl) ?_
          refine lv_icmp_ne (tgt := 43) hx hb dX3_exchange_34 (by decide) (fun hc => ?_) (fun hc => ?_)
          · have h := ite_f hc h
            refine lv_iinc (v := (v3 + (1 : Int32))) (lv' := [(3, .int (v3 + (1 : Int32))), (0, .ref (a (21 + 15 * t))), (1, .int x0), (2, .int x1)]) hx hb dX3_exchange_43 hl (k := 3) rfl rfl (by decide) rfl (fun ls hl => ?_)
            refine lv_goto (tgt := 2) hx hb dX3_exchange_46 (by decide) ?_
            exact ih2 (v3 + (1 : Int32)) g2 _ _ _ hP hS (lv_sub hl [1, 2, 3, 0] rfl) h
          · have h := ite_t hc h
            refine lv_aload_n hx hb dX3_exchange_37 rfl (lv_at hl 0 rfl) ?_
            refine lv_iload_n hx hb dX3_exchange_38 rfl (lv_at hl 3 rfl) ?_
            refine lv_iload_n hx hb dX3_exchange_39 rfl (lv_at hl 1 rfl) ?_
            obtain ⟨g40, hcal, h⟩ := bnd_s h
            refine x_VV (As := [.int v3, .int x0]) hx hb hml hown hts hK hP hS (ct_X3_move l D a cA cT hI g2 t v3 x0 ht g40 hcal) (tT_21 ht) (C := RX3) (F := TX3) (N := 4) rfl (g_V q463 q464 q465 q37 q466) yd_X3_move ⟨Nat.le_of_ble_eq_true rfl, Nat.le_of_ble_eq_true rfl⟩ [] rfl (Nat.le_of_ble_eq_true rfl) hl.1 ⟨Nat.le_refl _, Nat.le_refl _⟩ dX3_exchange_40 (fun H locs hP hS => ?_)
            refine lv_iinc (v := (v3 + (1 : Int32))) (lv' := [(3, .int (v3 + (1 : Int32))), (0, .ref (a (21 + 15 * t))), (1, .int x0), (2, .int x1)]) hx hb dX3_exchange_43 hl (k := 3) rfl rfl (by decide) rfl (fun ls hl => ?_)
            refine lv_goto (tgt := 2) hx hb dX3_exchange_46 (by decide) ?_
            exact ih2 (v3 + (1 : Int32)) g40 _ _ _ hP hS (lv_sub hl [1, 2, 3, 0] rfl) h
        · have h := ite_t hc h
          refine lv_aload_n hx hb dX3_exchange_19 rfl (lv_at hl 0 rfl) ?_
          refine lv_iload_n hx hb dX3_exchange_20 rfl (lv_at hl 3 rfl) ?_
          refine lv_iload_n hx hb dX3_exchange_21 rfl (lv_at hl 2 rfl) ?_
          obtain ⟨g22, hcal, h⟩ := bnd_s h
          refine x_VV (As := [.int v3, .int x1]) hx hb hml hown hts hK hP hS (ct_X3_move l D a cA cT hI g2 t v3 x1 ht g22 hcal) (tT_21 ht) (C := RX3) (F := TX3) (N := 4) rfl (g_V q463 q464 q465 q37 q466) yd_X3_move ⟨Nat.le_of_ble_eq_true rfl, Nat.le_of_ble_eq_true rfl⟩ [] rfl (Nat.le_of_ble_eq_true rfl) hl.1 ⟨Nat.le_refl _, Nat.le_refl _⟩ dX3_exchange_22 (fun H locs hP hS => ?_)
          refine lv_goto (tgt := 43) hx hb dX3_exchange_25 (by decide) ?_
          refine lv_iinc (v := (v3 + (1 : Int32))) (lv' := [(3, .int (v3 + (1 : Int32))), (0, .ref (a (21 + 15 * t))), (1, .int x0), (2, .int x1)]) hx hb dX3_exchange_43 hl (k := 3) rfl rfl (by decide) rfl (fun ls hl => ?_)
          refine lv_goto (tgt := 2) hx hb dX3_exchange_46 (by decide) ?_
          exact ih2 (v3 + (1 : Int32)) g22 _ _ _ hP hS (lv_sub hl [1, 2, 3, 0] rfl) h
  exact K2 fuelN (0 : Int32) g _ _ _ hP hS (lv_sub hl [1, 2, 3, 0] rfl) h
set_option maxHeartbeats 4000000 in
set_option maxRecDepth 100000 in
theorem ct_X3_amountInTable (l : Launch) (D : va_G) (a : Nat → Nat) (cA cT : ClassId) (hI : WI a TC) (g : MG) (t : Nat) (ht : t < 6) (r : Int32) (h : m_X3_amountInTable g t = some r) :
    CtI l D a cA cT TC yX3_amountInTable (Cond.code yX3_amountInTable cX3_amountInTable 3 (some .int) :: lw_all) (rmm 3 64) [.ref (a (21 + 15 * t))] g r g := by
  refine CtI.of (by decide +kernel) (Nat.le_of_ble_eq_true rfl) ?_
  intro p e s m args below meth c Q ls hx hb hml hown hts hK hP hS hl hend
  have hl : lv_has ls 3 [(0, .ref (a (21 + 15 * t)))] := hl
  unfold m_X3_amountInTable at h
  refine lv_iconst (v := (0 : Int32)) hx hb dX3_amountInTable_0 (by decide) ?_
  refine lv_istore_n (lv' := [(1, .int (0 : Int32)), (0, .ref (a (21 + 15 * t)))]) hx hb dX3_amountInTable_1 rfl hl (by decide) rfl (fun ls hl => ?_)
  refine lv_iconst (v := (0 : Int32)) hx hb dX3_amountInTable_2 (by decide) ?_
  refine lv_istore_n (lv' := [(2, .int (0 : Int32)), (1, .int (0 : Int32)), (0, .ref (a (21 + 15 * t)))]) hx hb dX3_amountInTable_3 rfl hl (by decide) rfl (fun ls hl => ?_)
  have K4 : ∀ (n4 : Nat) (v1 : Int32) (v2 : Int32) (H : Heap) (locs : List Loc) (ls : Array Slot), WP D a cA cT TC g H → va_S (AA a TC) s.heap H locs → lv_has ls 3 [(0, .ref (a (21 + 15 * t))), (1, .int v1), (2, .int v2)] → lpo (b_X3_amountInTable_L4 g t) n4 (v1, v2) = some r → W p l e (rmm 3 64) s m args below meth c H locs 0 0 Q (F0 m 4 ls []) := by
    intro n4
    induction n4 with
    | zero => intro v1 v2 H locs ls hP hS hl h; exact (lpo_0 h).elim
    | succ n4 ih4 =>
      intro v1 v2 H locs ls hP hS hl h
      have h : m_X3_amountInTable_L4 (lpo (b_X3_amountInTable_L4 g t) n4) g t v1 v2 = some r := h
      unfold m_X3_amountInTable_L4 at h
      refine lv_iload_n hx hb dX3_amountInTable_4 rfl (lv_at hl 2 rfl) ?_
      refine lv_aload_n hx hb dX3_amountInTable_5 rfl (lv_at hl 0 rfl) ?_
      refine x_get hx hb hts inX3 hown hK hP (tT_21 ht) (C := RX3) (F := TX3) (N := 4) rfl 3 (by decide) q74 rfl rfl dX3_amountInTable_6 ?_
      refine lv_icmp_ge (tgt := 29) hx hb dX3_amountInTable_9 (by decide) (fun hc => ?_) (fun hc => ?_)
      · have h := ite_t hc h
        refine lv_iload_n hx hb dX3_amountInTable_29 rfl (lv_at hl 1 rfl) ?_
        obtain rfl := Option.some.inj h
        exact hend _ _ _ _ dX3_amountInTable_30 rfl hP hS
      · have h := ite_f hc h
        refine lv_aload_n hx hb dX3_amountInTable_12 rfl (lv_at hl 0 rfl) ?_
        refine lv_iload_n hx hb dX3_amountInTable_13 rfl (lv_at hl 2 rfl) ?_
        obtain ⟨r14, hcal, h⟩ := bnd_s h
        refine x_VI (As := [.int v2]) hx hb hml hown hts hK hP hS (ct_X3_isInTable l D a cA cT hI g t v2 ht r14 hcal) (tT_21 ht) (C := RX3) (F := TX3) (N := 4) rfl (g_V q220 q221 q222 q37 q223) yd_X3_isInTable ⟨Nat.le_of_ble_eq_true rfl, Nat.le_of_ble_eq_true rfl⟩ [] rfl (Nat.le_of_ble_eq_true rfl) hl.1 ⟨Nat.le_refl _, Nat.le_refl _⟩ dX3_amountInTable_14 (fun H locs hP hS => ?_)
        refine lv_if_eq (tgt := 23) hx hb dX3_amountInTable_17 (by decide) (fun hc => ?_) (fun hc => ?_)
        · have h := ite_t hc h
          refine lv_iinc (v := (v2 + (1 : Int32))) (lv' := [(2, .int (v2 + (1 : Int32))), (0, .ref (a (21 + 15 * t))), (1, .int v1)]) hx hb dX3_amountInTable_23 hl (k := 2) rfl rfl (by decide) rfl (fun ls hl => ?_)
          refine lv_goto (tgt := 4) hx hb dX3_amountInTable_26 (by decide) ?_
          exact ih4 v1 (v2 + (1 : Int32)) _ _ _ hP hS (lv_sub hl [1, 2, 0] rfl) h
        · have h := ite_f hc h
          refine lv_iinc (v := (v1 + (1 : Int32))) (lv' := [(1, .int (v1 + (1 : Int32))), (0, .ref (a (21 + 15 * t))), (2, .int v2)]) hx hb dX3_amountInTable_20 hl (k := 1) rfl rfl (by decide) rfl (fun ls hl => ?_)
          refine lv_iinc (v := (v2 + (1 : Int32))) (lv' := [(2, .int (v2 + (1 : Int32))), (1, .int (v1 + (1 : Int32))), (0, .ref (a (21 + 15 * t)))]) hx hb dX3_amountInTable_23 hl (k := 2) rfl rfl (by decide) rfl (fun ls hl => ?_)
          refine lv_goto (tgt := 4) hx hb dX3_amountInTable_26 (by decide) ?_
          exact ih4 (v1 + (1 : Int32)) (v2 + (1 : Int32)) _ _ _ hP hS (lv_sub hl [2, 1, 0] rfl) h
  exact K4 fuelN (0 : Int32) (0 : Int32) _ _ _ hP hS (lv_sub hl [2, 1, 0] rfl) h
set_option maxHeartbeats 4000000 in
set_option maxRecDepth 100000 in
theorem ct_X3_amountWithKeys (l : Launch) (D : va_G) (a : Nat → Nat) (cA cT : ClassId) (hI : WI a TC) (g : MG) (t : Nat) (x0 : Int32) (x1 : Int32) (x2 : Int32) (ht : t < 6) (r : Int32) (h : m_X3_amountWithKeys g t x0 x1 x2 = some r) :
    CtI l D a cA cT TC yX3_amountWithKeys (Cond.code yX3_amountWithKeys cX3_amountWithKeys 6 (some .int) :: lw_all) (rmm 3 66) [.ref (a (21 + 15 * t)), .int x0, .int x1, .int x2] g r g := by
  refine CtI.of (by decide +kernel) (Nat.le_of_ble_eq_true rfl) ?_
  intro p e s m args below meth c Q ls hx hb hml hown hts hK hP hS hl hend
  have hl : lv_has ls 6 [(0, .ref (a (21 + 15 * t))), (1, .int x0), (2, .int x1), (3, .int x2)] := hl
  unfold m_X3_amountWithKeys at h
  refine lv_iconst (v := (0 : Int32)) hx hb dX3_amountWithKeys_0 (by decide) ?_
  refine lv_istore (lv' := [(4, .int (0 : Int32)), (0, .ref (a (21 + 15 * t))), (1, .int x0), (2, .int x1), (3, .int x2)]) hx hb dX3_amountWithKeys_1 hl (by decide) rfl (fun ls hl => ?_)
  refine lv_iconst (v := (0 : Int32)) hx hb dX3_amountWithKeys_3 (by decide) ?_
  refine lv_istore (lv' := [(5, .int (0 : Int32)), (4, .int (0 : Int32)), (0, .ref (a (21 + 15 * t))), (1, .int x0), (2, .int x1), (3, .int x2)]) hx hb dX3_amountWithKeys_4 hl (by decide) rfl (fun ls hl => ?_)
  have K6 : ∀ (n6 : Nat) (v4 : Int32) (v5 : Int32) (H : Heap) (locs : List Loc) (ls : Array Slot), WP D a cA cT TC g H → va_S (AA a TC) s.heap H locs → lv_has ls 6 [(0, .ref (a (21 + 15 * t))), (1, .int x0), (2, .int x1), (3, .int x2), (4, .int v4), (5, .int v5)] → lpo (b_X3_amountWithKeys_L6 g t x0 x1 x2) n6 (v4, v5) = some r → W p l e (rmm 3 66) s m args below meth c H locs 0 0 Q (F0 m 6 ls []) := by
    intro n6
    induction n6 with
    | zero => intro v4 v5 H locs ls hP hS hl h; exact (lpo_0 h).elim
    | succ n6 ih6 =>
      intro v4 v5 H locs ls hP hS hl h
      have h : m_X3_amountWithKeys_L6 (lpo (b_X3_amountWithKeys_L6 g t x0 x1 x2) n6) g t x0 x1 x2 v4 v5 = some r := h
      unfold m_X3_amountWithKeys_L6 at h
      refine lv_iload hx hb dX3_amountWithKeys_6 (lv_at hl 5 rfl) ?_
      refine lv_aload_n hx hb dX3_amountWithKeys_8 rfl (lv_at hl 0 rfl) ?_
      refine x_get hx hb hts inX3 hown hK hP (tT_21 ht) (C := RX3) (F := TX3) (N := 4) rfl 3 (by decide) q74 rfl rfl dX3_amountWithKeys_9 ?_
      refine lv_icmp_ge (tgt := 36) hx hb dX3_amountWithKeys_12 (by decide) (fun hc => ?_) (fun hc => ?_)
      · have h := ite_t hc h
        refine lv_iload hx hb dX3_amountWithKeys_36 (lv_at hl 4 rfl) ?_
        obtain rfl := Option.some.inj h
        exact hend _ _ _ _ dX3_amountWithKeys_38 rfl hP hS
      · have h := ite_f hc h
        refine lv_aload_n hx hb dX3_amountWithKeys_15 rfl (lv_at hl 0 rfl) ?_
        refine lv_iload hx hb dX3_amountWithKeys_16 (lv_at hl 5 rfl) ?_
        refine lv_iload_n hx hb dX3_amountWithKeys_18 rfl (lv_at hl 1 rfl) ?_
        refine lv_iload_n hx hb dX3_amountWithKeys_19 rfl (lv_at hl 2 rfl) ?_
        refine lv_iload_n hx hb dX3_amountWithKeys_20 rfl (lv_at hl 3 rfl) ?_
        obtain ⟨r21, hcal, h⟩ := bnd_s h
        refine x_VI (As := [.int v5, .int x0, .int x1, .int x2]) hx hb hml hown hts hK hP hS (ct_X3_liesWithKey l D a cA cT hI g t v5 x0 x1 x2 ht r21 hcal) (tT_21 ht) (C := RX3) (F := TX3) (N := 4) rfl (g_V q240 q241 q1 q37 q242) yd_X3_liesWithKey ⟨Nat.le_of_ble_eq_true rfl, Nat.le_of_ble_eq_true rfl⟩ [] rfl (Nat.le_of_ble_eq_true rfl) hl.1 ⟨Nat.le_refl _, Nat.le_refl _⟩ dX3_amountWithKeys_21 (fun H locs hP hS => ?_)
        refine lv_if_eq (tgt := 30) hx hb dX3_amountWithKeys_24 (by decide) (fun hc => ?_) (fun hc => ?_)
        · have h := ite_t hc h
          refine lv_iinc (v := (v5 + (1 : Int32))) (lv' := [(5, .int (v5 + (1 : Int32))), (0, .ref (a (21 + 15 * t))), (1, .int x0), (2, .int x1), (3, .int x2), (4, .int v4)]) hx hb dX3_amountWithKeys_30 hl (k := 5) rfl rfl (by decide) rfl (fun ls hl => ?_)
          refine lv_goto (tgt := 6) hx hb dX3_amountWithKeys_33 (by decide) ?_
          exact ih6 v4 (v5 + (1 : Int32)) _ _ _ hP hS (lv_sub hl [1, 2, 3, 4, 5, 0] rfl) h
        · have h := ite_f hc h
          refine lv_iinc (v := (v4 + (1 : Int32))) (lv' := [(4, .int (v4 + (1 : Int32))), (0, .ref (a (21 + 15 * t))), (1, .int x0), (2, .int x1), (3, .int x2), (5, .int v5)]) hx hb dX3_amountWithKeys_27 hl (k := 4) rfl rfl (by decide) rfl (fun ls hl => ?_)
          refine lv_iinc (v := (v5 + (1 : Int32))) (lv' := [(5, .int (v5 + (1 : Int32))), (4, .int (v4 + (1 : Int32))), (0, .ref (a (21 + 15 * t))), (1, .int x0), (2, .int x1), (3, .int x2)]) hx hb dX3_amountWithKeys_30 hl (k := 5) rfl rfl (by decide) rfl (fun ls hl => ?_)
          refine lv_goto (tgt := 6) hx hb dX3_amountWithKeys_33 (by decide) ?_
          exact ih6 (v4 + (1 : Int32)) (v5 + (1 : Int32)) _ _ _ hP hS (lv_sub hl [2, 3, 4, 5, 1, 0] rfl) h
  exact K6 fuelN (0 : Int32) (0 : Int32) _ _ _ hP hS (lv_sub hl [2, 3, 4, 5, 1, 0] rfl) h
set_option maxHeartbeats 4000000 in
set_option maxRecDepth 100000 in
theorem ct_X3_amountAt (l : Launch) (D : va_G) (a : Nat → Nat) (cA cT : ClassId) (hI : WI a TC) (g : MG) (t : Nat) (x0 : Int32) (ht : t < 6) (r : Int32) (h : m_X3_amountAt g t x0 = some r) :
    CtI l D a cA cT TC yX3_amountAt (Cond.code yX3_amountAt cX3_amountAt 2 (some .int) :: lw_all) (rmm 4 91) [.ref (a (21 + 15 * t)), .int x0] g r g := by
  refine CtI.of (by decide +kernel) (Nat.le_of_ble_eq_true rfl) ?_
  intro p e s m args below meth c Q ls hx hb hml hown hts hK hP hS hl hend
  have hl : lv_has ls 2 [(0, .ref (a (21 + 15 * t))), (1, .int x0)] := hl
  unfold m_X3_amountAt at h
  refine lv_aload_n hx hb dX3_amountAt_0 rfl (lv_at hl 0 rfl) ?_
  refine lv_iload_n hx hb dX3_amountAt_1 rfl (lv_at hl 1 rfl) ?_
  refine lv_iconst (v := (0 : Int32)) hx hb dX3_amountAt_2 (by decide) ?_
  refine lv_sipush (v := (1000 : Int32)) hx hb dX3_amountAt_3 (by decide) ?_
  obtain ⟨r6, hcal, h⟩ := bnd_s h
  refine x_VI (As := [.int x0, .int (0 : Int32), .int (1000 : Int32)]) hx hb hml hown hts hK hP hS (ct_X3_amountWithKeys l D a cA cT hI g t x0 (0 : Int32) (1000 : Int32) ht r6 hcal) (tT_21 ht) (C := RX3) (F := TX3) (N := 4) rfl (g_V q236 q237 q238 q37 q239) yd_X3_amountWithKeys ⟨Nat.le_of_ble_eq_true rfl, Nat.le_of_ble_eq_true rfl⟩ [] rfl (Nat.le_of_ble_eq_true rfl) hl.1 ⟨Nat.le_refl _, Nat.le_refl _⟩ dX3_amountAt_6 (fun H locs hP hS => ?_)
  obtain rfl := Option.some.inj h
  exact hend _ _ _ _ dX3_amountAt_9 rfl hP hS
set_option maxHeartbeats 4000000 in
set_option maxRecDepth 100000 in
theorem ct_X3_sumAt (l : Launch) (D : va_G) (a : Nat → Nat) (cA cT : ClassId) (hI : WI a TC) (g : MG) (t : Nat) (x0 : Int32) (ht : t < 6) (r : Int32) (h : m_X3_sumAt g t x0 = some r) :
    CtI l D a cA cT TC yX3_sumAt (Cond.code yX3_sumAt cX3_sumAt 4 (some .int) :: lw_all) (rmm 2 42) [.ref (a (21 + 15 * t)), .int x0] g r g := by
  refine CtI.of (by decide +kernel) (Nat.le_of_ble_eq_true rfl) ?_
  intro p e s m args below meth c Q ls hx hb hml hown hts hK hP hS hl hend
  have hl : lv_has ls 4 [(0, .ref (a (21 + 15 * t))), (1, .int x0)] := hl
  unfold m_X3_sumAt at h
  refine lv_iconst (v := (0 : Int32)) hx hb dX3_sumAt_0 (by decide) ?_
  refine lv_istore_n (lv' := [(2, .int (0 : Int32)), (0, .ref (a (21 + 15 * t))), (1, .int x0)]) hx hb dX3_sumAt_1 rfl hl (by decide) rfl (fun ls hl => ?_)
  refine lv_iconst (v := (0 : Int32)) hx hb dX3_sumAt_2 (by decide) ?_
  refine lv_istore_n (lv' := [(3, .int (0 : Int32)), (2, .int (0 : Int32)), (0, .ref (a (21 + 15 * t))), (1, .int x0)]) hx hb dX3_sumAt_3 rfl hl (by decide) rfl (fun ls hl => ?_)
  have K4 : ∀ (n4 : Nat) (v2 : Int32) (v3 : Int32) (H : Heap) (locs : List Loc) (ls : Array Slot), WP D a cA cT TC g H → va_S (AA a TC) s.heap H locs → lv_has ls 4 [(0, .ref (a (21 + 15 * t))), (1, .int x0), (2, .int v2), (3, .int v3)] → lpo (b_X3_sumAt_L4 g t x0) n4 (v2, v3) = some r → W p l e (rmm 2 42) s m args below meth c H locs 0 0 Q (F0 m 4 ls []) := by
    intro n4
    induction n4 with
    | zero => intro v2 v3 H locs ls hP hS hl h; exact (lpo_0 h).elim
    | succ n4 ih4 =>
      intro v2 v3 H locs ls hP hS hl h
      have h : m_X3_sumAt_L4 (lpo (b_X3_sumAt_L4 g t x0) n4) g t x0 v2 v3 = some r := h
      unfold m_X3_sumAt_L4 at h
      refine lv_iload_n hx hb dX3_sumAt_4 rfl (lv_at hl 3 rfl) ?_
      refine lv_aload_n hx hb dX3_sumAt_5 rfl (lv_at hl 0 rfl) ?_
      refine x_get hx hb hts inX3 hown hK hP (tT_21 ht) (C := RX3) (F := TX3) (N := 4) rfl 3 (by decide) q74 rfl rfl dX3_sumAt_6 ?_
      refine lv_icmp_ge (tgt := 35) hx hb dX3_sumAt_9 (by decide) (fun hc => ?_) (fun hc => ?_)
      · have h := ite_t hc h
        refine lv_iload_n hx hb dX3_sumAt_35 rfl (lv_at hl 2 rfl) ?_
        obtain rfl := Option.some.inj h
        exact hend _ _ _ _ dX3_sumAt_36 rfl hP hS
      · have h := ite_f hc h
        refine lv_aload_n hx hb dX3_sumAt_12 rfl (lv_at hl 0 rfl) ?_
        refine lv_iload_n hx hb dX3_sumAt_13 rfl (lv_at hl 3 rfl) ?_
        obtain ⟨r14, hcal, h⟩ := bnd_s h
        refine x_VI (As := [.int v3]) hx hb hml hown hts hK hP hS (ct_X3_placeOf l D a cA cT hI g t v3 ht r14 hcal) (tT_21 ht) (C := RX3) (F := TX3) (N := 4) rfl (g_V q224 q225 q226 q37 q227) yd_X3_placeOf ⟨Nat.le_of_ble_eq_true rfl, Nat.le_of_ble_eq_true rfl⟩ [] rfl (Nat.le_of_ble_eq_true rfl) hl.1 ⟨Nat.le_refl _, Nat.le_refl _⟩ dX3_sumAt_14 (fun H locs hP hS => ?_)
        refine lv_iload_n hx hb dX3_sumAt_17 rfl (lv_at hl 1 rfl) ?_
        refine lv_icmp_ne (tgt := 29) hx hb dX3_sumAt_18 (by decide) (fun hc => ?_) (fun hc => ?_)
        · have h := ite_f hc h
          refine lv_iinc (v := (v3 + (1 : Int32))) (lv' := [(3, .int (v3 + (1 : Int32))), (0, .ref (a (21 + 15 * t))), (1, .int x0), (2, .int v2)]) hx hb dX3_sumAt_29 hl (k := 3) rfl rfl (by decide) rfl (fun ls hl => ?_)
          refine lv_goto (tgt := 4) hx hb dX3_sumAt_32 (by decide) ?_
          exact ih4 v2 (v3 + (1 : Int32)) _ _ _ hP hS (lv_sub hl [1, 2, 3, 0] rfl) h
        · have h := ite_t hc h
          refine lv_iload_n hx hb dX3_sumAt_21 rfl (lv_at hl 2 rfl) ?_
          refine lv_aload_n hx hb dX3_sumAt_22 rfl (lv_at hl 0 rfl) ?_
          refine lv_iload_n hx hb dX3_sumAt_23 rfl (lv_at hl 3 rfl) ?_
          obtain ⟨r24, hcal, h⟩ := bnd_s h
          refine x_VI (As := [.int v3]) hx hb hml hown hts hK hP hS (ct_X3_valueOf l D a cA cT hI g t v3 ht r24 hcal) (tT_21 ht) (C := RX3) (F := TX3) (N := 4) rfl (g_V q360 q316 q317 q37 q318) yd_X3_valueOf ⟨Nat.le_of_ble_eq_true rfl, Nat.le_of_ble_eq_true rfl⟩ [.int v2] rfl (Nat.le_of_ble_eq_true rfl) hl.1 ⟨Nat.le_refl _, Nat.le_refl _⟩ dX3_sumAt_24 (fun H locs hP hS => ?_)
          refine lv_iadd hx hb dX3_sumAt_27 ?_
          refine lv_istore_n (lv' := [(2, .int (v2 + r24)), (0, .ref (a (21 + 15 * t))), (1, .int x0), (3, .int v3)]) hx hb dX3_sumAt_28 rfl hl (by decide) rfl (fun ls hl => ?_)
          refine lv_iinc (v := (v3 + (1 : Int32))) (lv' := [(3, .int (v3 + (1 : Int32))), (2, .int (v2 + r24)), (0, .ref (a (21 + 15 * t))), (1, .int x0)]) hx hb dX3_sumAt_29 hl (k := 3) rfl rfl (by decide) rfl (fun ls hl => ?_)
          refine lv_goto (tgt := 4) hx hb dX3_sumAt_32 (by decide) ?_
          exact ih4 (v2 + r24) (v3 + (1 : Int32)) _ _ _ hP hS (lv_sub hl [2, 3, 1, 0] rfl) h
  exact K4 fuelN (0 : Int32) (0 : Int32) _ _ _ hP hS (lv_sub hl [2, 3, 1, 0] rfl) h
set_option maxHeartbeats 4000000 in
set_option maxRecDepth 100000 in
theorem ct_X3_amountAhead (l : Launch) (D : va_G) (a : Nat → Nat) (cA cT : ClassId) (hI : WI a TC) (g : MG) (t : Nat) (x0 : Int32) (x1 : Int32) (ht : t < 6) (r : Int32) (h : m_X3_amountAhead g t x0 x1 = some r) :
    CtI l D a cA cT TC yX3_amountAhead (Cond.code yX3_amountAhead cX3_amountAhead 7 (some .int) :: lw_all) (rmm 2 42) [.ref (a (21 + 15 * t)), .int x0, .int x1] g r g := by
  refine CtI.of (by decide +kernel) (Nat.le_of_ble_eq_true rfl) ?_
  intro p e s m args below meth c Q ls hx hb hml hown hts hK hP hS hl hend
  have hl : lv_has ls 7 [(0, .ref (a (21 + 15 * t))), (1, .int x0), (2, .int x1)] := hl
  unfold m_X3_amountAhead at h
  refine lv_aload_n hx hb dX3_amountAhead_0 rfl (lv_at hl 0 rfl) ?_
  refine lv_iload_n hx hb dX3_amountAhead_1 rfl (lv_at hl 1 rfl) ?_
  obtain ⟨r2, hcal, h⟩ := bnd_s h
  refine x_VI (As := [.int x0]) hx hb hml hown hts hK hP hS (ct_X3_keyOf l D a cA cT hI g t x0 ht r2 hcal) (tT_21 ht) (C := RX3) (F := TX3) (N := 4) rfl (g_V q243 q244 q245 q37 q246) yd_X3_keyOf ⟨Nat.le_of_ble_eq_true rfl, Nat.le_of_ble_eq_true rfl⟩ [] rfl (Nat.le_of_ble_eq_true rfl) hl.1 ⟨Nat.le_refl _, Nat.le_refl _⟩ dX3_amountAhead_2 (fun H locs hP hS => ?_)
  refine lv_istore_n (lv' := [(3, .int r2), (0, .ref (a (21 + 15 * t))), (1, .int x0), (2, .int x1)]) hx hb dX3_amountAhead_5 rfl hl (by decide) rfl (fun ls hl => ?_)
  refine lv_iconst (v := (0 : Int32)) hx hb dX3_amountAhead_6 (by decide) ?_
  refine lv_istore (lv' := [(4, .int (0 : Int32)), (3, .int r2), (0, .ref (a (21 + 15 * t))), (1, .int x0), (2, .int x1)]) hx hb dX3_amountAhead_7 hl (by decide) rfl (fun ls hl => ?_)
  refine lv_iconst (v := (0 : Int32)) hx hb dX3_amountAhead_9 (by decide) ?_
  refine lv_istore (lv' := [(5, .int (0 : Int32)), (4, .int (0 : Int32)), (3, .int r2), (0, .ref (a (21 + 15 * t))), (1, .int x0), (2, .int x1)]) hx hb dX3_amountAhead_10 hl (by decide) rfl (fun ls hl => ?_)
  have K12 : ∀ (n12 : Nat) (v4 : Int32) (v5 : Int32) (H : Heap) (locs : List Loc) (ls : Array Slot), WP D a cA cT TC g H → va_S (AA a TC) s.heap H locs → lv_has ls 7 [(0, .ref (a (21 + 15 * t))), (1, .int x0), (2, .int x1), (3, .int r2), (4, .int v4), (5, .int v5)] → lpo (b_X3_amountAhead_L12 g t x0 x1 r2) n12 (v4, v5) = some r → W p l e (rmm 2 42) s m args below meth c H locs 0 0 Q (F0 m 12 ls []) := by
    intro n12
    induction n12 with
    | zero => intro v4 v5 H locs ls hP hS hl h; exact (lpo_0 h).elim
    | succ n12 ih12 =>
      intro v4 v5 H locs ls hP hS hl h
      have h : m_X3_amountAhead_L12 (lpo (b_X3_amountAhead_L12 g t x0 x1 r2) n12) g t x0 x1 r2 v4 v5 = some r := h
      unfold m_X3_amountAhead_L12 at h
      refine lv_iload hx hb dX3_amountAhead_12 (lv_at hl 5 rfl) ?_
      refine lv_aload_n hx hb dX3_amountAhead_14 rfl (lv_at hl 0 rfl) ?_
      refine x_get hx hb hts inX3 hown hK hP (tT_21 ht) (C := RX3) (F := TX3) (N := 4) rfl 3 (by decide) q74 rfl rfl dX3_amountAhead_15 ?_
      refine lv_icmp_ge (tgt := 78) hx hb dX3_amountAhead_18 (by decide) (fun hc => ?_) (fun hc => ?_)
      · have h := ite_t hc h
        refine lv_iload hx hb dX3_amountAhead_78 (lv_at hl 4 rfl) ?_
        obtain rfl := Option.some.inj h
        exact hend _ _ _ _ dX3_amountAhead_80 rfl hP hS
      · have h := ite_f hc h
        refine lv_aload_n hx hb dX3_amountAhead_21 rfl (lv_at hl 0 rfl) ?_
        refine lv_iload hx hb dX3_amountAhead_22 (lv_at hl 5 rfl) ?_
        obtain ⟨r24, hcal, h⟩ := bnd_s h
        refine x_VI (As := [.int v5]) hx hb hml hown hts hK hP hS (ct_X3_keyOf l D a cA cT hI g t v5 ht r24 hcal) (tT_21 ht) (C := RX3) (F := TX3) (N := 4) rfl (g_V q243 q244 q245 q37 q246) yd_X3_keyOf ⟨Nat.le_of_ble_eq_true rfl, Nat.le_of_ble_eq_true rfl⟩ [] rfl (Nat.le_of_ble_eq_true rfl) hl.1 ⟨Nat.le_refl _, Nat.le_refl _⟩ dX3_amountAhead_24 (fun H locs hP hS => ?_)
        refine lv_iload_n hx hb dX3_amountAhead_27 rfl (lv_at hl 3 rfl) ?_
        refine lv_icmp_lt (tgt := 47) hx hb dX3_amountAhead_28 (by decide) (fun hc => ?_) (fun hc => ?_)
        · have h := ite_t hc h
          refine lv_iconst (v := (1 : Int32)) hx hb dX3_amountAhead_47 (by decide) ?_
          refine lv_goto (tgt := 52) hx hb dX3_amountAhead_48 (by decide) ?_
          refine lv_istore (lv' := [(6, .int (1 : Int32)), (0, .ref (a (21 + 15 * t))), (1, .int x0), (2, .int x1), (3, .int r2), (4, .int v4), (5, .int v5)]) hx hb dX3_amountAhead_52 hl (by decide) rfl (fun ls hl => ?_)
          refine lv_iload hx hb dX3_amountAhead_54 (lv_at hl 0 rfl) ?_
          refine lv_if_eq (tgt := 72) hx hb dX3_amountAhead_56 (by decide) (fun hc => ?_) (fun hc => ?_)
          · have h := ite_t hc h
            refine lv_iinc (v := (v5 + (1 : Int32))) (lv' := [(5, .int (v5 + (1 : Int32))), (6, .int (1 : Int32)), (0, .ref (a (21 + 15 * t))), (1, .int x0), (2, .int x1), (3, .int r2), (4, .int v4)]) hx hb dX3_amountAhead_72 hl (k := 6) rfl rfl (by decide) rfl (fun ls hl => ?_)
            refine lv_goto (tgt := 12) hx hb dX3_amountAhead_75 (by decide) ?_
            exact ih12 v4 (v5 + (1 : Int32)) _ _ _ hP hS (lv_sub hl [2, 3, 4, 5, 6, 0] rfl) h
          · have h := ite_f hc h
            refine lv_aload_n hx hb dX3_amountAhead_59 rfl (lv_at hl 1 rfl) ?_
            refine lv_iload hx hb dX3_amountAhead_60 (lv_at hl 6 rfl) ?_
            obtain ⟨r62, hcal, h⟩ := bnd_s h
            refine x_VI (As := [.int v5]) hx hb hml hown hts hK hP hS (ct_X3_placeOf l D a cA cT hI g t v5 ht r62 hcal) (tT_21 ht) (C := RX3) (F := TX3) (N := 4) rfl (g_V q224 q225 q226 q37 q227) yd_X3_placeOf ⟨Nat.le_of_ble_eq_true rfl, Nat.le_of_ble_eq_true rfl⟩ [] rfl (Nat.le_of_ble_eq_true rfl) hl.1 ⟨Nat.le_refl _, Nat.le_refl _⟩ dX3_amountAhead_62 (fun H locs hP hS => ?_)
            refine lv_iload_n hx hb dX3_amountAhead_65 rfl (lv_at hl 3 rfl) ?_
            refine lv_icmp_ne (tgt := 72) hx hb dX3_amountAhead_66 (by decide) (fun hc => ?_) (fun hc => ?_)
            · have h := ite_f hc h
              refine lv_iinc (v := (v5 + (1 : Int32))) (lv' := [(5, .int (v5 + (1 : Int32))), (6, .int (1 : Int32)), (0, .ref (a (21 + 15 * t))), (1, .int x0), (2, .int x1), (3, .int r2), (4, .int v4)]) hx hb dX3_amountAhead_72 hl (k := 6) rfl rfl (by decide) rfl (fun ls hl => ?_)
              refine lv_goto (tgt := 12) hx hb dX3_amountAhead_75 (by decide) ?_
              exact ih12 v4 (v5 + (1 : Int32)) _ _ _ hP hS (lv_sub hl [2, 3, 4, 5, 6, 0] rfl) h
            · have h := ite_t hc h
              refine lv_iinc (v := (v4 + (1 : Int32))) (lv' := [(4, .int (v4 + (1 : Int32))), (6, .int (1 : Int32)), (0, .ref (a (21 + 15 * t))), (1, .int x0), (2, .int x1), (3, .int r2), (5, .int v5)]) hx hb dX3_amountAhead_69 hl (k := 5) rfl rfl (by decide) rfl (fun ls hl => ?_)
              refine lv_iinc (v := (v5 + (1 : Int32))) (lv' := [(5, .int (v5 + (1 : Int32))), (4, .int (v4 + (1 : Int32))), (6, .int (1 : Int32)), (0, .ref (a (21 + 15 * t))), (1, .int x0), (2, .int x1), (3, .int r2)]) hx hb dX3_amountAhead_72 hl (k := 6) rfl rfl (by decide) rfl (fun ls hl => ?_)
              refine lv_goto (tgt := 12) hx hb dX3_amountAhead_75 (by decide) ?_
              exact ih12 (v4 + (1 : Int32)) (v5 + (1 : Int32)) _ _ _ hP hS (lv_sub hl [3, 4, 5, 6, 1, 0] rfl) h
        · have h := ite_f hc h
          refine lv_aload_n hx hb dX3_amountAhead_31 rfl (lv_at hl 0 rfl) ?_
          refine lv_iload hx hb dX3_amountAhead_32 (lv_at hl 5 rfl) ?_
          obtain ⟨r34, hcal, h⟩ := bnd_s h
          refine x_VI (As := [.int v5]) hx hb hml hown hts hK hP hS (ct_X3_keyOf l D a cA cT hI g t v5 ht r34 hcal) (tT_21 ht) (C := RX3) (F := TX3) (N := 4) rfl (g_V q243 q244 q245 q37 q246) yd_X3_keyOf ⟨Nat.le_of_ble_eq_true rfl, Nat.le_of_ble_eq_true rfl⟩ [] rfl (Nat.le_of_ble_eq_true rfl) hl.1 ⟨Nat.le_refl _, Nat.le_refl _⟩ dX3_amountAhead_34 (fun H locs hP hS => ?_)
          refine lv_iload_n hx hb dX3_amountAhead_37 rfl (lv_at hl 3 rfl) ?_
          refine lv_icmp_ne (tgt := 51) hx hb dX3_amountAhead_38 (by decide) (fun hc => ?_) (fun hc => ?_)
          · have h := ite_f hc h
            refine lv_iconst (v := (0 : Int32)) hx hb dX3_amountAhead_51 (by decide) ?_
            refine lv_istore (lv' := [(6, .int (0 : Int32)), (0, .ref (a (21 + 15 * t))), (1, .int x0), (2, .int x1), (3, .int r2), (4, .int v4), (5, .int v5)]) hx hb dX3_amountAhead_52 hl (by decide) rfl (fun ls hl => ?_)
            refine lv_iload hx hb dX3_amountAhead_54 (lv_at hl 0 rfl) ?_
            refine lv_if_eq (tgt := 72) hx hb dX3_amountAhead_56 (by decide) (fun hc => ?_) (fun hc => ?_)
            · have h := ite_t hc h
              refine lv_iinc (v := (v5 + (1 : Int32))) (lv' := [(5, .int (v5 + (1 : Int32))), (6, .int (0 : Int32)), (0, .ref (a (21 + 15 * t))), (1, .int x0), (2, .int x1), (3, .int r2), (4, .int v4)]) hx hb dX3_amountAhead_72 hl (k := 6) rfl rfl (by decide) rfl (fun ls hl => ?_)
              refine lv_goto (tgt := 12) hx hb dX3_amountAhead_75 (by decide) ?_
              exact ih12 v4 (v5 + (1 : Int32)) _ _ _ hP hS (lv_sub hl [2, 3, 4, 5, 6, 0] rfl) h
            · have h := ite_f hc h
              refine lv_aload_n hx hb dX3_amountAhead_59 rfl (lv_at hl 1 rfl) ?_
              refine lv_iload hx hb dX3_amountAhead_60 (lv_at hl 6 rfl) ?_
              obtain ⟨r62, hcal, h⟩ := bnd_s h
              refine x_VI (As := [.int v5]) hx hb hml hown hts hK hP hS (ct_X3_placeOf l D a cA cT hI g t v5 ht r62 hcal) (tT_21 ht) (C := RX3) (F := TX3) (N := 4) rfl (g_V q224 q225 q226 q37 q227) yd_X3_placeOf ⟨Nat.le_of_ble_eq_true rfl, Nat.le_of_ble_eq_true rfl⟩ [] rfl (Nat.le_of_ble_eq_true rfl) hl.1 ⟨Nat.le_refl _, Nat.le_refl _⟩ dX3_amountAhead_62 (fun H locs hP hS => ?_)
              refine lv_iload_n hx hb dX3_amountAhead_65 rfl (lv_at hl 3 rfl) ?_
              refine lv_icmp_ne (tgt := 72) hx hb dX3_amountAhead_66 (by decide) (fun hc => ?_) (fun hc => ?_)
              · have h := ite_f hc h
                refine lv_iinc (v := (v5 + (1 : Int32))) (lv' := [(5, .int (v5 + (1 : Int32))), (6, .int (0 : Int32)), (0, .ref (a (21 + 15 * t))), (1, .int x0), (2, .int x1), (3, .int r2), (4, .int v4)]) hx hb dX3_amountAhead_72 hl (k := 6) rfl rfl (by decide) rfl (fun ls hl => ?_)
                refine lv_goto (tgt := 12) hx hb dX3_amountAhead_75 (by decide) ?_
                exact ih12 v4 (v5 + (1 : Int32)) _ _ _ hP hS (lv_sub hl [2, 3, 4, 5, 6, 0] rfl) h
              · have h := ite_t hc h
                refine lv_iinc (v := (v4 + (1 : Int32))) (lv' := [(4, .int (v4 + (1 : Int32))), (6, .int (0 : Int32)), (0, .ref (a (21 + 15 * t))), (1, .int x0), (2, .int x1), (3, .int r2), (5, .int v5)]) hx hb dX3_amountAhead_69 hl (k := 5) rfl rfl (by decide) rfl (fun ls hl => ?_)
                refine lv_iinc (v := (v5 + (1 : Int32))) (lv' := [(5, .int (v5 + (1 : Int32))), (4, .int (v4 + (1 : Int32))), (6, .int (0 : Int32)), (0, .ref (a (21 + 15 * t))), (1, .int x0), (2, .int x1), (3, .int r2)]) hx hb dX3_amountAhead_72 hl (k := 6) rfl rfl (by decide) rfl (fun ls hl => ?_)
                refine lv_goto (tgt := 12) hx hb dX3_amountAhead_75 (by decide) ?_
                exact ih12 (v4 + (1 : Int32)) (v5 + (1 : Int32)) _ _ _ hP hS (lv_sub hl [3, 4, 5, 6, 1, 0] rfl) h
          · have h := ite_t hc h
            refine lv_iload hx hb dX3_amountAhead_41 (lv_at hl 5 rfl) ?_
            refine lv_iload_n hx hb dX3_amountAhead_43 rfl (lv_at hl 1 rfl) ?_
            refine lv_icmp_ge (tgt := 51) hx hb dX3_amountAhead_44 (by decide) (fun hc => ?_) (fun hc => ?_)
            · have h := ite_t hc h
              refine lv_iconst (v := (0 : Int32)) hx hb dX3_amountAhead_51 (by decide) ?_
              refine lv_istore (lv' := [(6, .int (0 : Int32)), (0, .ref (a (21 + 15 * t))), (1, .int x0), (2, .int x1), (3, .int r2), (4, .int v4), (5, .int v5)]) hx hb dX3_amountAhead_52 hl (by decide) rfl (fun ls hl => ?_)
              refine lv_iload hx hb dX3_amountAhead_54 (lv_at hl 0 rfl) ?_
              refine lv_if_eq (tgt := 72) hx hb dX3_amountAhead_56 (by decide) (fun hc => ?_) (fun hc => ?_)
              · have h := ite_t hc h
                refine lv_iinc (v := (v5 + (1 : Int32))) (lv' := [(5, .int (v5 + (1 : Int32))), (6, .int (0 : Int32)), (0, .ref (a (21 + 15 * t))), (1, .int x0), (2, .int x1), (3, .int r2), (4, .int v4)]) hx hb dX3_amountAhead_72 hl (k := 6) rfl rfl (by decide) rfl (fun ls hl => ?_)
                refine lv_goto (tgt := 12) hx hb dX3_amountAhead_75 (by decide) ?_
                exact ih12 v4 (v5 + (1 : Int32)) _ _ _ hP hS (lv_sub hl [2, 3, 4, 5, 6, 0] rfl) h
              · have h := ite_f hc h
                refine lv_aload_n hx hb dX3_amountAhead_59 rfl (lv_at hl 1 rfl) ?_
                refine lv_iload hx hb dX3_amountAhead_60 (lv_at hl 6 rfl) ?_
                obtain ⟨r62, hcal, h⟩ := bnd_s h
                refine x_VI (As := [.int v5]) hx hb hml hown hts hK hP hS (ct_X3_placeOf l D a cA cT hI g t v5 ht r62 hcal) (tT_21 ht) (C := RX3) (F := TX3) (N := 4) rfl (g_V q224 q225 q226 q37 q227) yd_X3_placeOf ⟨Nat.le_of_ble_eq_true rfl, Nat.le_of_ble_eq_true rfl⟩ [] rfl (Nat.le_of_ble_eq_true rfl) hl.1 ⟨Nat.le_refl _, Nat.le_refl _⟩ dX3_amountAhead_62 (fun H locs hP hS => ?_)
                refine lv_iload_n hx hb dX3_amountAhead_65 rfl (lv_at hl 3 rfl) ?_
                refine lv_icmp_ne (tgt := 72) hx hb dX3_amountAhead_66 (by decide) (fun hc => ?_) (fun hc => ?_)
                · have h := ite_f hc h
                  refine lv_iinc (v := (v5 + (1 : Int32))) (lv' := [(5, .int (v5 + (1 : Int32))), (6, .int (0 : Int32)), (0, .ref (a (21 + 15 * t))), (1, .int x0), (2, .int x1), (3, .int r2), (4, .int v4)]) hx hb dX3_amountAhead_72 hl (k := 6) rfl rfl (by decide) rfl (fun ls hl => ?_)
                  refine lv_goto (tgt := 12) hx hb dX3_amountAhead_75 (by decide) ?_
                  exact ih12 v4 (v5 + (1 : Int32)) _ _ _ hP hS (lv_sub hl [2, 3, 4, 5, 6, 0] rfl) h
                · have h := ite_t hc h
                  refine lv_iinc (v := (v4 + (1 : Int32))) (lv' := [(4, .int (v4 + (1 : Int32))), (6, .int (0 : Int32)), (0, .ref (a (21 + 15 * t))), (1, .int x0), (2, .int x1), (3, .int r2), (5, .int v5)]) hx hb dX3_amountAhead_69 hl (k := 5) rfl rfl (by decide) rfl (fun ls hl => ?_)
                  refine lv_iinc (v := (v5 + (1 : Int32))) (lv' := [(5, .int (v5 + (1 : Int32))), (4, .int (v4 + (1 : Int32))), (6, .int (0 : Int32)), (0, .ref (a (21 + 15 * t))), (1, .int x0), (2, .int x1), (3, .int r2)]) hx hb dX3_amountAhead_72 hl (k := 6) rfl rfl (by decide) rfl (fun ls hl => ?_)
                  refine lv_goto (tgt := 12) hx hb dX3_amountAhead_75 (by decide) ?_
                  exact ih12 (v4 + (1 : Int32)) (v5 + (1 : Int32)) _ _ _ hP hS (lv_sub hl [3, 4, 5, 6, 1, 0] rfl) h
            · have h := ite_f hc h
              refine lv_iconst (v := (1 : Int32)) hx hb dX3_amountAhead_47 (by decide) ?_
              refine lv_goto (tgt := 52) hx hb dX3_amountAhead_48 (by decide) ?_
              refine lv_istore (lv' := [(6, .int (1 : Int32)), (0, .ref (a (21 + 15 * t))), (1, .int x0), (2, .int x1), (3, .int r2), (4, .int v4), (5, .int v5)]) hx hb dX3_amountAhead_52 hl (by decide) rfl (fun ls hl => ?_)
              refine lv_iload hx hb dX3_amountAhead_54 (lv_at hl 0 rfl) ?_
              refine lv_if_eq (tgt := 72) hx hb dX3_amountAhead_56 (by decide) (fun hc => ?_) (fun hc => ?_)
              · have h := ite_t hc h
                refine lv_iinc (v := (v5 + (1 : Int32))) (lv' := [(5, .int (v5 + (1 : Int32))), (6, .int (1 : Int32)), (0, .ref (a (21 + 15 * t))), (1, .int x0), (2, .int x1), (3, .int r2), (4, .int v4)]) hx hb dX3_amountAhead_72 hl (k := 6) rfl rfl (by decide) rfl (fun ls hl => ?_)
                refine lv_goto (tgt := 12) hx hb dX3_amountAhead_75 (by decide) ?_
                exact ih12 v4 (v5 + (1 : Int32)) _ _ _ hP hS (lv_sub hl [2, 3, 4, 5, 6, 0] rfl) h
              · have h := ite_f hc h
                refine lv_aload_n hx hb dX3_amountAhead_59 rfl (lv_at hl 1 rfl) ?_
                refine lv_iload hx hb dX3_amountAhead_60 (lv_at hl 6 rfl) ?_
                obtain ⟨r62, hcal, h⟩ := bnd_s h
                refine x_VI (As := [.int v5]) hx hb hml hown hts hK hP hS (ct_X3_placeOf l D a cA cT hI g t v5 ht r62 hcal) (tT_21 ht) (C := RX3) (F := TX3) (N := 4) rfl (g_V q224 q225 q226 q37 q227) yd_X3_placeOf ⟨Nat.le_of_ble_eq_true rfl, Nat.le_of_ble_eq_true rfl⟩ [] rfl (Nat.le_of_ble_eq_true rfl) hl.1 ⟨Nat.le_refl _, Nat.le_refl _⟩ dX3_amountAhead_62 (fun H locs hP hS => ?_)
                refine lv_iload_n hx hb dX3_amountAhead_65 rfl (lv_at hl 3 rfl) ?_
                refine lv_icmp_ne (tgt := 72) hx hb dX3_amountAhead_66 (by decide) (fun hc => ?_) (fun hc => ?_)
                · have h := ite_f hc h
                  refine lv_iinc (v := (v5 + (1 : Int32))) (lv' := [(5, .int (v5 + (1 : Int32))), (6, .int (1 : Int32)), (0, .ref (a (21 + 15 * t))), (1, .int x0), (2, .int x1), (3, .int r2), (4, .int v4)]) hx hb dX3_amountAhead_72 hl (k := 6) rfl rfl (by decide) rfl (fun ls hl => ?_)
                  refine lv_goto (tgt := 12) hx hb dX3_amountAhead_75 (by decide) ?_
                  exact ih12 v4 (v5 + (1 : Int32)) _ _ _ hP hS (lv_sub hl [2, 3, 4, 5, 6, 0] rfl) h
                · have h := ite_t hc h
                  refine lv_iinc (v := (v4 + (1 : Int32))) (lv' := [(4, .int (v4 + (1 : Int32))), (6, .int (1 : Int32)), (0, .ref (a (21 + 15 * t))), (1, .int x0), (2, .int x1), (3, .int r2), (5, .int v5)]) hx hb dX3_amountAhead_69 hl (k := 5) rfl rfl (by decide) rfl (fun ls hl => ?_)
                  refine lv_iinc (v := (v5 + (1 : Int32))) (lv' := [(5, .int (v5 + (1 : Int32))), (4, .int (v4 + (1 : Int32))), (6, .int (1 : Int32)), (0, .ref (a (21 + 15 * t))), (1, .int x0), (2, .int x1), (3, .int r2)]) hx hb dX3_amountAhead_72 hl (k := 6) rfl rfl (by decide) rfl (fun ls hl => ?_)
                  refine lv_goto (tgt := 12) hx hb dX3_amountAhead_75 (by decide) ?_
                  exact ih12 (v4 + (1 : Int32)) (v5 + (1 : Int32)) _ _ _ hP hS (lv_sub hl [3, 4, 5, 6, 1, 0] rfl) h
  exact K12 fuelN (0 : Int32) (0 : Int32) _ _ _ hP hS (lv_sub hl [3, 4, 5, 2, 1, 0] rfl) h
set_option maxHeartbeats 4000000 in
set_option maxRecDepth 100000 in
theorem ct_X3_ranked (l : Launch) (D : va_G) (a : Nat → Nat) (cA cT : ClassId) (hI : WI a TC) (g : MG) (t : Nat) (x0 : Int32) (x1 : Int32) (ht : t < 6) (r : Int32) (h : m_X3_ranked g t x0 x1 = some r) :
    CtI l D a cA cT TC yX3_ranked (Cond.code yX3_ranked cX3_ranked 4 (some .int) :: lw_all) (rmm 3 68) [.ref (a (21 + 15 * t)), .int x0, .int x1] g r g := by
  refine CtI.of (by decide +kernel) (Nat.le_of_ble_eq_true rfl) ?_
  intro p e s m args below meth c Q ls hx hb hml hown hts hK hP hS hl hend
  have hl : lv_has ls 4 [(0, .ref (a (21 + 15 * t))), (1, .int x0), (2, .int x1)] := hl
  unfold m_X3_ranked at h
  refine lv_iconst (v := (0 : Int32)) hx hb dX3_ranked_0 (by decide) ?_
  refine lv_istore_n (lv' := [(3, .int (0 : Int32)), (0, .ref (a (21 + 15 * t))), (1, .int x0), (2, .int x1)]) hx hb dX3_ranked_1 rfl hl (by decide) rfl (fun ls hl => ?_)
  have K2 : ∀ (n2 : Nat) (v3 : Int32) (H : Heap) (locs : List Loc) (ls : Array Slot), WP D a cA cT TC g H → va_S (AA a TC) s.heap H locs → lv_has ls 4 [(0, .ref (a (21 + 15 * t))), (1, .int x0), (2, .int x1), (3, .int v3)] → lpo (b_X3_ranked_L2 g t x0 x1) n2 v3 = some r → W p l e (rmm 3 68) s m args below meth c H locs 0 0 Q (F0 m 2 ls []) := by
    intro n2
    induction n2 with
    | zero => intro v3 H locs ls hP hS hl h; exact (lpo_0 h).elim
    | succ n2 ih2 =>
      intro v3 H locs ls hP hS hl h
      have h : m_X3_ranked_L2 (lpo (b_X3_ranked_L2 g t x0 x1) n2) g t x0 x1 v3 = some r := h
      unfold m_X3_ranked_L2 at h
      refine lv_iload_n hx hb dX3_ranked_2 rfl (lv_at hl 3 rfl) ?_
      refine lv_aload_n hx hb dX3_ranked_3 rfl (lv_at hl 0 rfl) ?_
      refine x_get hx hb hts inX3 hown hK hP (tT_21 ht) (C := RX3) (F := TX3) (N := 4) rfl 3 (by decide) q74 rfl rfl dX3_ranked_4 ?_
      refine lv_icmp_ge (tgt := 37) hx hb dX3_ranked_7 (by decide) (fun hc => ?_) (fun hc => ?_)
      · have h := ite_t hc h
        refine lv_sipush (v := (-1005 : Int32)) hx hb dX3_ranked_37 (by decide) ?_
        obtain rfl := Option.some.inj h
        exact hend _ _ _ _ dX3_ranked_40 rfl hP hS
      · have h := ite_f hc h
        refine lv_aload_n hx hb dX3_ranked_10 rfl (lv_at hl 0 rfl) ?_
        refine lv_iload_n hx hb dX3_ranked_11 rfl (lv_at hl 3 rfl) ?_
        obtain ⟨r12, hcal, h⟩ := bnd_s h
        refine x_VI (As := [.int v3]) hx hb hml hown hts hK hP hS (ct_X3_placeOf l D a cA cT hI g t v3 ht r12 hcal) (tT_21 ht) (C := RX3) (F := TX3) (N := 4) rfl (g_V q224 q225 q226 q37 q227) yd_X3_placeOf ⟨Nat.le_of_ble_eq_true rfl, Nat.le_of_ble_eq_true rfl⟩ [] rfl (Nat.le_of_ble_eq_true rfl) hl.1 ⟨Nat.le_refl _, Nat.le_refl _⟩ dX3_ranked_12 (fun H locs hP hS => ?_)
        refine lv_iload_n hx hb dX3_ranked_15 rfl (lv_at hl 1 rfl) ?_
        refine lv_icmp_ne (tgt := 31) hx hb dX3_ranked_16 (by decide) (fun hc => ?_) (fun hc => ?_)
        · have h := ite_f hc h
          refine lv_iinc (v := (v3 + (1 : Int32))) (lv' := [(3, .int (v3 + (1 : Int32))), (0, .ref (a (21 + 15 * t))), (1, .int x0), (2, .int x1)]) hx hb dX3_ranked_31 hl (k := 3) rfl rfl (by decide) rfl (fun ls hl => ?_)
          refine lv_goto (tgt := 2) hx hb dX3_ranked_34 (by decide) ?_
          exact ih2 (v3 + (1 : Int32)) _ _ _ hP hS (lv_sub hl [1, 2, 3, 0] rfl) h
        · have h := ite_t hc h
          refine lv_aload_n hx hb dX3_ranked_19 rfl (lv_at hl 0 rfl) ?_
          refine lv_iload_n hx hb dX3_ranked_20 rfl (lv_at hl 3 rfl) ?_
          refine lv_iload_n hx hb dX3_ranked_21 rfl (lv_at hl 1 rfl) ?_
          obtain ⟨r22, hcal, h⟩ := bnd_s h
          refine x_VI (As := [.int v3, .int x0]) hx hb hml hown hts hK hP hS (ct_X3_amountAhead l D a cA cT hI g t v3 x0 ht r22 hcal) (tT_21 ht) (C := RX3) (F := TX3) (N := 4) rfl (g_V q353 q354 q4 q37 q355) yd_X3_amountAhead ⟨Nat.le_of_ble_eq_true rfl, Nat.le_of_ble_eq_true rfl⟩ [] rfl (Nat.le_of_ble_eq_true rfl) hl.1 ⟨Nat.le_refl _, Nat.le_refl _⟩ dX3_ranked_22 (fun H locs hP hS => ?_)
          refine lv_iload_n hx hb dX3_ranked_25 rfl (lv_at hl 2 rfl) ?_
          refine lv_icmp_ne (tgt := 31) hx hb dX3_ranked_26 (by decide) (fun hc => ?_) (fun hc => ?_)
          · have h := ite_f hc h
            refine lv_iinc (v := (v3 + (1 : Int32))) (lv' := [(3, .int (v3 + (1 : Int32))), (0, .ref (a (21 + 15 * t))), (1, .int x0), (2, .int x1)]) hx hb dX3_ranked_31 hl (k := 3) rfl rfl (by decide) rfl (fun ls hl => ?_)
            refine lv_goto (tgt := 2) hx hb dX3_ranked_34 (by decide) ?_
            exact ih2 (v3 + (1 : Int32)) _ _ _ hP hS (lv_sub hl [1, 2, 3, 0] rfl) h
          · have h := ite_t hc h
            refine lv_iload_n hx hb dX3_ranked_29 rfl (lv_at hl 3 rfl) ?_
            obtain rfl := Option.some.inj h
            exact hend _ _ _ _ dX3_ranked_30 rfl hP hS
  exact K2 fuelN (0 : Int32) _ _ _ hP hS (lv_sub hl [1, 2, 3, 0] rfl) h
set_option maxHeartbeats 4000000 in
set_option maxRecDepth 100000 in
theorem ct_X4_isFull (l : Launch) (D : va_G) (a : Nat → Nat) (cA cT : ClassId) (hI : WI a TC) (g : MG) (t : Nat) (ht : t < 6) (r : Int32) (h : m_X4_isFull g t = some r) :
    CtI l D a cA cT TC yX4_isFull (Cond.code yX4_isFull cX4_isFull 1 (some .boolean) :: lw_all) (rmm 0 0) [.ref (a (22 + 15 * t))] g r g := by
  refine CtI.of (by decide +kernel) (Nat.le_of_ble_eq_true rfl) ?_
  intro p e s m args below meth c Q ls hx hb hml hown hts hK hP hS hl hend
  have hl : lv_has ls 1 [(0, .ref (a (22 + 15 * t)))] := hl
  unfold m_X4_isFull at h
  refine lv_aload_n hx hb dX4_isFull_0 rfl (lv_at hl 0 rfl) ?_
  refine x_get hx hb hts inX4 hown hK hP (tT_22 ht) (C := RX4) (F := TX4) (N := 5) rfl 3 (by decide) q91 rfl rfl dX4_isFull_1 ?_
  refine lv_bipush (v := (12 : Int32)) hx hb dX4_isFull_4 (by decide) ?_
  refine lv_icmp_ge (tgt := 18) hx hb dX4_isFull_6 (by decide) (fun hc => ?_) (fun hc => ?_)
  · have h := ite_t hc h
    refine lv_iconst (v := (1 : Int32)) hx hb dX4_isFull_18 (by decide) ?_
    refine lv_goto (tgt := 23) hx hb dX4_isFull_19 (by decide) ?_
    obtain rfl := Option.some.inj h
    exact hend _ _ _ _ dX4_isFull_23 rfl hP hS
  · have h := ite_f hc h
    refine lv_aload_n hx hb dX4_isFull_9 rfl (lv_at hl 0 rfl) ?_
    refine x_get hx hb hts inX4 hown hK hP (tT_22 ht) (C := RX4) (F := TX4) (N := 5) rfl 4 (by decide) q93 rfl rfl dX4_isFull_10 ?_
    refine lv_bipush (v := (60 : Int32)) hx hb dX4_isFull_13 (by decide) ?_
    refine lv_icmp_lt (tgt := 22) hx hb dX4_isFull_15 (by decide) (fun hc => ?_) (fun hc => ?_)
    · have h := ite_t hc h
      refine lv_iconst (v := (0 : Int32)) hx hb dX4_isFull_22 (by decide) ?_
      obtain rfl := Option.some.inj h
      exact hend _ _ _ _ dX4_isFull_23 rfl hP hS
    · have h := ite_f hc h
      refine lv_iconst (v := (1 : Int32)) hx hb dX4_isFull_18 (by decide) ?_
      refine lv_goto (tgt := 23) hx hb dX4_isFull_19 (by decide) ?_
      obtain rfl := Option.some.inj h
      exact hend _ _ _ _ dX4_isFull_23 rfl hP hS
set_option maxHeartbeats 4000000 in
set_option maxRecDepth 100000 in
theorem ct_X4_numberAt (l : Launch) (D : va_G) (a : Nat → Nat) (cA cT : ClassId) (hI : WI a TC) (g : MG) (t : Nat) (x0 : Int32) (ht : t < 6) (r : Int32) (h : m_X4_numberAt g t x0 = some r) :
    CtI l D a cA cT TC yX4_numberAt (Cond.code yX4_numberAt cX4_numberAt 2 (some .int) :: lw_all) (rmm 1 21) [.ref (a (22 + 15 * t)), .int x0] g r g := by
  refine CtI.of (by decide +kernel) (Nat.le_of_ble_eq_true rfl) ?_
  intro p e s m args below meth c Q ls hx hb hml hown hts hK hP hS hl hend
  have hl : lv_has ls 2 [(0, .ref (a (22 + 15 * t))), (1, .int x0)] := hl
  unfold m_X4_numberAt at h
  refine lv_aload_n hx hb dX4_numberAt_0 rfl (lv_at hl 0 rfl) ?_
  refine x_getr hx hb hts inX4 hown hK hP (tT_22 ht) (C := RX4) (F := TX4) (N := 5) rfl 0 (by decide) q88 rfl (29 + 15 * t) rfl dX4_numberAt_1 ?_
  refine lv_iload_n hx hb dX4_numberAt_4 rfl (lv_at hl 1 rfl) ?_
  obtain ⟨r5, hcal, h⟩ := bnd_s h
  refine x_VI (As := [.int x0]) hx hb hml hown hts hK hP hS (ct_X0_at l D a cA cT hI g (30 + 15 * t) 12 x0 (29 + 15 * t) (tT_29 ht) (tT_30 ht) r5 hcal) (tT_29 ht) (C := RX0) (F := TX0) (N := 1) rfl (g_V q269 q229 q230 q38 q231) yd_X0_at ⟨Nat.le_of_ble_eq_true rfl, Nat.le_of_ble_eq_true rfl⟩ [] rfl (Nat.le_of_ble_eq_true rfl) hl.1 ⟨Nat.le_refl _, Nat.le_refl _⟩ dX4_numberAt_5 (fun H locs hP hS => ?_)
  obtain rfl := Option.some.inj h
  exact hend _ _ _ _ dX4_numberAt_8 rfl hP hS
set_option maxHeartbeats 4000000 in
set_option maxRecDepth 100000 in
theorem ct_X4_positionOf (l : Launch) (D : va_G) (a : Nat → Nat) (cA cT : ClassId) (hI : WI a TC) (g : MG) (t : Nat) (x0 : Int32) (ht : t < 6) (r : Int32) (h : m_X4_positionOf g t x0 = some r) :
    CtI l D a cA cT TC yX4_positionOf (Cond.code yX4_positionOf cX4_positionOf 3 (some .int) :: lw_all) (rmm 2 42) [.ref (a (22 + 15 * t)), .int x0] g r g := by
  refine CtI.of (by decide +kernel) (Nat.le_of_ble_eq_true rfl) ?_
  intro p e s m args below meth c Q ls hx hb hml hown hts hK hP hS hl hend
  have hl : lv_has ls 3 [(0, .ref (a (22 + 15 * t))), (1, .int x0)] := hl
  unfold m_X4_positionOf at h
  refine lv_iconst (v := (0 : Int32)) hx hb dX4_positionOf_0 (by decide) ?_
  refine lv_istore_n (lv' := [(2, .int (0 : Int32)), (0, .ref (a (22 + 15 * t))), (1, .int x0)]) hx hb dX4_positionOf_1 rfl hl (by decide) rfl (fun ls hl => ?_)
  have K2 : ∀ (n2 : Nat) (v2 : Int32) (H : Heap) (locs : List Loc) (ls : Array Slot), WP D a cA cT TC g H → va_S (AA a TC) s.heap H locs → lv_has ls 3 [(0, .ref (a (22 + 15 * t))), (1, .int x0), (2, .int v2)] → lpo (b_X4_positionOf_L2 g t x0) n2 v2 = some r → W p l e (rmm 2 42) s m args below meth c H locs 0 0 Q (F0 m 2 ls []) := by
    intro n2
    induction n2 with
    | zero => intro v2 H locs ls hP hS hl h; exact (lpo_0 h).elim
    | succ n2 ih2 =>
      intro v2 H locs ls hP hS hl h
      have h : m_X4_positionOf_L2 (lpo (b_X4_positionOf_L2 g t x0) n2) g t x0 v2 = some r := h
      unfold m_X4_positionOf_L2 at h
      refine lv_iload_n hx hb dX4_positionOf_2 rfl (lv_at hl 2 rfl) ?_
      refine lv_aload_n hx hb dX4_positionOf_3 rfl (lv_at hl 0 rfl) ?_
      refine x_get hx hb hts inX4 hown hK hP (tT_22 ht) (C := RX4) (F := TX4) (N := 5) rfl 3 (by decide) q91 rfl rfl dX4_positionOf_4 ?_
      refine lv_icmp_ge (tgt := 27) hx hb dX4_positionOf_7 (by decide) (fun hc => ?_) (fun hc => ?_)
      · have h := ite_t hc h
        refine lv_sipush (v := (-1005 : Int32)) hx hb dX4_positionOf_27 (by decide) ?_
        obtain rfl := Option.some.inj h
        exact hend _ _ _ _ dX4_positionOf_30 rfl hP hS
      · have h := ite_f hc h
        refine lv_aload_n hx hb dX4_positionOf_10 rfl (lv_at hl 0 rfl) ?_
        refine lv_iload_n hx hb dX4_positionOf_11 rfl (lv_at hl 2 rfl) ?_
        obtain ⟨r12, hcal, h⟩ := bnd_s h
        refine x_VI (As := [.int v2]) hx hb hml hown hts hK hP hS (ct_X4_numberAt l D a cA cT hI g t v2 ht r12 hcal) (tT_22 ht) (C := RX4) (F := TX4) (N := 5) rfl (g_V q274 q275 q276 q39 q277) yd_X4_numberAt ⟨Nat.le_of_ble_eq_true rfl, Nat.le_of_ble_eq_true rfl⟩ [] rfl (Nat.le_of_ble_eq_true rfl) hl.1 ⟨Nat.le_refl _, Nat.le_refl _⟩ dX4_positionOf_12 (fun H locs hP hS => ?_)
        refine lv_iload_n hx hb dX4_positionOf_15 rfl (lv_at hl 1 rfl) ?_
        refine lv_icmp_ne (tgt := 21) hx hb dX4_positionOf_16 (by decide) (fun hc => ?_) (fun hc => ?_)
        · have h := ite_f hc h
          refine lv_iinc (v := (v2 + (1 : Int32))) (lv' := [(2, .int (v2 + (1 : Int32))), (0, .ref (a (22 + 15 * t))), (1, .int x0)]) hx hb dX4_positionOf_21 hl (k := 2) rfl rfl (by decide) rfl (fun ls hl => ?_)
          refine lv_goto (tgt := 2) hx hb dX4_positionOf_24 (by decide) ?_
          exact ih2 (v2 + (1 : Int32)) _ _ _ hP hS (lv_sub hl [1, 2, 0] rfl) h
        · have h := ite_t hc h
          refine lv_iload_n hx hb dX4_positionOf_19 rfl (lv_at hl 2 rfl) ?_
          obtain rfl := Option.some.inj h
          exact hend _ _ _ _ dX4_positionOf_20 rfl hP hS
  exact K2 fuelN (0 : Int32) _ _ _ hP hS (lv_sub hl [1, 2, 0] rfl) h
set_option maxHeartbeats 4000000 in
set_option maxRecDepth 100000 in
theorem ct_X4_has (l : Launch) (D : va_G) (a : Nat → Nat) (cA cT : ClassId) (hI : WI a TC) (g : MG) (t : Nat) (x0 : Int32) (ht : t < 6) (r : Int32) (h : m_X4_has g t x0 = some r) :
    CtI l D a cA cT TC yX4_has (Cond.code yX4_has cX4_has 2 (some .boolean) :: lw_all) (rmm 3 64) [.ref (a (22 + 15 * t)), .int x0] g r g := by
  refine CtI.of (by decide +kernel) (Nat.le_of_ble_eq_true rfl) ?_
  intro p e s m args below meth c Q ls hx hb hml hown hts hK hP hS hl hend
  have hl : lv_has ls 2 [(0, .ref (a (22 + 15 * t))), (1, .int x0)] := hl
  unfold m_X4_has at h
  refine lv_aload_n hx hb dX4_has_0 rfl (lv_at hl 0 rfl) ?_
  refine lv_iload_n hx hb dX4_has_1 rfl (lv_at hl 1 rfl) ?_
  obtain ⟨r2, hcal, h⟩ := bnd_s h
  refine x_VI (As := [.int x0]) hx hb hml hown hts hK hP hS (ct_X4_positionOf l D a cA cT hI g t x0 ht r2 hcal) (tT_22 ht) (C := RX4) (F := TX4) (N := 5) rfl (g_V q339 q340 q341 q39 q342) yd_X4_positionOf ⟨Nat.le_of_ble_eq_true rfl, Nat.le_of_ble_eq_true rfl⟩ [] rfl (Nat.le_of_ble_eq_true rfl) hl.1 ⟨Nat.le_refl _, Nat.le_refl _⟩ dX4_has_2 (fun H locs hP hS => ?_)
  refine lv_sipush (v := (-1005 : Int32)) hx hb dX4_has_5 (by decide) ?_
  refine lv_icmp_eq (tgt := 15) hx hb dX4_has_8 (by decide) (fun hc => ?_) (fun hc => ?_)
  · have h := ite_t hc h
    refine lv_iconst (v := (0 : Int32)) hx hb dX4_has_15 (by decide) ?_
    obtain rfl := Option.some.inj h
    exact hend _ _ _ _ dX4_has_16 rfl hP hS
  · have h := ite_f hc h
    refine lv_iconst (v := (1 : Int32)) hx hb dX4_has_11 (by decide) ?_
    refine lv_goto (tgt := 16) hx hb dX4_has_12 (by decide) ?_
    obtain rfl := Option.some.inj h
    exact hend _ _ _ _ dX4_has_16 rfl hP hS
set_option maxHeartbeats 4000000 in
set_option maxRecDepth 100000 in
theorem ct_X4_lowAt (l : Launch) (D : va_G) (a : Nat → Nat) (cA cT : ClassId) (hI : WI a TC) (g : MG) (t : Nat) (x0 : Int32) (ht : t < 6) (r : Int32) (h : m_X4_lowAt g t x0 = some r) :
    CtI l D a cA cT TC yX4_lowAt (Cond.code yX4_lowAt cX4_lowAt 2 (some .int) :: lw_all) (rmm 1 21) [.ref (a (22 + 15 * t)), .int x0] g r g := by
  refine CtI.of (by decide +kernel) (Nat.le_of_ble_eq_true rfl) ?_
  intro p e s m args below meth c Q ls hx hb hml hown hts hK hP hS hl hend
  have hl : lv_has ls 2 [(0, .ref (a (22 + 15 * t))), (1, .int x0)] := hl
  unfold m_X4_lowAt at h
  refine lv_aload_n hx hb dX4_lowAt_0 rfl (lv_at hl 0 rfl) ?_
  refine x_getr hx hb hts inX4 hown hK hP (tT_22 ht) (C := RX4) (F := TX4) (N := 5) rfl 1 (by decide) q89 rfl (31 + 15 * t) rfl dX4_lowAt_1 ?_
  refine lv_iload_n hx hb dX4_lowAt_4 rfl (lv_at hl 1 rfl) ?_
  obtain ⟨r5, hcal, h⟩ := bnd_s h
  refine x_VI (As := [.int x0]) hx hb hml hown hts hK hP hS (ct_X0_at l D a cA cT hI g (32 + 15 * t) 12 x0 (31 + 15 * t) (tT_31 ht) (tT_32 ht) r5 hcal) (tT_31 ht) (C := RX0) (F := TX0) (N := 1) rfl (g_V q269 q229 q230 q38 q231) yd_X0_at ⟨Nat.le_of_ble_eq_true rfl, Nat.le_of_ble_eq_true rfl⟩ [] rfl (Nat.le_of_ble_eq_true rfl) hl.1 ⟨Nat.le_refl _, Nat.le_refl _⟩ dX4_lowAt_5 (fun H locs hP hS => ?_)
  obtain rfl := Option.some.inj h
  exact hend _ _ _ _ dX4_lowAt_8 rfl hP hS
set_option maxHeartbeats 4000000 in
set_option maxRecDepth 100000 in
theorem ct_X4_highAt (l : Launch) (D : va_G) (a : Nat → Nat) (cA cT : ClassId) (hI : WI a TC) (g : MG) (t : Nat) (x0 : Int32) (ht : t < 6) (r : Int32) (h : m_X4_highAt g t x0 = some r) :
    CtI l D a cA cT TC yX4_highAt (Cond.code yX4_highAt cX4_highAt 2 (some .int) :: lw_all) (rmm 1 21) [.ref (a (22 + 15 * t)), .int x0] g r g := by
  refine CtI.of (by decide +kernel) (Nat.le_of_ble_eq_true rfl) ?_
  intro p e s m args below meth c Q ls hx hb hml hown hts hK hP hS hl hend
  have hl : lv_has ls 2 [(0, .ref (a (22 + 15 * t))), (1, .int x0)] := hl
  unfold m_X4_highAt at h
  refine lv_aload_n hx hb dX4_highAt_0 rfl (lv_at hl 0 rfl) ?_
  refine x_getr hx hb hts inX4 hown hK hP (tT_22 ht) (C := RX4) (F := TX4) (N := 5) rfl 2 (by decide) q90 rfl (33 + 15 * t) rfl dX4_highAt_1 ?_
  refine lv_iload_n hx hb dX4_highAt_4 rfl (lv_at hl 1 rfl) ?_
  obtain ⟨r5, hcal, h⟩ := bnd_s h
  refine x_VI (As := [.int x0]) hx hb hml hown hts hK hP hS (ct_X0_at l D a cA cT hI g (34 + 15 * t) 12 x0 (33 + 15 * t) (tT_33 ht) (tT_34 ht) r5 hcal) (tT_33 ht) (C := RX0) (F := TX0) (N := 1) rfl (g_V q269 q229 q230 q38 q231) yd_X0_at ⟨Nat.le_of_ble_eq_true rfl, Nat.le_of_ble_eq_true rfl⟩ [] rfl (Nat.le_of_ble_eq_true rfl) hl.1 ⟨Nat.le_refl _, Nat.le_refl _⟩ dX4_highAt_5 (fun H locs hP hS => ?_)
  obtain rfl := Option.some.inj h
  exact hend _ _ _ _ dX4_highAt_8 rfl hP hS
set_option maxHeartbeats 4000000 in
set_option maxRecDepth 100000 in
theorem ct_X4_having (l : Launch) (D : va_G) (a : Nat → Nat) (cA cT : ClassId) (hI : WI a TC) (g : MG) (t : Nat) (x0 : Int32) (ht : t < 6) (r : Int32) (h : m_X4_having g t x0 = some r) :
    CtI l D a cA cT TC yX4_having (Cond.code yX4_having cX4_having 3 (some .int) :: lw_all) (rmm 2 42) [.ref (a (22 + 15 * t)), .int x0] g r g := by
  refine CtI.of (by decide +kernel) (Nat.le_of_ble_eq_true rfl) ?_
  intro p e s m args below meth c Q ls hx hb hml hown hts hK hP hS hl hend
  have hl : lv_has ls 3 [(0, .ref (a (22 + 15 * t))), (1, .int x0)] := hl
  unfold m_X4_having at h
  refine lv_iconst (v := (0 : Int32)) hx hb dX4_having_0 (by decide) ?_
  refine lv_istore_n (lv' := [(2, .int (0 : Int32)), (0, .ref (a (22 + 15 * t))), (1, .int x0)]) hx hb dX4_having_1 rfl hl (by decide) rfl (fun ls hl => ?_)
  have K2 : ∀ (n2 : Nat) (v2 : Int32) (H : Heap) (locs : List Loc) (ls : Array Slot), WP D a cA cT TC g H → va_S (AA a TC) s.heap H locs → lv_has ls 3 [(0, .ref (a (22 + 15 * t))), (1, .int x0), (2, .int v2)] → lpo (b_X4_having_L2 g t x0) n2 v2 = some r → W p l e (rmm 2 42) s m args below meth c H locs 0 0 Q (F0 m 2 ls []) := by
    intro n2
    induction n2 with
    | zero => intro v2 H locs ls hP hS hl h; exact (lpo_0 h).elim
    | succ n2 ih2 =>
      intro v2 H locs ls hP hS hl h
      have h : m_X4_having_L2 (lpo (b_X4_having_L2 g t x0) n2) g t x0 v2 = some r := h
      unfold m_X4_having_L2 at h
      refine lv_iload_n hx hb dX4_having_2 rfl (lv_at hl 2 rfl) ?_
      refine lv_aload_n hx hb dX4_having_3 rfl (lv_at hl 0 rfl) ?_
      refine x_get hx hb hts inX4 hown hK hP (tT_22 ht) (C := RX4) (F := TX4) (N := 5) rfl 3 (by decide) q91 rfl rfl dX4_having_4 ?_
      refine lv_icmp_ge (tgt := 40) hx hb dX4_having_7 (by decide) (fun hc => ?_) (fun hc => ?_)
      · have h := ite_t hc h
        refine lv_sipush (v := (-1005 : Int32)) hx hb dX4_having_40 (by decide) ?_
        obtain rfl := Option.some.inj h
        exact hend _ _ _ _ dX4_having_43 rfl hP hS
      · have h := ite_f hc h
        refine lv_iload_n hx hb dX4_having_10 rfl (lv_at hl 1 rfl) ?_
        refine lv_aload_n hx hb dX4_having_11 rfl (lv_at hl 0 rfl) ?_
        refine lv_iload_n hx hb dX4_having_12 rfl (lv_at hl 2 rfl) ?_
        obtain ⟨r13, hcal, h⟩ := bnd_s h
        refine x_VI (As := [.int v2]) hx hb hml hown hts hK hP hS (ct_X4_lowAt l D a cA cT hI g t v2 ht r13 hcal) (tT_22 ht) (C := RX4) (F := TX4) (N := 5) rfl (g_V q265 q266 q267 q39 q268) yd_X4_lowAt ⟨Nat.le_of_ble_eq_true rfl, Nat.le_of_ble_eq_true rfl⟩ [.int x0] rfl (Nat.le_of_ble_eq_true rfl) hl.1 ⟨Nat.le_refl _, Nat.le_refl _⟩ dX4_having_13 (fun H locs hP hS => ?_)
        refine lv_icmp_lt (tgt := 34) hx hb dX4_having_16 (by decide) (fun hc => ?_) (fun hc => ?_)
        · have h := ite_t hc h
          refine lv_iinc (v := (v2 + (1 : Int32))) (lv' := [(2, .int (v2 + (1 : Int32))), (0, .ref (a (22 + 15 * t))), (1, .int x0)]) hx hb dX4_having_34 hl (k := 2) rfl rfl (by decide) rfl (fun ls hl => ?_)
          refine lv_goto (tgt := 2) hx hb dX4_having_37 (by decide) ?_
          exact ih2 (v2 + (1 : Int32)) _ _ _ hP hS (lv_sub hl [1, 2, 0] rfl) h
        · have h := ite_f hc h
          refine lv_iload_n hx hb dX4_having_19 rfl (lv_at hl 1 rfl) ?_
          refine lv_aload_n hx hb dX4_having_20 rfl (lv_at hl 0 rfl) ?_
          refine lv_iload_n hx hb dX4_having_21 rfl (lv_at hl 2 rfl) ?_
          obtain ⟨r22, hcal, h⟩ := bnd_s h
          refine x_VI (As := [.int v2]) hx hb hml hown hts hK hP hS (ct_X4_highAt l D a cA cT hI g t v2 ht r22 hcal) (tT_22 ht) (C := RX4) (F := TX4) (N := 5) rfl (g_V q270 q271 q272 q39 q273) yd_X4_highAt ⟨Nat.le_of_ble_eq_true rfl, Nat.le_of_ble_eq_true rfl⟩ [.int x0] rfl (Nat.le_of_ble_eq_true rfl) hl.1 ⟨Nat.le_refl _, Nat.le_refl _⟩ dX4_having_22 (fun H locs hP hS => ?_)
          refine lv_icmp_ge (tgt := 34) hx hb dX4_having_25 (by decide) (fun hc => ?_) (fun hc => ?_)
          · have h := ite_t hc h
            refine lv_iinc (v := (v2 + (1 : Int32))) (lv' := [(2, .int (v2 + (1 : Int32))), (0, .ref (a (22 + 15 * t))), (1, .int x0)]) hx hb dX4_having_34 hl (k := 2) rfl rfl (by decide) rfl (fun ls hl => ?_)
            refine lv_goto (tgt := 2) hx hb dX4_having_37 (by decide) ?_
            exact ih2 (v2 + (1 : Int32)) _ _ _ hP hS (lv_sub hl [1, 2, 0] rfl) h
          · have h := ite_f hc h
            refine lv_aload_n hx hb dX4_having_28 rfl (lv_at hl 0 rfl) ?_
            refine lv_iload_n hx hb dX4_having_29 rfl (lv_at hl 2 rfl) ?_
            obtain ⟨r30, hcal, h⟩ := bnd_s h
            refine x_VI (As := [.int v2]) hx hb hml hown hts hK hP hS (ct_X4_numberAt l D a cA cT hI g t v2 ht r30 hcal) (tT_22 ht) (C := RX4) (F := TX4) (N := 5) rfl (g_V q274 q275 q276 q39 q277) yd_X4_numberAt ⟨Nat.le_of_ble_eq_true rfl, Nat.le_of_ble_eq_true rfl⟩ [] rfl (Nat.le_of_ble_eq_true rfl) hl.1 ⟨Nat.le_refl _, Nat.le_refl _⟩ dX4_having_30 (fun H locs hP hS => ?_)
            obtain rfl := Option.some.inj h
            exact hend _ _ _ _ dX4_having_33 rfl hP hS
  exact K2 fuelN (0 : Int32) _ _ _ hP hS (lv_sub hl [1, 2, 0] rfl) h
set_option maxHeartbeats 4000000 in
set_option maxRecDepth 100000 in
theorem ct_X4_overlap (l : Launch) (D : va_G) (a : Nat → Nat) (cA cT : ClassId) (hI : WI a TC) (g : MG) (t : Nat) (x0 : Int32) (x1 : Int32) (ht : t < 6) (r : Int32) (h : m_X4_overlap g t x0 x1 = some r) :
    CtI l D a cA cT TC yX4_overlap (Cond.code yX4_overlap cX4_overlap 4 (some .boolean) :: lw_all) (rmm 2 42) [.ref (a (22 + 15 * t)), .int x0, .int x1] g r g := by
  refine CtI.of (by decide +kernel) (Nat.le_of_ble_eq_true rfl) ?_
  intro p e s m args below meth c Q ls hx hb hml hown hts hK hP hS hl hend
  have hl : lv_has ls 4 [(0, .ref (a (22 + 15 * t))), (1, .int x0), (2, .int x1)] := hl
  unfold m_X4_overlap at h
  refine lv_iconst (v := (0 : Int32)) hx hb dX4_overlap_0 (by decide) ?_
  refine lv_istore_n (lv' := [(3, .int (0 : Int32)), (0, .ref (a (22 + 15 * t))), (1, .int x0), (2, .int x1)]) hx hb dX4_overlap_1 rfl hl (by decide) rfl (fun ls hl => ?_)
  have K2 : ∀ (n2 : Nat) (v3 : Int32) (H : Heap) (locs : List Loc) (ls : Array Slot), WP D a cA cT TC g H → va_S (AA a TC) s.heap H locs → lv_has ls 4 [(0, .ref (a (22 + 15 * t))), (1, .int x0), (2, .int x1), (3, .int v3)] → lpo (b_X4_overlap_L2 g t x0 x1) n2 v3 = some r → W p l e (rmm 2 42) s m args below meth c H locs 0 0 Q (F0 m 2 ls []) := by
    intro n2
    induction n2 with
    | zero => intro v3 H locs ls hP hS hl h; exact (lpo_0 h).elim
    | succ n2 ih2 =>
      intro v3 H locs ls hP hS hl h
      have h : m_X4_overlap_L2 (lpo (b_X4_overlap_L2 g t x0 x1) n2) g t x0 x1 v3 = some r := h
      unfold m_X4_overlap_L2 at h
      refine lv_iload_n hx hb dX4_overlap_2 rfl (lv_at hl 3 rfl) ?_
      refine lv_aload_n hx hb dX4_overlap_3 rfl (lv_at hl 0 rfl) ?_
      refine x_get hx hb hts inX4 hown hK hP (tT_22 ht) (C := RX4) (F := TX4) (N := 5) rfl 3 (by decide) q91 rfl rfl dX4_overlap_4 ?_
      refine lv_icmp_ge (tgt := 36) hx hb dX4_overlap_7 (by decide) (fun hc => ?_) (fun hc => ?_)
      · have h := ite_t hc h
        refine lv_iconst (v := (0 : Int32)) hx hb dX4_overlap_36 (by decide) ?_
        obtain rfl := Option.some.inj h
        exact hend _ _ _ _ dX4_overlap_37 rfl hP hS
      · have h := ite_f hc h
        refine lv_iload_n hx hb dX4_overlap_10 rfl (lv_at hl 1 rfl) ?_
        refine lv_aload_n hx hb dX4_overlap_11 rfl (lv_at hl 0 rfl) ?_
        refine lv_iload_n hx hb dX4_overlap_12 rfl (lv_at hl 3 rfl) ?_
        obtain ⟨r13, hcal, h⟩ := bnd_s h
        refine x_VI (As := [.int v3]) hx hb hml hown hts hK hP hS (ct_X4_highAt l D a cA cT hI g t v3 ht r13 hcal) (tT_22 ht) (C := RX4) (F := TX4) (N := 5) rfl (g_V q270 q271 q272 q39 q273) yd_X4_highAt ⟨Nat.le_of_ble_eq_true rfl, Nat.le_of_ble_eq_true rfl⟩ [.int x0] rfl (Nat.le_of_ble_eq_true rfl) hl.1 ⟨Nat.le_refl _, Nat.le_refl _⟩ dX4_overlap_13 (fun H locs hP hS => ?_)
        refine lv_icmp_ge (tgt := 30) hx hb dX4_overlap_16 (by decide) (fun hc => ?_) (fun hc => ?_)
        · have h := ite_t hc h
          refine lv_iinc (v := (v3 + (1 : Int32))) (lv' := [(3, .int (v3 + (1 : Int32))), (0, .ref (a (22 + 15 * t))), (1, .int x0), (2, .int x1)]) hx hb dX4_overlap_30 hl (k := 3) rfl rfl (by decide) rfl (fun ls hl => ?_)
          refine lv_goto (tgt := 2) hx hb dX4_overlap_33 (by decide) ?_
          exact ih2 (v3 + (1 : Int32)) _ _ _ hP hS (lv_sub hl [1, 2, 3, 0] rfl) h
        · have h := ite_f hc h
          refine lv_aload_n hx hb dX4_overlap_19 rfl (lv_at hl 0 rfl) ?_
          refine lv_iload_n hx hb dX4_overlap_20 rfl (lv_at hl 3 rfl) ?_
          obtain ⟨r21, hcal, h⟩ := bnd_s h
          refine x_VI (As := [.int v3]) hx hb hml hown hts hK hP hS (ct_X4_lowAt l D a cA cT hI g t v3 ht r21 hcal) (tT_22 ht) (C := RX4) (F := TX4) (N := 5) rfl (g_V q265 q266 q267 q39 q268) yd_X4_lowAt ⟨Nat.le_of_ble_eq_true rfl, Nat.le_of_ble_eq_true rfl⟩ [] rfl (Nat.le_of_ble_eq_true rfl) hl.1 ⟨Nat.le_refl _, Nat.le_refl _⟩ dX4_overlap_21 (fun H locs hP hS => ?_)
          refine lv_iload_n hx hb dX4_overlap_24 rfl (lv_at hl 2 rfl) ?_
          refine lv_icmp_ge (tgt := 30) hx hb dX4_overlap_25 (by decide) (fun hc => ?_) (fun hc => ?_)
          · have h := ite_t hc h
            refine lv_iinc (v := (v3 + (1 : Int32))) (lv' := [(3, .int (v3 + (1 : Int32))), (0, .ref (a (22 + 15 * t))), (1, .int x0), (2, .int x1)]) hx hb dX4_overlap_30 hl (k := 3) rfl rfl (by decide) rfl (fun ls hl => ?_)
            refine lv_goto (tgt := 2) hx hb dX4_overlap_33 (by decide) ?_
            exact ih2 (v3 + (1 : Int32)) _ _ _ hP hS (lv_sub hl [1, 2, 3, 0] rfl) h
          · have h := ite_f hc h
            refine lv_iconst (v := (1 : Int32)) hx hb dX4_overlap_28 (by decide) ?_
            obtain rfl := Option.some.inj h
            exact hend _ _ _ _ dX4_overlap_29 rfl hP hS
  exact K2 fuelN (0 : Int32) _ _ _ hP hS (lv_sub hl [1, 2, 3, 0] rfl) h
set_option maxHeartbeats 4000000 in
set_option maxRecDepth 100000 in
theorem ct_X4_areBeside (l : Launch) (D : va_G) (a : Nat → Nat) (cA cT : ClassId) (hI : WI a TC) (g : MG) (t : Nat) (x0 : Int32) (x1 : Int32) (ht : t < 6) (r : Int32) (h : m_X4_areBeside g t x0 x1 = some r) :
    CtI l D a cA cT TC yX4_areBeside (Cond.code yX4_areBeside cX4_areBeside 3 (some .boolean) :: lw_all) (rmm 2 42) [.ref (a (22 + 15 * t)), .int x0, .int x1] g r g := by
  refine CtI.of (by decide +kernel) (Nat.le_of_ble_eq_true rfl) ?_
  intro p e s m args below meth c Q ls hx hb hml hown hts hK hP hS hl hend
  have hl : lv_has ls 3 [(0, .ref (a (22 + 15 * t))), (1, .int x0), (2, .int x1)] := hl
  unfold m_X4_areBeside at h
  refine lv_aload_n hx hb dX4_areBeside_0 rfl (lv_at hl 0 rfl) ?_
  refine lv_iload_n hx hb dX4_areBeside_1 rfl (lv_at hl 1 rfl) ?_
  obtain ⟨r2, hcal, h⟩ := bnd_s h
  refine x_VI (As := [.int x0]) hx hb hml hown hts hK hP hS (ct_X4_highAt l D a cA cT hI g t x0 ht r2 hcal) (tT_22 ht) (C := RX4) (F := TX4) (N := 5) rfl (g_V q270 q271 q272 q39 q273) yd_X4_highAt ⟨Nat.le_of_ble_eq_true rfl, Nat.le_of_ble_eq_true rfl⟩ [] rfl (Nat.le_of_ble_eq_true rfl) hl.1 ⟨Nat.le_refl _, Nat.le_refl _⟩ dX4_areBeside_2 (fun H locs hP hS => ?_)
  refine lv_aload_n hx hb dX4_areBeside_5 rfl (lv_at hl 0 rfl) ?_
  refine lv_iload_n hx hb dX4_areBeside_6 rfl (lv_at hl 2 rfl) ?_
  obtain ⟨r7, hcal, h⟩ := bnd_s h
  refine x_VI (As := [.int x1]) hx hb hml hown hts hK hP hS (ct_X4_lowAt l D a cA cT hI g t x1 ht r7 hcal) (tT_22 ht) (C := RX4) (F := TX4) (N := 5) rfl (g_V q265 q266 q267 q39 q268) yd_X4_lowAt ⟨Nat.le_of_ble_eq_true rfl, Nat.le_of_ble_eq_true rfl⟩ [.int r2] rfl (Nat.le_of_ble_eq_true rfl) hl.1 ⟨Nat.le_refl _, Nat.le_refl _⟩ dX4_areBeside_7 (fun H locs hP hS => ?_)
  refine lv_icmp_eq (tgt := 26) hx hb dX4_areBeside_10 (by decide) (fun hc => ?_) (fun hc => ?_)
  · have h := ite_t hc h
    refine lv_iconst (v := (1 : Int32)) hx hb dX4_areBeside_26 (by decide) ?_
    refine lv_goto (tgt := 31) hx hb dX4_areBeside_27 (by decide) ?_
    obtain rfl := Option.some.inj h
    exact hend _ _ _ _ dX4_areBeside_31 rfl hP hS
  · have h := ite_f hc h
    refine lv_aload_n hx hb dX4_areBeside_13 rfl (lv_at hl 0 rfl) ?_
    refine lv_iload_n hx hb dX4_areBeside_14 rfl (lv_at hl 2 rfl) ?_
    obtain ⟨r15, hcal, h⟩ := bnd_s h
    refine x_VI (As := [.int x1]) hx hb hml hown hts hK hP hS (ct_X4_highAt l D a cA cT hI g t x1 ht r15 hcal) (tT_22 ht) (C := RX4) (F := TX4) (N := 5) rfl (g_V q270 q271 q272 q39 q273) yd_X4_highAt ⟨Nat.le_of_ble_eq_true rfl, Nat.le_of_ble_eq_true rfl⟩ [] rfl (Nat.le_of_ble_eq_true rfl) hl.1 ⟨Nat.le_refl _, Nat.le_refl _⟩ dX4_areBeside_15 (fun H locs hP hS => ?_)
    refine lv_aload_n hx hb dX4_areBeside_18 rfl (lv_at hl 0 rfl) ?_
    refine lv_iload_n hx hb dX4_areBeside_19 rfl (lv_at hl 1 rfl) ?_
    obtain ⟨r20, hcal, h⟩ := bnd_s h
    refine x_VI (As := [.int x0]) hx hb hml hown hts hK hP hS (ct_X4_lowAt l D a cA cT hI g t x0 ht r20 hcal) (tT_22 ht) (C := RX4) (F := TX4) (N := 5) rfl (g_V q265 q266 q267 q39 q268) yd_X4_lowAt ⟨Nat.le_of_ble_eq_true rfl, Nat.le_of_ble_eq_true rfl⟩ [.int r15] rfl (Nat.le_of_ble_eq_true rfl) hl.1 ⟨Nat.le_refl _, Nat.le_refl _⟩ dX4_areBeside_20 (fun H locs hP hS => ?_)
    refine lv_icmp_ne (tgt := 30) hx hb dX4_areBeside_23 (by decide) (fun hc => ?_) (fun hc => ?_)
    · have h := ite_f hc h
      refine lv_iconst (v := (0 : Int32)) hx hb dX4_areBeside_30 (by decide) ?_
      obtain rfl := Option.some.inj h
      exact hend _ _ _ _ dX4_areBeside_31 rfl hP hS
    · have h := ite_t hc h
      refine lv_iconst (v := (1 : Int32)) hx hb dX4_areBeside_26 (by decide) ?_
      refine lv_goto (tgt := 31) hx hb dX4_areBeside_27 (by decide) ?_
      obtain rfl := Option.some.inj h
      exact hend _ _ _ _ dX4_areBeside_31 rfl hP hS
set_option maxHeartbeats 4000000 in
set_option maxRecDepth 100000 in
theorem ct_X4_changeBounds (l : Launch) (D : va_G) (a : Nat → Nat) (cA cT : ClassId) (hI : WI a TC) (g : MG) (t : Nat) (x0 : Int32) (x1 : Int32) (x2 : Int32) (ht : t < 6) (g' : MG) (h : m_X4_changeBounds g t x0 x1 x2 = some g') :
    CtV l D a cA cT TC yX4_changeBounds (Cond.code yX4_changeBounds cX4_changeBounds 4 none :: lw_all) (rmm 1 22) [.ref (a (22 + 15 * t)), .int x0, .int x1, .int x2] g g' := by
  refine CtV.of (by decide +kernel) (Nat.le_of_ble_eq_true rfl) ?_
  intro p e s m args below meth c Q ls hx hb hml hown hts hK hP hS hl hend
  have hl : lv_has ls 4 [(0, .ref (a (22 + 15 * t))), (1, .int x0), (2, .int x1), (3, .int x2)] := hl
  unfold m_X4_changeBounds at h
  refine lv_aload_n hx hb dX4_changeBounds_0 rfl (lv_at hl 0 rfl) ?_
  refine x_getr hx hb hts inX4 hown hK hP (tT_22 ht) (C := RX4) (F := TX4) (N := 5) rfl 1 (by decide) q89 rfl (31 + 15 * t) rfl dX4_changeBounds_1 ?_
  refine lv_iload_n hx hb dX4_changeBounds_4 rfl (lv_at hl 1 rfl) ?_
  refine lv_iload_n hx hb dX4_changeBounds_5 rfl (lv_at hl 2 rfl) ?_
  obtain ⟨g6, hcal, h⟩ := bnd_s h
  refine x_VV (As := [.int x0, .int x1]) hx hb hml hown hts hK hP hS (ct_X0_write l D a cA cT hI g (32 + 15 * t) 12 x0 x1 (31 + 15 * t) (tT_31 ht) (tT_32 ht) g6 hcal) (tT_31 ht) (C := RX0) (F := TX0) (N := 1) rfl (g_V q454 q424 q425 q38 q426) yd_X0_write ⟨Nat.le_of_ble_eq_true rfl, Nat.le_of_ble_eq_true rfl⟩ [] rfl (Nat.le_of_ble_eq_true rfl) hl.1 ⟨Nat.le_refl _, Nat.le_refl _⟩ dX4_changeBounds_6 (fun H locs hP hS => ?_)
  refine lv_aload_n hx hb dX4_changeBounds_9 rfl (lv_at hl 0 rfl) ?_
  refine x_getr hx hb hts inX4 hown hK hP (tT_22 ht) (C := RX4) (F := TX4) (N := 5) rfl 2 (by decide) q90 rfl (33 + 15 * t) rfl dX4_changeBounds_10 ?_
  refine lv_iload_n hx hb dX4_changeBounds_13 rfl (lv_at hl 1 rfl) ?_
  refine lv_iload_n hx hb dX4_changeBounds_14 rfl (lv_at hl 3 rfl) ?_
  obtain ⟨g15, hcal, h⟩ := bnd_s h
  refine x_VV (As := [.int x0, .int x2]) hx hb hml hown hts hK hP hS (ct_X0_write l D a cA cT hI g6 (34 + 15 * t) 12 x0 x2 (33 + 15 * t) (tT_33 ht) (tT_34 ht) g15 hcal) (tT_33 ht) (C := RX0) (F := TX0) (N := 1) rfl (g_V q454 q424 q425 q38 q426) yd_X0_write ⟨Nat.le_of_ble_eq_true rfl, Nat.le_of_ble_eq_true rfl⟩ [] rfl (Nat.le_of_ble_eq_true rfl) hl.1 ⟨Nat.le_refl _, Nat.le_refl _⟩ dX4_changeBounds_15 (fun H locs hP hS => ?_)
  obtain rfl := Option.some.inj h
  exact hend _ _ _ _ dX4_changeBounds_18 hP hS
