set_option maxHeartbeats 4000000 in
set_option maxRecDepth 100000 in
theorem ct_X4_copyEntry (l : Launch) (D : va_G) (a : Nat → Nat) (cA cT : ClassId) (hI : WI a TC) (g : MG) (t : Nat) (x0 : Int32) (x1 : Int32) (ht : t < 6) (g' : MG) (h : m_X4_copyEntry g t x0 x1 = some g') :
    CtV l D a cA cT TC yX4_copyEntry (Cond.code yX4_copyEntry cX4_copyEntry 3 none :: lw_all) (rmm 2 45) [.ref (a (22 + 15 * t)), .int x0, .int x1] g g' := by
  refine CtV.of (by decide +kernel) (Nat.le_of_ble_eq_true rfl) ?_
  intro p e s m args below meth c Q ls hx hb hml hown hts hK hP hS hl hend
  have hl : lv_has ls 3 [(0, .ref (a (22 + 15 * t))), (1, .int x0), (2, .int x1)] := hl
  unfold m_X4_copyEntry at h
  refine lv_aload_n hx hb dX4_copyEntry_0 rfl (lv_at hl 0 rfl) ?_
  refine x_getr hx hb hts inX4 hown hK hP (tT_22 ht) (C := RX4) (F := TX4) (N := 5) rfl 0 (by decide) q88 rfl (29 + 15 * t) rfl dX4_copyEntry_1 ?_
  refine lv_iload_n hx hb dX4_copyEntry_4 rfl (lv_at hl 2 rfl) ?_
  refine lv_aload_n hx hb dX4_copyEntry_5 rfl (lv_at hl 0 rfl) ?_
  refine lv_iload_n hx hb dX4_copyEntry_6 rfl (lv_at hl 1 rfl) ?_
  obtain ⟨r7, hcal, h⟩ := bnd_s h
  refine x_VI (As := [.int x0]) hx hb hml hown hts hK hP hS (ct_X4_numberAt l D a cA cT hI g t x0 ht r7 hcal) (tT_22 ht) (C := RX4) (F := TX4) (N := 5) rfl (g_V q274 q275 q276 q39 q277) yd_X4_numberAt ⟨Nat.le_of_ble_eq_true rfl, Nat.le_of_ble_eq_true rfl⟩ [.int x1, .ref (a (29 + 15 * t))] rfl (Nat.le_of_ble_eq_true rfl) hl.1 ⟨Nat.le_refl _, Nat.le_refl _⟩ dX4_copyEntry_7 (fun H locs hP hS => ?_)
  obtain ⟨g10, hcal, h⟩ := bnd_s h
  refine x_VV (As := [.int x1, .int r7]) hx hb hml hown hts hK hP hS (ct_X0_write l D a cA cT hI g (30 + 15 * t) 12 x1 r7 (29 + 15 * t) (tT_29 ht) (tT_30 ht) g10 hcal) (tT_29 ht) (C := RX0) (F := TX0) (N := 1) rfl (g_V q454 q424 q425 q38 q426) yd_X0_write ⟨Nat.le_of_ble_eq_true rfl, Nat.le_of_ble_eq_true rfl⟩ [] rfl (Nat.le_of_ble_eq_true rfl) hl.1 ⟨Nat.le_refl _, Nat.le_refl _⟩ dX4_copyEntry_10 (fun H locs hP hS => ?_)
  refine lv_aload_n hx hb dX4_copyEntry_13 rfl (lv_at hl 0 rfl) ?_
  refine lv_iload_n hx hb dX4_copyEntry_14 rfl (lv_at hl 2 rfl) ?_
  refine lv_aload_n hx hb dX4_copyEntry_15 rfl (lv_at hl 0 rfl) ?_
  refine lv_iload_n hx hb dX4_copyEntry_16 rfl (lv_at hl 1 rfl) ?_
  obtain ⟨r17, hcal, h⟩ := bnd_s h
  refine x_VI (As := [.int x0]) hx hb hml hown hts hK hP hS (ct_X4_lowAt l D a cA cT hI g10 t x0 ht r17 hcal) (tT_22 ht) (C := RX4) (F := TX4) (N := 5) rfl (g_V q265 q266 q267 q39 q268) yd_X4_lowAt ⟨Nat.le_of_ble_eq_true rfl, Nat.le_of_ble_eq_true rfl⟩ [.int x1, .ref (a (22 + 15 * t))] rfl (Nat.le_of_ble_eq_true rfl) hl.1 ⟨Nat.le_refl _, Nat.le_refl _⟩ dX4_copyEntry_17 (fun H locs hP hS => ?_)
  refine lv_aload_n hx hb dX4_copyEntry_20 rfl (lv_at hl 0 rfl) ?_
  refine lv_iload_n hx hb dX4_copyEntry_21 rfl (lv_at hl 1 rfl) ?_
  obtain ⟨r22, hcal, h⟩ := bnd_s h
  refine x_VI (As := [.int x0]) hx hb hml hown hts hK hP hS (ct_X4_highAt l D a cA cT hI g10 t x0 ht r22 hcal) (tT_22 ht) (C := RX4) (F := TX4) (N := 5) rfl (g_V q270 q271 q272 q39 q273) yd_X4_highAt ⟨Nat.le_of_ble_eq_true rfl, Nat.le_of_ble_eq_true rfl⟩ [.int r17, .int x1, .ref (a (22 + 15 * t))] rfl (Nat.le_of_ble_eq_true rfl) hl.1 ⟨Nat.le_refl _, Nat.le_refl _⟩ dX4_copyEntry_22 (fun H locs hP hS => ?_)
  obtain ⟨g25, hcal, h⟩ := bnd_s h
  refine x_VV (As := [.int x1, .int r17, .int r22]) hx hb hml hown hts hK hP hS (ct_X4_changeBounds l D a cA cT hI g10 t x1 r17 r22 ht g25 hcal) (tT_22 ht) (C := RX4) (F := TX4) (N := 5) rfl (g_V q455 q456 q457 q39 q458) yd_X4_changeBounds ⟨Nat.le_of_ble_eq_true rfl, Nat.le_of_ble_eq_true rfl⟩ [] rfl (Nat.le_of_ble_eq_true rfl) hl.1 ⟨Nat.le_refl _, Nat.le_refl _⟩ dX4_copyEntry_25 (fun H locs hP hS => ?_)
  obtain rfl := Option.some.inj h
  exact hend _ _ _ _ dX4_copyEntry_28 hP hS
set_option maxHeartbeats 4000000 in
set_option maxRecDepth 100000 in
theorem ct_X4_append (l : Launch) (D : va_G) (a : Nat → Nat) (cA cT : ClassId) (hI : WI a TC) (g : MG) (t : Nat) (x0 : Int32) (x1 : Int32) (ht : t < 6) (r : Int32) (g' : MG) (h : m_X4_append g t x0 x1 = some (r, g')) :
    CtI l D a cA cT TC yX4_append (Cond.code yX4_append cX4_append 4 (some .int) :: lw_all) (rmm 3 67) [.ref (a (22 + 15 * t)), .int x0, .int x1] g r g' := by
  refine CtI.of (by decide +kernel) (Nat.le_of_ble_eq_true rfl) ?_
  intro p e s m args below meth c Q ls hx hb hml hown hts hK hP hS hl hend
  have hl : lv_has ls 4 [(0, .ref (a (22 + 15 * t))), (1, .int x0), (2, .int x1)] := hl
  unfold m_X4_append at h
  refine lv_aload_n hx hb dX4_append_0 rfl (lv_at hl 0 rfl) ?_
  refine x_get hx hb hts inX4 hown hK hP (tT_22 ht) (C := RX4) (F := TX4) (N := 5) rfl 3 (by decide) q91 rfl rfl dX4_append_1 ?_
  refine lv_istore_n (lv' := [(3, .int (g.1 (22 + 15 * t) 3)), (0, .ref (a (22 + 15 * t))), (1, .int x0), (2, .int x1)]) hx hb dX4_append_4 rfl hl (by decide) rfl (fun ls hl => ?_)
  have K5 : ∀ (n5 : Nat) (v3 : Int32) (g5 : MG) (H : Heap) (locs : List Loc) (ls : Array Slot), WP D a cA cT TC g5 H → va_S (AA a TC) s.heap H locs → lv_has ls 4 [(0, .ref (a (22 + 15 * t))), (1, .int x0), (2, .int x1), (3, .int v3)] → lpo (b_X4_append_L5 t x0 x1) n5 (v3, g5) = some (r, g') → W p l e (rmm 3 67) s m args below meth c H locs 0 0 Q (F0 m 5 ls []) := by
    intro n5
    induction n5 with
    | zero => intro v3 g5 H locs ls hP hS hl h; exact (lpo_0 h).elim
    | succ n5 ih5 =>
      intro v3 g5 H locs ls hP hS hl h
      have h : m_X4_append_L5 (lpo (b_X4_append_L5 t x0 x1) n5) t x0 x1 v3 g5 = some (r, g') := h
      unfold m_X4_append_L5 at h
      refine lv_iload_n hx hb dX4_append_5 rfl (lv_at hl 3 rfl) ?_
      refine lv_if_le (tgt := 34) hx hb dX4_append_6 (by decide) (fun hc => ?_) (fun hc => ?_)
      · have h := ite_t hc h
        refine lv_aload_n hx hb dX4_append_34 rfl (lv_at hl 0 rfl) ?_
        refine x_getr hx hb hts inX4 hown hK hP (tT_22 ht) (C := RX4) (F := TX4) (N := 5) rfl 0 (by decide) q88 rfl (29 + 15 * t) rfl dX4_append_35 ?_
        refine lv_iload_n hx hb dX4_append_38 rfl (lv_at hl 3 rfl) ?_
        refine lv_aload_n hx hb dX4_append_39 rfl (lv_at hl 0 rfl) ?_
        refine x_get hx hb hts inX4 hown hK hP (tT_22 ht) (C := RX4) (F := TX4) (N := 5) rfl 4 (by decide) q93 rfl rfl dX4_append_40 ?_
        obtain ⟨g43, hcal, h⟩ := bnd_s h
        refine x_VV (As := [.int v3, .int (g5.1 (22 + 15 * t) 4)]) hx hb hml hown hts hK hP hS (ct_X0_write l D a cA cT hI g5 (30 + 15 * t) 12 v3 (g5.1 (22 + 15 * t) 4) (29 + 15 * t) (tT_29 ht) (tT_30 ht) g43 hcal) (tT_29 ht) (C := RX0) (F := TX0) (N := 1) rfl (g_V q454 q424 q425 q38 q426) yd_X0_write ⟨Nat.le_of_ble_eq_true rfl, Nat.le_of_ble_eq_true rfl⟩ [] rfl (Nat.le_of_ble_eq_true rfl) hl.1 ⟨Nat.le_refl _, Nat.le_refl _⟩ dX4_append_43 (fun H locs hP hS => ?_)
        refine lv_aload_n hx hb dX4_append_46 rfl (lv_at hl 0 rfl) ?_
        refine lv_iload_n hx hb dX4_append_47 rfl (lv_at hl 3 rfl) ?_
        refine lv_iload_n hx hb dX4_append_48 rfl (lv_at hl 1 rfl) ?_
        refine lv_iload_n hx hb dX4_append_49 rfl (lv_at hl 2 rfl) ?_
        obtain ⟨g50, hcal, h⟩ := bnd_s h
        refine x_VV (As := [.int v3, .int x0, .int x1]) hx hb hml hown hts hK hP hS (ct_X4_changeBounds l D a cA cT hI g43 t v3 x0 x1 ht g50 hcal) (tT_22 ht) (C := RX4) (F := TX4) (N := 5) rfl (g_V q455 q456 q457 q39 q458) yd_X4_changeBounds ⟨Nat.le_of_ble_eq_true rfl, Nat.le_of_ble_eq_true rfl⟩ [] rfl (Nat.le_of_ble_eq_true rfl) hl.1 ⟨Nat.le_refl _, Nat.le_refl _⟩ dX4_append_50 (fun H locs hP hS => ?_)
        refine lv_aload_n hx hb dX4_append_53 rfl (lv_at hl 0 rfl) ?_
        refine lv_dup hx hb dX4_append_54 rfl ?_
        refine x_get hx hb hts inX4 hown hK hP (tT_22 ht) (C := RX4) (F := TX4) (N := 5) rfl 3 (by decide) q91 rfl rfl dX4_append_55 ?_
        refine lv_iconst (v := (1 : Int32)) hx hb dX4_append_58 (by decide) ?_
        refine lv_iadd hx hb dX4_append_59 ?_
        refine x_put hx hb hts inX4 tyX4 tyX4_ok nmX4 hown hK hI hP hS (tT_22 ht) (C := RX4) (F := TX4) (N := 5) rfl 3 (by decide) q91 rfl rfl rfl rfl rfl dX4_append_60 (fun H locs hP hS => ?_)
        refine lv_aload_n hx hb dX4_append_63 rfl (lv_at hl 0 rfl) ?_
        refine lv_dup hx hb dX4_append_64 rfl ?_
        refine x_get hx hb hts inX4 hown hK hP (tT_22 ht) (C := RX4) (F := TX4) (N := 5) rfl 4 (by decide) q93 rfl rfl dX4_append_65 ?_
        refine lv_iconst (v := (1 : Int32)) hx hb dX4_append_68 (by decide) ?_
        refine lv_iadd hx hb dX4_append_69 ?_
        refine x_put hx hb hts inX4 tyX4 tyX4_ok nmX4 hown hK hI hP hS (tT_22 ht) (C := RX4) (F := TX4) (N := 5) rfl 4 (by decide) q93 rfl rfl rfl rfl rfl dX4_append_70 (fun H locs hP hS => ?_)
        refine lv_aload_n hx hb dX4_append_73 rfl (lv_at hl 0 rfl) ?_
        refine x_get hx hb hts inX4 hown hK hP (tT_22 ht) (C := RX4) (F := TX4) (N := 5) rfl 4 (by decide) q93 rfl rfl dX4_append_74 ?_
        refine lv_iconst (v := (1 : Int32)) hx hb dX4_append_77 (by decide) ?_
        refine lv_isub hx hb dX4_append_78 ?_
        obtain ⟨rfl, rfl⟩ := Prod.mk.inj (Option.some.inj h)
        exact hend _ _ _ _ dX4_append_79 rfl hP hS
      · have h := ite_f hc h
        refine lv_aload_n hx hb dX4_append_9 rfl (lv_at hl 0 rfl) ?_
        refine lv_iload_n hx hb dX4_append_10 rfl (lv_at hl 3 rfl) ?_
        refine lv_iconst (v := (1 : Int32)) hx hb dX4_append_11 (by decide) ?_
        refine lv_isub hx hb dX4_append_12 ?_
        obtain ⟨r13, hcal, h⟩ := bnd_s h
        refine x_VI (As := [.int (v3 - (1 : Int32))]) hx hb hml hown hts hK hP hS (ct_X4_lowAt l D a cA cT hI g5 t (v3 - (1 : Int32)) ht r13 hcal) (tT_22 ht) (C := RX4) (F := TX4) (N := 5) rfl (g_V q265 q266 q267 q39 q268) yd_X4_lowAt ⟨Nat.le_of_ble_eq_true rfl, Nat.le_of_ble_eq_true rfl⟩ [] rfl (Nat.le_of_ble_eq_true rfl) hl.1 ⟨Nat.le_refl _, Nat.le_refl _⟩ dX4_append_13 (fun H locs hP hS => ?_)
        refine lv_iload_n hx hb dX4_append_16 rfl (lv_at hl 1 rfl) ?_
        refine lv_icmp_le (tgt := 34) hx hb dX4_append_17 (by decide) (fun hc => ?_) (fun hc => ?_)
        · have h := ite_t hc h
          refine lv_aload_n hx hb dX4_append_34 rfl (lv_at hl 0 rfl) ?_
          refine x_getr hx hb hts inX4 hown hK hP (tT_22 ht) (C := RX4) (F := TX4) (N := 5) rfl 0 (by decide) q88 rfl (29 + 15 * t) rfl dX4_append_35 ?_
          refine lv_iload_n hx hb dX4_append_38 rfl (lv_at hl 3 rfl) ?_
          refine lv_aload_n hx hb dX4_append_39 rfl (lv_at hl 0 rfl) ?_
          refine x_get hx hb hts inX4 hown hK hP (tT_22 ht) (C := RX4) (F := TX4) (N := 5) rfl 4 (by decide) q93 rfl rfl dX4_append_40 ?_
          obtain ⟨g43, hcal, h⟩ := bnd_s h
          refine x_VV (As := [.int v3, .int (g5.1 (22 + 15 * t) 4)]) hx hb hml hown hts hK hP hS (ct_X0_write l D a cA cT hI g5 (30 + 15 * t) 12 v3 (g5.1 (22 + 15 * t) 4) (29 + 15 * t) (tT_29 ht) (tT_30 ht) g43 hcal) (tT_29 ht) (C := RX0) (F := TX0) (N := 1) rfl (g_V q454 q424 q425 q38 q426) yd_X0_write ⟨Nat.le_of_ble_eq_true rfl, Nat.le_of_ble_eq_true rfl⟩ [] rfl (Nat.le_of_ble_eq_true rfl) hl.1 ⟨Nat.le_refl _, Nat.le_refl _⟩ dX4_append_43 (fun H locs hP hS => ?_)
          refine lv_aload_n hx hb dX4_append_46 rfl (lv_at hl 0 rfl) ?_
          refine lv_iload_n hx hb dX4_append_47 rfl (lv_at hl 3 rfl) ?_
          refine lv_iload_n hx hb dX4_append_48 rfl (lv_at hl 1 rfl) ?_
          refine lv_iload_n hx hb dX4_append_49 rfl (lv_at hl 2 rfl) ?_
          obtain ⟨g50, hcal, h⟩ := bnd_s h
          refine x_VV (As := [.int v3, .int x0, .int x1]) hx hb hml hown hts hK hP hS (ct_X4_changeBounds l D a cA cT hI g43 t v3 x0 x1 ht g50 hcal) (tT_22 ht) (C := RX4) (F := TX4) (N := 5) rfl (g_V q455 q456 q457 q39 q458) yd_X4_changeBounds ⟨Nat.le_of_ble_eq_true rfl, Nat.le_of_ble_eq_true rfl⟩ [] rfl (Nat.le_of_ble_eq_true rfl) hl.1 ⟨Nat.le_refl _, Nat.le_refl _⟩ dX4_append_50 (fun H locs hP hS => ?_)
          refine lv_aload_n hx hb dX4_append_53 rfl (lv_at hl 0 rfl) ?_
          refine lv_dup hx hb dX4_append_54 rfl ?_
          refine x_get hx hb hts inX4 hown hK hP (tT_22 ht) (C := RX4) (F := TX4) (N := 5) rfl 3 (by decide) q91 rfl rfl dX4_append_55 ?_
          refine lv_iconst (v := (1 : Int32)) hx hb dX4_append_58 (by decide) ?_
          refine lv_iadd hx hb dX4_append_59 ?_
          refine x_put hx hb hts inX4 tyX4 tyX4_ok nmX4 hown hK hI hP hS (tT_22 ht) (C := RX4) (F := TX4) (N := 5) rfl 3 (by decide) q91 rfl rfl rfl rfl rfl dX4_append_60 (fun H locs hP hS => ?_)
          refine lv_aload_n hx hb dX4_append_63 rfl (lv_at hl 0 rfl) ?_
          refine lv_dup hx hb dX4_append_64 rfl ?_
          refine x_get hx hb hts inX4 hown hK hP (tT_22 ht) (C := RX4) (F := TX4) (N := 5) rfl 4 (by decide) q93 rfl rfl dX4_append_65 ?_
          refine lv_iconst (v := (1 : Int32)) hx hb dX4_append_68 (by decide) ?_
          refine lv_iadd hx hb dX4_append_69 ?_
          refine x_put hx hb hts inX4 tyX4 tyX4_ok nmX4 hown hK hI hP hS (tT_22 ht) (C := RX4) (F := TX4) (N := 5) rfl 4 (by decide) q93 rfl rfl rfl rfl rfl dX4_append_70 (fun H locs hP hS => ?_)
          refine lv_aload_n hx hb dX4_append_73 rfl (lv_at hl 0 rfl) ?_
          refine x_get hx hb hts inX4 hown hK hP (tT_22 ht) (C := RX4) (F := TX4) (N := 5) rfl 4 (by decide) q93 rfl rfl dX4_append_74 ?_
          refine lv_iconst (v := (1 : Int32)) hx hb dX4_append_77 (by decide) ?_
          refine lv_isub hx hb dX4_append_78 ?_
          obtain ⟨rfl, rfl⟩ := Prod.mk.inj (Option.some.inj h)
          exact hend _ _ _ _ dX4_append_79 rfl hP hS
        · have h := ite_f hc h
          refine lv_aload_n hx hb dX4_append_20 rfl (lv_at hl 0 rfl) ?_
          refine lv_iload_n hx hb dX4_append_21 rfl (lv_at hl 3 rfl) ?_
          refine lv_iconst (v := (1 : Int32)) hx hb dX4_append_22 (by decide) ?_
          refine lv_isub hx hb dX4_append_23 ?_
          refine lv_iload_n hx hb dX4_append_24 rfl (lv_at hl 3 rfl) ?_
          obtain ⟨g25, hcal, h⟩ := bnd_s h
          refine x_VV (As := [.int (v3 - (1 : Int32)), .int v3]) hx hb hml hown hts hK hP hS (ct_X4_copyEntry l D a cA cT hI g5 t (v3 - (1 : Int32)) v3 ht g25 hcal) (tT_22 ht) (C := RX4) (F := TX4) (N := 5) rfl (g_V q451 q452 q6 q39 q453) yd_X4_copyEntry ⟨Nat.le_of_ble_eq_true rfl, Nat.le_of_ble_eq_true rfl⟩ [] rfl (Nat.le_of_ble_eq_true rfl) hl.1 ⟨Nat.le_refl _, Nat.le_refl _⟩ dX4_append_25 (fun H locs hP hS => ?_)
          refine lv_iinc (v := (v3 + (-1 : Int32))) (lv' := [(3, .int (v3 + (-1 : Int32))), (0, .ref (a (22 + 15 * t))), (1, .int x0), (2, .int x1)]) hx hb dX4_append_28 hl (k := 3) rfl rfl (by decide) rfl (fun ls hl => ?_)
          refine lv_goto (tgt := 5) hx hb dX4_append_31 (by decide) ?_
          exact ih5 (v3 + (-1 : Int32)) g25 _ _ _ hP hS (lv_sub hl [1, 2, 3, 0] rfl) h
  exact K5 fuelN (g.1 (22 + 15 * t) 3) g _ _ _ hP hS (lv_sub hl [1, 2, 3, 0] rfl) h
set_option maxHeartbeats 4000000 in
set_option maxRecDepth 100000 in
theorem ct_X4_remove (l : Launch) (D : va_G) (a : Nat → Nat) (cA cT : ClassId) (hI : WI a TC) (g : MG) (t : Nat) (x0 : Int32) (ht : t < 6) (g' : MG) (h : m_X4_remove g t x0 = some g') :
    CtV l D a cA cT TC yX4_remove (Cond.code yX4_remove cX4_remove 4 none :: lw_all) (rmm 3 67) [.ref (a (22 + 15 * t)), .int x0] g g' := by
  refine CtV.of (by decide +kernel) (Nat.le_of_ble_eq_true rfl) ?_
  intro p e s m args below meth c Q ls hx hb hml hown hts hK hP hS hl hend
  have hl : lv_has ls 4 [(0, .ref (a (22 + 15 * t))), (1, .int x0)] := hl
  unfold m_X4_remove at h
  refine lv_aload_n hx hb dX4_remove_0 rfl (lv_at hl 0 rfl) ?_
  refine lv_iload_n hx hb dX4_remove_1 rfl (lv_at hl 1 rfl) ?_
  obtain ⟨r2, hcal, h⟩ := bnd_s h
  refine x_VI (As := [.int x0]) hx hb hml hown hts hK hP hS (ct_X4_positionOf l D a cA cT hI g t x0 ht r2 hcal) (tT_22 ht) (C := RX4) (F := TX4) (N := 5) rfl (g_V q339 q340 q341 q39 q342) yd_X4_positionOf ⟨Nat.le_of_ble_eq_true rfl, Nat.le_of_ble_eq_true rfl⟩ [] rfl (Nat.le_of_ble_eq_true rfl) hl.1 ⟨Nat.le_refl _, Nat.le_refl _⟩ dX4_remove_2 (fun H locs hP hS => ?_)
  refine lv_istore_n (lv' := [(2, .int r2), (0, .ref (a (22 + 15 * t))), (1, .int x0)]) hx hb dX4_remove_5 rfl hl (by decide) rfl (fun ls hl => ?_)
  refine lv_iload_n hx hb dX4_remove_6 rfl (lv_at hl 0 rfl) ?_
  refine lv_sipush (v := (-1005 : Int32)) hx hb dX4_remove_7 (by decide) ?_
  refine lv_icmp_ne (tgt := 14) hx hb dX4_remove_10 (by decide) (fun hc => ?_) (fun hc => ?_)
  · have h := ite_f hc h
    refine lv_iload_n hx hb dX4_remove_14 rfl (lv_at hl 0 rfl) ?_
    refine lv_iconst (v := (1 : Int32)) hx hb dX4_remove_15 (by decide) ?_
    refine lv_iadd hx hb dX4_remove_16 ?_
    refine lv_istore_n (lv' := [(3, .int (r2 + (1 : Int32))), (2, .int r2), (0, .ref (a (22 + 15 * t))), (1, .int x0)]) hx hb dX4_remove_17 rfl hl (by decide) rfl (fun ls hl => ?_)
    have K18 : ∀ (n18 : Nat) (v3 : Int32) (g18 : MG) (H : Heap) (locs : List Loc) (ls : Array Slot), WP D a cA cT TC g18 H → va_S (AA a TC) s.heap H locs → lv_has ls 4 [(0, .ref (a (22 + 15 * t))), (3, .int v3)] → lpo (b_X4_remove_L18 t x0) n18 (v3, g18) = some g' → W p l e (rmm 3 67) s m args below meth c H locs 0 0 Q (F0 m 18 ls []) := by
      intro n18
      induction n18 with
      | zero => intro v3 g18 H locs ls hP hS hl h; exact (lpo_0 h).elim
      | succ n18 ih18 =>
        intro v3 g18 H locs ls hP hS hl h
        have h : m_X4_remove_L18 (lpo (b_X4_remove_L18 t x0) n18) t x0 v3 g18 = some g' := h
        unfold m_X4_remove_L18 at h
        refine lv_iload_n hx hb dX4_remove_18 rfl (lv_at hl 1 rfl) ?_
        refine lv_aload_n hx hb dX4_remove_19 rfl (lv_at hl 0 rfl) ?_
        refine x_get hx hb hts inX4 hown hK hP (tT_22 ht) (C := RX4) (F := TX4) (N := 5) rfl 3 (by decide) q91 rfl rfl dX4_remove_20 ?_
        refine lv_icmp_ge (tgt := 40) hx hb dX4_remove_23 (by decide) (fun hc => ?_) (fun hc => ?_)
        · have h := ite_t hc h
          refine lv_aload_n hx hb dX4_remove_40 rfl (lv_at hl 0 rfl) ?_
          refine lv_dup hx hb dX4_remove_41 rfl ?_
          refine x_get hx hb hts inX4 hown hK hP (tT_22 ht) (C := RX4) (F := TX4) (N := 5) rfl 3 (by decide) q91 rfl rfl dX4_remove_42 ?_
          refine lv_iconst (v := (1 : Int32)) hx hb dX4_remove_45 (by decide) ?_
          refine lv_isub hx hb dX4_remove_46 ?_
          refine x_put hx hb hts inX4 tyX4 tyX4_ok nmX4 hown hK hI hP hS (tT_22 ht) (C := RX4) (F := TX4) (N := 5) rfl 3 (by decide) q91 rfl rfl rfl rfl rfl dX4_remove_47 (fun H locs hP hS => ?_)
          obtain rfl := Option.some.inj h
          exact hend _ _ _ _ dX4_remove_50 hP hS
        · have h := ite_f hc h
          refine lv_aload_n hx hb dX4_remove_26 rfl (lv_at hl 0 rfl) ?_
          refine lv_iload_n hx hb dX4_remove_27 rfl (lv_at hl 1 rfl) ?_
          refine lv_iload_n hx hb dX4_remove_28 rfl (lv_at hl 1 rfl) ?_
          refine lv_iconst (v := (1 : Int32)) hx hb dX4_remove_29 (by decide) ?_
          refine lv_isub hx hb dX4_remove_30 ?_
          obtain ⟨g31, hcal, h⟩ := bnd_s h
          refine x_VV (As := [.int v3, .int (v3 - (1 : Int32))]) hx hb hml hown hts hK hP hS (ct_X4_copyEntry l D a cA cT hI g18 t v3 (v3 - (1 : Int32)) ht g31 hcal) (tT_22 ht) (C := RX4) (F := TX4) (N := 5) rfl (g_V q451 q452 q6 q39 q453) yd_X4_copyEntry ⟨Nat.le_of_ble_eq_true rfl, Nat.le_of_ble_eq_true rfl⟩ [] rfl (Nat.le_of_ble_eq_true rfl) hl.1 ⟨Nat.le_refl _, Nat.le_refl _⟩ dX4_remove_31 (fun H locs hP hS => ?_)
          refine lv_iinc (v := (v3 + (1 : Int32))) (lv' := [(3, .int (v3 + (1 : Int32))), (0, .ref (a (22 + 15 * t)))]) hx hb dX4_remove_34 hl (k := 1) rfl rfl (by decide) rfl (fun ls hl => ?_)
          refine lv_goto (tgt := 18) hx hb dX4_remove_37 (by decide) ?_
          exact ih18 (v3 + (1 : Int32)) g31 _ _ _ hP hS (lv_sub hl [1, 0] rfl) h
    exact K18 fuelN (r2 + (1 : Int32)) g _ _ _ hP hS (lv_sub hl [2, 0] rfl) h
  · have h := ite_t hc h
    obtain rfl := Option.some.inj h
    exact hend _ _ _ _ dX4_remove_13 hP hS
set_option maxHeartbeats 4000000 in
set_option maxRecDepth 100000 in
theorem ct_X4_unite (l : Launch) (D : va_G) (a : Nat → Nat) (cA cT : ClassId) (hI : WI a TC) (g : MG) (t : Nat) (x0 : Int32) (x1 : Int32) (ht : t < 6) (g' : MG) (h : m_X4_unite g t x0 x1 = some g') :
    CtV l D a cA cT TC yX4_unite (Cond.code yX4_unite cX4_unite 5 none :: lw_all) (rmm 4 90) [.ref (a (22 + 15 * t)), .int x0, .int x1] g g' := by
  refine CtV.of (by decide +kernel) (Nat.le_of_ble_eq_true rfl) ?_
  intro p e s m args below meth c Q ls hx hb hml hown hts hK hP hS hl hend
  have hl : lv_has ls 5 [(0, .ref (a (22 + 15 * t))), (1, .int x0), (2, .int x1)] := hl
  unfold m_X4_unite at h
  refine lv_aload_n hx hb dX4_unite_0 rfl (lv_at hl 0 rfl) ?_
  refine lv_iload_n hx hb dX4_unite_1 rfl (lv_at hl 1 rfl) ?_
  obtain ⟨r2, hcal, h⟩ := bnd_s h
  refine x_VI (As := [.int x0]) hx hb hml hown hts hK hP hS (ct_X4_lowAt l D a cA cT hI g t x0 ht r2 hcal) (tT_22 ht) (C := RX4) (F := TX4) (N := 5) rfl (g_V q265 q266 q267 q39 q268) yd_X4_lowAt ⟨Nat.le_of_ble_eq_true rfl, Nat.le_of_ble_eq_true rfl⟩ [] rfl (Nat.le_of_ble_eq_true rfl) hl.1 ⟨Nat.le_refl _, Nat.le_refl _⟩ dX4_unite_2 (fun H locs hP hS => ?_)
  refine lv_aload_n hx hb dX4_unite_5 rfl (lv_at hl 0 rfl) ?_
  refine lv_iload_n hx hb dX4_unite_6 rfl (lv_at hl 2 rfl) ?_
  obtain ⟨r7, hcal, h⟩ := bnd_s h
  refine x_VI (As := [.int x1]) hx hb hml hown hts hK hP hS (ct_X4_lowAt l D a cA cT hI g t x1 ht r7 hcal) (tT_22 ht) (C := RX4) (F := TX4) (N := 5) rfl (g_V q265 q266 q267 q39 q268) yd_X4_lowAt ⟨Nat.le_of_ble_eq_true rfl, Nat.le_of_ble_eq_true rfl⟩ [.int r2] rfl (Nat.le_of_ble_eq_true rfl) hl.1 ⟨Nat.le_refl _, Nat.le_refl _⟩ dX4_unite_7 (fun H locs hP hS => ?_)
  refine va_mmin hx hb (hml.trans hl.1.symm) hown (hts _ q502) (hts _ q202) (hts _ q42) (hts _ q203) (Nat.le_of_ble_eq_true rfl) (Nat.le_of_ble_eq_true rfl) (Nat.le_refl _) (Nat.le_refl _) dX4_unite_10 ?_
  refine lv_istore_n (lv' := [(3, .int (if r7 < r2 then r7 else r2)), (0, .ref (a (22 + 15 * t))), (1, .int x0), (2, .int x1)]) hx hb dX4_unite_13 rfl hl (by decide) rfl (fun ls hl => ?_)
  refine lv_aload_n hx hb dX4_unite_14 rfl (lv_at hl 1 rfl) ?_
  refine lv_iload_n hx hb dX4_unite_15 rfl (lv_at hl 2 rfl) ?_
  obtain ⟨r16, hcal, h⟩ := bnd_s h
  refine x_VI (As := [.int x0]) hx hb hml hown hts hK hP hS (ct_X4_highAt l D a cA cT hI g t x0 ht r16 hcal) (tT_22 ht) (C := RX4) (F := TX4) (N := 5) rfl (g_V q270 q271 q272 q39 q273) yd_X4_highAt ⟨Nat.le_of_ble_eq_true rfl, Nat.le_of_ble_eq_true rfl⟩ [] rfl (Nat.le_of_ble_eq_true rfl) hl.1 ⟨Nat.le_refl _, Nat.le_refl _⟩ dX4_unite_16 (fun H locs hP hS => ?_)
  refine lv_aload_n hx hb dX4_unite_19 rfl (lv_at hl 1 rfl) ?_
  refine lv_iload_n hx hb dX4_unite_20 rfl (lv_at hl 3 rfl) ?_
  obtain ⟨r21, hcal, h⟩ := bnd_s h
  refine x_VI (As := [.int x1]) hx hb hml hown hts hK hP hS (ct_X4_highAt l D a cA cT hI g t x1 ht r21 hcal) (tT_22 ht) (C := RX4) (F := TX4) (N := 5) rfl (g_V q270 q271 q272 q39 q273) yd_X4_highAt ⟨Nat.le_of_ble_eq_true rfl, Nat.le_of_ble_eq_true rfl⟩ [.int r16] rfl (Nat.le_of_ble_eq_true rfl) hl.1 ⟨Nat.le_refl _, Nat.le_refl _⟩ dX4_unite_21 (fun H locs hP hS => ?_)
  refine va_mmax hx hb (hml.trans hl.1.symm) hown (hts _ q503) (hts _ q504) (hts _ q42) (hts _ q505) (Nat.le_of_ble_eq_true rfl) (Nat.le_of_ble_eq_true rfl) (Nat.le_refl _) (Nat.le_refl _) dX4_unite_24 ?_
  refine lv_istore (lv' := [(4, .int (if r16 < r21 then r21 else r16)), (3, .int (if r7 < r2 then r7 else r2)), (0, .ref (a (22 + 15 * t))), (1, .int x0), (2, .int x1)]) hx hb dX4_unite_27 hl (by decide) rfl (fun ls hl => ?_)
  refine lv_aload_n hx hb dX4_unite_29 rfl (lv_at hl 2 rfl) ?_
  refine lv_iload_n hx hb dX4_unite_30 rfl (lv_at hl 4 rfl) ?_
  refine lv_iload_n hx hb dX4_unite_31 rfl (lv_at hl 1 rfl) ?_
  refine lv_iload hx hb dX4_unite_32 (lv_at hl 0 rfl) ?_
  obtain ⟨g34, hcal, h⟩ := bnd_s h
  refine x_VV (As := [.int x1, .int (if r7 < r2 then r7 else r2), .int (if r16 < r21 then r21 else r16)]) hx hb hml hown hts hK hP hS (ct_X4_changeBounds l D a cA cT hI g t x1 (if r7 < r2 then r7 else r2) (if r16 < r21 then r21 else r16) ht g34 hcal) (tT_22 ht) (C := RX4) (F := TX4) (N := 5) rfl (g_V q455 q456 q457 q39 q458) yd_X4_changeBounds ⟨Nat.le_of_ble_eq_true rfl, Nat.le_of_ble_eq_true rfl⟩ [] rfl (Nat.le_of_ble_eq_true rfl) hl.1 ⟨Nat.le_refl _, Nat.le_refl _⟩ dX4_unite_34 (fun H locs hP hS => ?_)
  refine lv_aload_n hx hb dX4_unite_37 rfl (lv_at hl 2 rfl) ?_
  refine lv_aload_n hx hb dX4_unite_38 rfl (lv_at hl 2 rfl) ?_
  refine lv_iload_n hx hb dX4_unite_39 rfl (lv_at hl 3 rfl) ?_
  obtain ⟨r40, hcal, h⟩ := bnd_s h
  refine x_VI (As := [.int x0]) hx hb hml hown hts hK hP hS (ct_X4_numberAt l D a cA cT hI g34 t x0 ht r40 hcal) (tT_22 ht) (C := RX4) (F := TX4) (N := 5) rfl (g_V q274 q275 q276 q39 q277) yd_X4_numberAt ⟨Nat.le_of_ble_eq_true rfl, Nat.le_of_ble_eq_true rfl⟩ [.ref (a (22 + 15 * t))] rfl (Nat.le_of_ble_eq_true rfl) hl.1 ⟨Nat.le_refl _, Nat.le_refl _⟩ dX4_unite_40 (fun H locs hP hS => ?_)
  obtain ⟨g43, hcal, h⟩ := bnd_s h
  refine x_VV (As := [.int r40]) hx hb hml hown hts hK hP hS (ct_X4_remove l D a cA cT hI g34 t r40 ht g43 hcal) (tT_22 ht) (C := RX4) (F := TX4) (N := 5) rfl (g_V q506 q507 q508 q39 q509) yd_X4_remove ⟨Nat.le_of_ble_eq_true rfl, Nat.le_of_ble_eq_true rfl⟩ [] rfl (Nat.le_of_ble_eq_true rfl) hl.1 ⟨Nat.le_refl _, Nat.le_refl _⟩ dX4_unite_43 (fun H locs hP hS => ?_)
  obtain rfl := Option.some.inj h
  exact hend _ _ _ _ dX4_unite_46 hP hS
set_option maxHeartbeats 4000000 in
set_option maxRecDepth 100000 in
theorem ct_X4_gapLow (l : Launch) (D : va_G) (a : Nat → Nat) (cA cT : ClassId) (hI : WI a TC) (g : MG) (t : Nat) (x0 : Int32) (ht : t < 6) (r : Int32) (h : m_X4_gapLow g t x0 = some r) :
    CtI l D a cA cT TC yX4_gapLow (Cond.code yX4_gapLow cX4_gapLow 2 (some .int) :: lw_all) (rmm 2 42) [.ref (a (22 + 15 * t)), .int x0] g r g := by
  refine CtI.of (by decide +kernel) (Nat.le_of_ble_eq_true rfl) ?_
  intro p e s m args below meth c Q ls hx hb hml hown hts hK hP hS hl hend
  have hl : lv_has ls 2 [(0, .ref (a (22 + 15 * t))), (1, .int x0)] := hl
  unfold m_X4_gapLow at h
  refine lv_iload_n hx hb dX4_gapLow_0 rfl (lv_at hl 1 rfl) ?_
  refine lv_if_ne (tgt := 8) hx hb dX4_gapLow_1 (by decide) (fun hc => ?_) (fun hc => ?_)
  · have h := ite_f hc h
    refine lv_aload_n hx hb dX4_gapLow_8 rfl (lv_at hl 0 rfl) ?_
    refine lv_iload_n hx hb dX4_gapLow_9 rfl (lv_at hl 1 rfl) ?_
    refine lv_iconst (v := (1 : Int32)) hx hb dX4_gapLow_10 (by decide) ?_
    refine lv_isub hx hb dX4_gapLow_11 ?_
    obtain ⟨r12, hcal, h⟩ := bnd_s h
    refine x_VI (As := [.int (x0 - (1 : Int32))]) hx hb hml hown hts hK hP hS (ct_X4_highAt l D a cA cT hI g t (x0 - (1 : Int32)) ht r12 hcal) (tT_22 ht) (C := RX4) (F := TX4) (N := 5) rfl (g_V q270 q271 q272 q39 q273) yd_X4_highAt ⟨Nat.le_of_ble_eq_true rfl, Nat.le_of_ble_eq_true rfl⟩ [] rfl (Nat.le_of_ble_eq_true rfl) hl.1 ⟨Nat.le_refl _, Nat.le_refl _⟩ dX4_gapLow_12 (fun H locs hP hS => ?_)
    obtain rfl := Option.some.inj h
    exact hend _ _ _ _ dX4_gapLow_15 rfl hP hS
  · have h := ite_t hc h
    refine lv_iconst (v := (0 : Int32)) hx hb dX4_gapLow_4 (by decide) ?_
    refine lv_goto (tgt := 15) hx hb dX4_gapLow_5 (by decide) ?_
    obtain rfl := Option.some.inj h
    exact hend _ _ _ _ dX4_gapLow_15 rfl hP hS
set_option maxHeartbeats 4000000 in
set_option maxRecDepth 100000 in
theorem ct_X4_gapHigh (l : Launch) (D : va_G) (a : Nat → Nat) (cA cT : ClassId) (hI : WI a TC) (g : MG) (t : Nat) (x0 : Int32) (ht : t < 6) (r : Int32) (h : m_X4_gapHigh g t x0 = some r) :
    CtI l D a cA cT TC yX4_gapHigh (Cond.code yX4_gapHigh cX4_gapHigh 2 (some .int) :: lw_all) (rmm 2 42) [.ref (a (22 + 15 * t)), .int x0] g r g := by
  refine CtI.of (by decide +kernel) (Nat.le_of_ble_eq_true rfl) ?_
  intro p e s m args below meth c Q ls hx hb hml hown hts hK hP hS hl hend
  have hl : lv_has ls 2 [(0, .ref (a (22 + 15 * t))), (1, .int x0)] := hl
  unfold m_X4_gapHigh at h
  refine lv_iload_n hx hb dX4_gapHigh_0 rfl (lv_at hl 1 rfl) ?_
  refine lv_aload_n hx hb dX4_gapHigh_1 rfl (lv_at hl 0 rfl) ?_
  refine x_get hx hb hts inX4 hown hK hP (tT_22 ht) (C := RX4) (F := TX4) (N := 5) rfl 3 (by decide) q91 rfl rfl dX4_gapHigh_2 ?_
  refine lv_icmp_ne (tgt := 14) hx hb dX4_gapHigh_5 (by decide) (fun hc => ?_) (fun hc => ?_)
  · have h := ite_f hc h
    refine lv_aload_n hx hb dX4_gapHigh_14 rfl (lv_at hl 0 rfl) ?_
    refine lv_iload_n hx hb dX4_gapHigh_15 rfl (lv_at hl 1 rfl) ?_
    obtain ⟨r16, hcal, h⟩ := bnd_s h
    refine x_VI (As := [.int x0]) hx hb hml hown hts hK hP hS (ct_X4_lowAt l D a cA cT hI g t x0 ht r16 hcal) (tT_22 ht) (C := RX4) (F := TX4) (N := 5) rfl (g_V q265 q266 q267 q39 q268) yd_X4_lowAt ⟨Nat.le_of_ble_eq_true rfl, Nat.le_of_ble_eq_true rfl⟩ [] rfl (Nat.le_of_ble_eq_true rfl) hl.1 ⟨Nat.le_refl _, Nat.le_refl _⟩ dX4_gapHigh_16 (fun H locs hP hS => ?_)
    obtain rfl := Option.some.inj h
    exact hend _ _ _ _ dX4_gapHigh_19 rfl hP hS
  · have h := ite_t hc h
    refine lv_sipush (v := (1000 : Int32)) hx hb dX4_gapHigh_8 (by decide) ?_
    refine lv_goto (tgt := 19) hx hb dX4_gapHigh_11 (by decide) ?_
    obtain rfl := Option.some.inj h
    exact hend _ _ _ _ dX4_gapHigh_19 rfl hP hS
set_option maxHeartbeats 4000000 in
set_option maxRecDepth 100000 in
theorem ct_X4_gapRanked (l : Launch) (D : va_G) (a : Nat → Nat) (cA cT : ClassId) (hI : WI a TC) (g : MG) (t : Nat) (x0 : Int32) (ht : t < 6) (r : Int32) (h : m_X4_gapRanked g t x0 = some r) :
    CtI l D a cA cT TC yX4_gapRanked (Cond.code yX4_gapRanked cX4_gapRanked 4 (some .int) :: lw_all) (rmm 3 63) [.ref (a (22 + 15 * t)), .int x0] g r g := by
  refine CtI.of (by decide +kernel) (Nat.le_of_ble_eq_true rfl) ?_
  intro p e s m args below meth c Q ls hx hb hml hown hts hK hP hS hl hend
  have hl : lv_has ls 4 [(0, .ref (a (22 + 15 * t))), (1, .int x0)] := hl
  unfold m_X4_gapRanked at h
  refine lv_iconst (v := (0 : Int32)) hx hb dX4_gapRanked_0 (by decide) ?_
  refine lv_istore_n (lv' := [(2, .int (0 : Int32)), (0, .ref (a (22 + 15 * t))), (1, .int x0)]) hx hb dX4_gapRanked_1 rfl hl (by decide) rfl (fun ls hl => ?_)
  refine lv_iconst (v := (0 : Int32)) hx hb dX4_gapRanked_2 (by decide) ?_
  refine lv_istore_n (lv' := [(3, .int (0 : Int32)), (2, .int (0 : Int32)), (0, .ref (a (22 + 15 * t))), (1, .int x0)]) hx hb dX4_gapRanked_3 rfl hl (by decide) rfl (fun ls hl => ?_)
  have K4 : ∀ (n4 : Nat) (v2 : Int32) (v3 : Int32) (H : Heap) (locs : List Loc) (ls : Array Slot), WP D a cA cT TC g H → va_S (AA a TC) s.heap H locs → lv_has ls 4 [(0, .ref (a (22 + 15 * t))), (1, .int x0), (2, .int v2), (3, .int v3)] → lpo (b_X4_gapRanked_L4 g t x0) n4 (v2, v3) = some r → W p l e (rmm 3 63) s m args below meth c H locs 0 0 Q (F0 m 4 ls []) := by
    intro n4
    induction n4 with
    | zero => intro v2 v3 H locs ls hP hS hl h; exact (lpo_0 h).elim
    | succ n4 ih4 =>
      intro v2 v3 H locs ls hP hS hl h
      have h : m_X4_gapRanked_L4 (lpo (b_X4_gapRanked_L4 g t x0) n4) g t x0 v2 v3 = some r := h
      unfold m_X4_gapRanked_L4 at h
      refine lv_iload_n hx hb dX4_gapRanked_4 rfl (lv_at hl 3 rfl) ?_
      refine lv_aload_n hx hb dX4_gapRanked_5 rfl (lv_at hl 0 rfl) ?_
      refine x_get hx hb hts inX4 hown hK hP (tT_22 ht) (C := RX4) (F := TX4) (N := 5) rfl 3 (by decide) q91 rfl rfl dX4_gapRanked_6 ?_
      refine lv_icmp_gt (tgt := 41) hx hb dX4_gapRanked_9 (by decide) (fun hc => ?_) (fun hc => ?_)
      · have h := ite_t hc h
        refine lv_sipush (v := (-1005 : Int32)) hx hb dX4_gapRanked_41 (by decide) ?_
        obtain rfl := Option.some.inj h
        exact hend _ _ _ _ dX4_gapRanked_44 rfl hP hS
      · have h := ite_f hc h
        refine lv_aload_n hx hb dX4_gapRanked_12 rfl (lv_at hl 0 rfl) ?_
        refine lv_iload_n hx hb dX4_gapRanked_13 rfl (lv_at hl 3 rfl) ?_
        obtain ⟨r14, hcal, h⟩ := bnd_s h
        refine x_VI (As := [.int v3]) hx hb hml hown hts hK hP hS (ct_X4_gapLow l D a cA cT hI g t v3 ht r14 hcal) (tT_22 ht) (C := RX4) (F := TX4) (N := 5) rfl (g_V q283 q284 q285 q39 q286) yd_X4_gapLow ⟨Nat.le_of_ble_eq_true rfl, Nat.le_of_ble_eq_true rfl⟩ [] rfl (Nat.le_of_ble_eq_true rfl) hl.1 ⟨Nat.le_refl _, Nat.le_refl _⟩ dX4_gapRanked_14 (fun H locs hP hS => ?_)
        refine lv_aload_n hx hb dX4_gapRanked_17 rfl (lv_at hl 0 rfl) ?_
        refine lv_iload_n hx hb dX4_gapRanked_18 rfl (lv_at hl 3 rfl) ?_
        obtain ⟨r19, hcal, h⟩ := bnd_s h
        refine x_VI (As := [.int v3]) hx hb hml hown hts hK hP hS (ct_X4_gapHigh l D a cA cT hI g t v3 ht r19 hcal) (tT_22 ht) (C := RX4) (F := TX4) (N := 5) rfl (g_V q287 q288 q289 q39 q290) yd_X4_gapHigh ⟨Nat.le_of_ble_eq_true rfl, Nat.le_of_ble_eq_true rfl⟩ [.int r14] rfl (Nat.le_of_ble_eq_true rfl) hl.1 ⟨Nat.le_refl _, Nat.le_refl _⟩ dX4_gapRanked_19 (fun H locs hP hS => ?_)
        refine lv_icmp_ge (tgt := 35) hx hb dX4_gapRanked_22 (by decide) (fun hc => ?_) (fun hc => ?_)
        · have h := ite_t hc h
          refine lv_iinc (v := (v3 + (1 : Int32))) (lv' := [(3, .int (v3 + (1 : Int32))), (0, .ref (a (22 + 15 * t))), (1, .int x0), (2, .int v2)]) hx hb dX4_gapRanked_35 hl (k := 3) rfl rfl (by decide) rfl (fun ls hl => ?_)
          refine lv_goto (tgt := 4) hx hb dX4_gapRanked_38 (by decide) ?_
          exact ih4 v2 (v3 + (1 : Int32)) _ _ _ hP hS (lv_sub hl [1, 2, 3, 0] rfl) h
        · have h := ite_f hc h
          refine lv_iload_n hx hb dX4_gapRanked_25 rfl (lv_at hl 2 rfl) ?_
          refine lv_iload_n hx hb dX4_gapRanked_26 rfl (lv_at hl 1 rfl) ?_
          refine lv_icmp_ne (tgt := 32) hx hb dX4_gapRanked_27 (by decide) (fun hc => ?_) (fun hc => ?_)
          · have h := ite_f hc h
            refine lv_iinc (v := (v2 + (1 : Int32))) (lv' := [(2, .int (v2 + (1 : Int32))), (0, .ref (a (22 + 15 * t))), (1, .int x0), (3, .int v3)]) hx hb dX4_gapRanked_32 hl (k := 2) rfl rfl (by decide) rfl (fun ls hl => ?_)
            refine lv_iinc (v := (v3 + (1 : Int32))) (lv' := [(3, .int (v3 + (1 : Int32))), (2, .int (v2 + (1 : Int32))), (0, .ref (a (22 + 15 * t))), (1, .int x0)]) hx hb dX4_gapRanked_35 hl (k := 3) rfl rfl (by decide) rfl (fun ls hl => ?_)
            refine lv_goto (tgt := 4) hx hb dX4_gapRanked_38 (by decide) ?_
            exact ih4 (v2 + (1 : Int32)) (v3 + (1 : Int32)) _ _ _ hP hS (lv_sub hl [2, 3, 1, 0] rfl) h
          · have h := ite_t hc h
            refine lv_iload_n hx hb dX4_gapRanked_30 rfl (lv_at hl 3 rfl) ?_
            obtain rfl := Option.some.inj h
            exact hend _ _ _ _ dX4_gapRanked_31 rfl hP hS
  exact K4 fuelN (0 : Int32) (0 : Int32) _ _ _ hP hS (lv_sub hl [2, 3, 1, 0] rfl) h
set_option maxHeartbeats 4000000 in
set_option maxRecDepth 100000 in
theorem ct_X4_gaps (l : Launch) (D : va_G) (a : Nat → Nat) (cA cT : ClassId) (hI : WI a TC) (g : MG) (t : Nat) (ht : t < 6) (r : Int32) (h : m_X4_gaps g t = some r) :
    CtI l D a cA cT TC yX4_gaps (Cond.code yX4_gaps cX4_gaps 3 (some .int) :: lw_all) (rmm 3 63) [.ref (a (22 + 15 * t))] g r g := by
  refine CtI.of (by decide +kernel) (Nat.le_of_ble_eq_true rfl) ?_
  intro p e s m args below meth c Q ls hx hb hml hown hts hK hP hS hl hend
  have hl : lv_has ls 3 [(0, .ref (a (22 + 15 * t)))] := hl
  unfold m_X4_gaps at h
  refine lv_iconst (v := (0 : Int32)) hx hb dX4_gaps_0 (by decide) ?_
  refine lv_istore_n (lv' := [(1, .int (0 : Int32)), (0, .ref (a (22 + 15 * t)))]) hx hb dX4_gaps_1 rfl hl (by decide) rfl (fun ls hl => ?_)
  refine lv_iconst (v := (0 : Int32)) hx hb dX4_gaps_2 (by decide) ?_
  refine lv_istore_n (lv' := [(2, .int (0 : Int32)), (1, .int (0 : Int32)), (0, .ref (a (22 + 15 * t)))]) hx hb dX4_gaps_3 rfl hl (by decide) rfl (fun ls hl => ?_)
  have K4 : ∀ (n4 : Nat) (v1 : Int32) (v2 : Int32) (H : Heap) (locs : List Loc) (ls : Array Slot), WP D a cA cT TC g H → va_S (AA a TC) s.heap H locs → lv_has ls 3 [(0, .ref (a (22 + 15 * t))), (1, .int v1), (2, .int v2)] → lpo (b_X4_gaps_L4 g t) n4 (v1, v2) = some r → W p l e (rmm 3 63) s m args below meth c H locs 0 0 Q (F0 m 4 ls []) := by
    intro n4
    induction n4 with
    | zero => intro v1 v2 H locs ls hP hS hl h; exact (lpo_0 h).elim
    | succ n4 ih4 =>
      intro v1 v2 H locs ls hP hS hl h
      have h : m_X4_gaps_L4 (lpo (b_X4_gaps_L4 g t) n4) g t v1 v2 = some r := h
      unfold m_X4_gaps_L4 at h
      refine lv_iload_n hx hb dX4_gaps_4 rfl (lv_at hl 2 rfl) ?_
      refine lv_aload_n hx hb dX4_gaps_5 rfl (lv_at hl 0 rfl) ?_
      refine x_get hx hb hts inX4 hown hK hP (tT_22 ht) (C := RX4) (F := TX4) (N := 5) rfl 3 (by decide) q91 rfl rfl dX4_gaps_6 ?_
      refine lv_icmp_gt (tgt := 34) hx hb dX4_gaps_9 (by decide) (fun hc => ?_) (fun hc => ?_)
      · have h := ite_t hc h
        refine lv_iload_n hx hb dX4_gaps_34 rfl (lv_at hl 1 rfl) ?_
        obtain rfl := Option.some.inj h
        exact hend _ _ _ _ dX4_gaps_35 rfl hP hS
      · have h := ite_f hc h
        refine lv_aload_n hx hb dX4_gaps_12 rfl (lv_at hl 0 rfl) ?_
        refine lv_iload_n hx hb dX4_gaps_13 rfl (lv_at hl 2 rfl) ?_
        obtain ⟨r14, hcal, h⟩ := bnd_s h
        refine x_VI (As := [.int v2]) hx hb hml hown hts hK hP hS (ct_X4_gapLow l D a cA cT hI g t v2 ht r14 hcal) (tT_22 ht) (C := RX4) (F := TX4) (N := 5) rfl (g_V q283 q284 q285 q39 q286) yd_X4_gapLow ⟨Nat.le_of_ble_eq_true rfl, Nat.le_of_ble_eq_true rfl⟩ [] rfl (Nat.le_of_ble_eq_true rfl) hl.1 ⟨Nat.le_refl _, Nat.le_refl _⟩ dX4_gaps_14 (fun H locs hP hS => ?_)
        refine lv_aload_n hx hb dX4_gaps_17 rfl (lv_at hl 0 rfl) ?_
        refine lv_iload_n hx hb dX4_gaps_18 rfl (lv_at hl 2 rfl) ?_
        obtain ⟨r19, hcal, h⟩ := bnd_s h
        refine x_VI (As := [.int v2]) hx hb hml hown hts hK hP hS (ct_X4_gapHigh l D a cA cT hI g t v2 ht r19 hcal) (tT_22 ht) (C := RX4) (F := TX4) (N := 5) rfl (g_V q287 q288 q289 q39 q290) yd_X4_gapHigh ⟨Nat.le_of_ble_eq_true rfl, Nat.le_of_ble_eq_true rfl⟩ [.int r14] rfl (Nat.le_of_ble_eq_true rfl) hl.1 ⟨Nat.le_refl _, Nat.le_refl _⟩ dX4_gaps_19 (fun H locs hP hS => ?_)
        refine lv_icmp_ge (tgt := 28) hx hb dX4_gaps_22 (by decide) (fun hc => ?_) (fun hc => ?_)
        · have h := ite_t hc h
          refine lv_iinc (v := (v2 + (1 : Int32))) (lv' := [(2, .int (v2 + (1 : Int32))), (0, .ref (a (22 + 15 * t))), (1, .int v1)]) hx hb dX4_gaps_28 hl (k := 2) rfl rfl (by decide) rfl (fun ls hl => ?_)
          refine lv_goto (tgt := 4) hx hb dX4_gaps_31 (by decide) ?_
          exact ih4 v1 (v2 + (1 : Int32)) _ _ _ hP hS (lv_sub hl [1, 2, 0] rfl) h
        · have h := ite_f hc h
          refine lv_iinc (v := (v1 + (1 : Int32))) (lv' := [(1, .int (v1 + (1 : Int32))), (0, .ref (a (22 + 15 * t))), (2, .int v2)]) hx hb dX4_gaps_25 hl (k := 1) rfl rfl (by decide) rfl (fun ls hl => ?_)
          refine lv_iinc (v := (v2 + (1 : Int32))) (lv' := [(2, .int (v2 + (1 : Int32))), (1, .int (v1 + (1 : Int32))), (0, .ref (a (22 + 15 * t)))]) hx hb dX4_gaps_28 hl (k := 2) rfl rfl (by decide) rfl (fun ls hl => ?_)
          refine lv_goto (tgt := 4) hx hb dX4_gaps_31 (by decide) ?_
          exact ih4 (v1 + (1 : Int32)) (v2 + (1 : Int32)) _ _ _ hP hS (lv_sub hl [2, 1, 0] rfl) h
  exact K4 fuelN (0 : Int32) (0 : Int32) _ _ _ hP hS (lv_sub hl [2, 1, 0] rfl) h
set_option maxHeartbeats 4000000 in
set_option maxRecDepth 100000 in
theorem ct_X4_freeKeys (l : Launch) (D : va_G) (a : Nat → Nat) (cA cT : ClassId) (hI : WI a TC) (g : MG) (t : Nat) (ht : t < 6) (r : Int32) (h : m_X4_freeKeys g t = some r) :
    CtI l D a cA cT TC yX4_freeKeys (Cond.code yX4_freeKeys cX4_freeKeys 3 (some .int) :: lw_all) (rmm 3 63) [.ref (a (22 + 15 * t))] g r g := by
  refine CtI.of (by decide +kernel) (Nat.le_of_ble_eq_true rfl) ?_
  intro p e s m args below meth c Q ls hx hb hml hown hts hK hP hS hl hend
  have hl : lv_has ls 3 [(0, .ref (a (22 + 15 * t)))] := hl
  unfold m_X4_freeKeys at h
  refine lv_iconst (v := (0 : Int32)) hx hb dX4_freeKeys_0 (by decide) ?_
  refine lv_istore_n (lv' := [(1, .int (0 : Int32)), (0, .ref (a (22 + 15 * t)))]) hx hb dX4_freeKeys_1 rfl hl (by decide) rfl (fun ls hl => ?_)
  refine lv_iconst (v := (0 : Int32)) hx hb dX4_freeKeys_2 (by decide) ?_
  refine lv_istore_n (lv' := [(2, .int (0 : Int32)), (1, .int (0 : Int32)), (0, .ref (a (22 + 15 * t)))]) hx hb dX4_freeKeys_3 rfl hl (by decide) rfl (fun ls hl => ?_)
  have K4 : ∀ (n4 : Nat) (v1 : Int32) (v2 : Int32) (H : Heap) (locs : List Loc) (ls : Array Slot), WP D a cA cT TC g H → va_S (AA a TC) s.heap H locs → lv_has ls 3 [(0, .ref (a (22 + 15 * t))), (1, .int v1), (2, .int v2)] → lpo (b_X4_freeKeys_L4 g t) n4 (v1, v2) = some r → W p l e (rmm 3 63) s m args below meth c H locs 0 0 Q (F0 m 4 ls []) := by
    intro n4
    induction n4 with
    | zero => intro v1 v2 H locs ls hP hS hl h; exact (lpo_0 h).elim
    | succ n4 ih4 =>
      intro v1 v2 H locs ls hP hS hl h
      have h : m_X4_freeKeys_L4 (lpo (b_X4_freeKeys_L4 g t) n4) g t v1 v2 = some r := h
      unfold m_X4_freeKeys_L4 at h
      refine lv_iload_n hx hb dX4_freeKeys_4 rfl (lv_at hl 2 rfl) ?_
      refine lv_aload_n hx hb dX4_freeKeys_5 rfl (lv_at hl 0 rfl) ?_
      refine x_get hx hb hts inX4 hown hK hP (tT_22 ht) (C := RX4) (F := TX4) (N := 5) rfl 3 (by decide) q91 rfl rfl dX4_freeKeys_6 ?_
      refine lv_icmp_gt (tgt := 32) hx hb dX4_freeKeys_9 (by decide) (fun hc => ?_) (fun hc => ?_)
      · have h := ite_t hc h
        refine lv_iload_n hx hb dX4_freeKeys_32 rfl (lv_at hl 1 rfl) ?_
        obtain rfl := Option.some.inj h
        exact hend _ _ _ _ dX4_freeKeys_33 rfl hP hS
      · have h := ite_f hc h
        refine lv_iload_n hx hb dX4_freeKeys_12 rfl (lv_at hl 1 rfl) ?_
        refine lv_aload_n hx hb dX4_freeKeys_13 rfl (lv_at hl 0 rfl) ?_
        refine lv_iload_n hx hb dX4_freeKeys_14 rfl (lv_at hl 2 rfl) ?_
        obtain ⟨r15, hcal, h⟩ := bnd_s h
        refine x_VI (As := [.int v2]) hx hb hml hown hts hK hP hS (ct_X4_gapHigh l D a cA cT hI g t v2 ht r15 hcal) (tT_22 ht) (C := RX4) (F := TX4) (N := 5) rfl (g_V q287 q288 q289 q39 q290) yd_X4_gapHigh ⟨Nat.le_of_ble_eq_true rfl, Nat.le_of_ble_eq_true rfl⟩ [.int v1] rfl (Nat.le_of_ble_eq_true rfl) hl.1 ⟨Nat.le_refl _, Nat.le_refl _⟩ dX4_freeKeys_15 (fun H locs hP hS => ?_)
        refine lv_aload_n hx hb dX4_freeKeys_18 rfl (lv_at hl 0 rfl) ?_
        refine lv_iload_n hx hb dX4_freeKeys_19 rfl (lv_at hl 2 rfl) ?_
        obtain ⟨r20, hcal, h⟩ := bnd_s h
        refine x_VI (As := [.int v2]) hx hb hml hown hts hK hP hS (ct_X4_gapLow l D a cA cT hI g t v2 ht r20 hcal) (tT_22 ht) (C := RX4) (F := TX4) (N := 5) rfl (g_V q283 q284 q285 q39 q286) yd_X4_gapLow ⟨Nat.le_of_ble_eq_true rfl, Nat.le_of_ble_eq_true rfl⟩ [.int r15, .int v1] rfl (Nat.le_of_ble_eq_true rfl) hl.1 ⟨Nat.le_refl _, Nat.le_refl _⟩ dX4_freeKeys_20 (fun H locs hP hS => ?_)
        refine lv_isub hx hb dX4_freeKeys_23 ?_
        refine lv_iadd hx hb dX4_freeKeys_24 ?_
        refine lv_istore_n (lv' := [(1, .int (v1 + (r15 - r20))), (0, .ref (a (22 + 15 * t))), (2, .int v2)]) hx hb dX4_freeKeys_25 rfl hl (by decide) rfl (fun ls hl => ?_)
        refine lv_iinc (v := (v2 + (1 : Int32))) (lv' := [(2, .int (v2 + (1 : Int32))), (1, .int (v1 + (r15 - r20))), (0, .ref (a (22 + 15 * t)))]) hx hb dX4_freeKeys_26 hl (k := 2) rfl rfl (by decide) rfl (fun ls hl => ?_)
        refine lv_goto (tgt := 4) hx hb dX4_freeKeys_29 (by decide) ?_
        exact ih4 (v1 + (r15 - r20)) (v2 + (1 : Int32)) _ _ _ hP hS (lv_sub hl [2, 1, 0] rfl) h
  exact K4 fuelN (0 : Int32) (0 : Int32) _ _ _ hP hS (lv_sub hl [2, 1, 0] rfl) h
set_option maxHeartbeats 4000000 in
set_option maxRecDepth 100000 in
theorem ct_X5_home (l : Launch) (D : va_G) (a : Nat → Nat) (cA cT : ClassId) (hI : WI a TC) (g : MG) (t : Nat) (x0 : Int32) (ht : t < 6) (r : Int32) (h : m_X5_home g t x0 = some r) :
    CtI l D a cA cT TC yX5_home (Cond.code yX5_home cX5_home 3 (some .int) :: lw_all) (rmm 3 64) [.ref (a (20 + 15 * t)), .int x0] g r g := by
  refine CtI.of (by decide +kernel) (Nat.le_of_ble_eq_true rfl) ?_
  intro p e s m args below meth c Q ls hx hb hml hown hts hK hP hS hl hend
  have hl : lv_has ls 3 [(0, .ref (a (20 + 15 * t))), (1, .int x0)] := hl
  unfold m_X5_home at h
  refine lv_aload_n hx hb dX5_home_0 rfl (lv_at hl 0 rfl) ?_
  refine x_getr hx hb hts inX5 hown hK hP (tT_20 ht) (C := RX5) (F := TX5) (N := 5) rfl 1 (by decide) q102 rfl (22 + 15 * t) rfl dX5_home_1 ?_
  refine lv_iload_n hx hb dX5_home_4 rfl (lv_at hl 1 rfl) ?_
  obtain ⟨r5, hcal, h⟩ := bnd_s h
  refine x_VI (As := [.int x0]) hx hb hml hown hts hK hP hS (ct_X4_having l D a cA cT hI g t x0 ht r5 hcal) (tT_22 ht) (C := RX4) (F := TX4) (N := 5) rfl (g_V q261 q262 q263 q39 q264) yd_X4_having ⟨Nat.le_of_ble_eq_true rfl, Nat.le_of_ble_eq_true rfl⟩ [] rfl (Nat.le_of_ble_eq_true rfl) hl.1 ⟨Nat.le_refl _, Nat.le_refl _⟩ dX5_home_5 (fun H locs hP hS => ?_)
  refine lv_istore_n (lv' := [(2, .int r5), (0, .ref (a (20 + 15 * t))), (1, .int x0)]) hx hb dX5_home_8 rfl hl (by decide) rfl (fun ls hl => ?_)
  refine lv_iload_n hx hb dX5_home_9 rfl (lv_at hl 0 rfl) ?_
  refine lv_sipush (v := (-1005 : Int32)) hx hb dX5_home_10 (by decide) ?_
  refine lv_icmp_ne (tgt := 26) hx hb dX5_home_13 (by decide) (fun hc => ?_) (fun hc => ?_)
  · have h := ite_f hc h
    refine lv_iload_n hx hb dX5_home_26 rfl (lv_at hl 0 rfl) ?_
    obtain rfl := Option.some.inj h
    exact hend _ _ _ _ dX5_home_27 rfl hP hS
  · have h := ite_t hc h
    refine lv_aload_n hx hb dX5_home_16 rfl (lv_at hl 1 rfl) ?_
    refine x_get hx hb hts inX5 hown hK hP (tT_20 ht) (C := RX5) (F := TX5) (N := 5) rfl 2 (by decide) q104 rfl rfl dX5_home_17 ?_
    refine lv_if_eq (tgt := 26) hx hb dX5_home_20 (by decide) (fun hc => ?_) (fun hc => ?_)
    · have h := ite_t hc h
      refine lv_iload_n hx hb dX5_home_26 rfl (lv_at hl 0 rfl) ?_
      obtain rfl := Option.some.inj h
      exact hend _ _ _ _ dX5_home_27 rfl hP hS
    · have h := ite_f hc h
      refine lv_bipush (v := (60 : Int32)) hx hb dX5_home_23 (by decide) ?_
      obtain rfl := Option.some.inj h
      exact hend _ _ _ _ dX5_home_25 rfl hP hS
set_option maxHeartbeats 4000000 in
set_option maxRecDepth 100000 in
theorem ct_X5_isStray (l : Launch) (D : va_G) (a : Nat → Nat) (cA cT : ClassId) (hI : WI a TC) (g : MG) (t : Nat) (x0 : Int32) (ht : t < 6) (r : Int32) (h : m_X5_isStray g t x0 = some r) :
    CtI l D a cA cT TC yX5_isStray (Cond.code yX5_isStray cX5_isStray 2 (some .boolean) :: lw_all) (rmm 4 86) [.ref (a (20 + 15 * t)), .int x0] g r g := by
  refine CtI.of (by decide +kernel) (Nat.le_of_ble_eq_true rfl) ?_
  intro p e s m args below meth c Q ls hx hb hml hown hts hK hP hS hl hend
  have hl : lv_has ls 2 [(0, .ref (a (20 + 15 * t))), (1, .int x0)] := hl
  unfold m_X5_isStray at h
  refine lv_aload_n hx hb dX5_isStray_0 rfl (lv_at hl 0 rfl) ?_
  refine x_getr hx hb hts inX5 hown hK hP (tT_20 ht) (C := RX5) (F := TX5) (N := 5) rfl 0 (by decide) q100 rfl (21 + 15 * t) rfl dX5_isStray_1 ?_
  refine lv_iload_n hx hb dX5_isStray_4 rfl (lv_at hl 1 rfl) ?_
  obtain ⟨r5, hcal, h⟩ := bnd_s h
  refine x_VI (As := [.int x0]) hx hb hml hown hts hK hP hS (ct_X3_isInTable l D a cA cT hI g t x0 ht r5 hcal) (tT_21 ht) (C := RX3) (F := TX3) (N := 4) rfl (g_V q255 q221 q222 q37 q223) yd_X3_isInTable ⟨Nat.le_of_ble_eq_true rfl, Nat.le_of_ble_eq_true rfl⟩ [] rfl (Nat.le_of_ble_eq_true rfl) hl.1 ⟨Nat.le_refl _, Nat.le_refl _⟩ dX5_isStray_5 (fun H locs hP hS => ?_)
  refine lv_if_eq (tgt := 38) hx hb dX5_isStray_8 (by decide) (fun hc => ?_) (fun hc => ?_)
  · have h := ite_t hc h
    refine lv_iconst (v := (0 : Int32)) hx hb dX5_isStray_38 (by decide) ?_
    obtain rfl := Option.some.inj h
    exact hend _ _ _ _ dX5_isStray_39 rfl hP hS
  · have h := ite_f hc h
    refine lv_aload_n hx hb dX5_isStray_11 rfl (lv_at hl 0 rfl) ?_
    refine lv_aload_n hx hb dX5_isStray_12 rfl (lv_at hl 0 rfl) ?_
    refine x_getr hx hb hts inX5 hown hK hP (tT_20 ht) (C := RX5) (F := TX5) (N := 5) rfl 0 (by decide) q100 rfl (21 + 15 * t) rfl dX5_isStray_13 ?_
    refine lv_iload_n hx hb dX5_isStray_16 rfl (lv_at hl 1 rfl) ?_
    obtain ⟨r17, hcal, h⟩ := bnd_s h
    refine x_VI (As := [.int x0]) hx hb hml hown hts hK hP hS (ct_X3_keyOf l D a cA cT hI g t x0 ht r17 hcal) (tT_21 ht) (C := RX3) (F := TX3) (N := 4) rfl (g_V q256 q244 q245 q37 q246) yd_X3_keyOf ⟨Nat.le_of_ble_eq_true rfl, Nat.le_of_ble_eq_true rfl⟩ [.ref (a (20 + 15 * t))] rfl (Nat.le_of_ble_eq_true rfl) hl.1 ⟨Nat.le_refl _, Nat.le_refl _⟩ dX5_isStray_17 (fun H locs hP hS => ?_)
    obtain ⟨r20, hcal, h⟩ := bnd_s h
    refine x_VI (As := [.int r17]) hx hb hml hown hts hK hP hS (ct_X5_home l D a cA cT hI g t r17 ht r20 hcal) (tT_20 ht) (C := RX5) (F := TX5) (N := 5) rfl (g_V q257 q258 q259 q36 q260) yd_X5_home ⟨Nat.le_of_ble_eq_true rfl, Nat.le_of_ble_eq_true rfl⟩ [] rfl (Nat.le_of_ble_eq_true rfl) hl.1 ⟨Nat.le_refl _, Nat.le_refl _⟩ dX5_isStray_20 (fun H locs hP hS => ?_)
    refine lv_aload_n hx hb dX5_isStray_23 rfl (lv_at hl 0 rfl) ?_
    refine x_getr hx hb hts inX5 hown hK hP (tT_20 ht) (C := RX5) (F := TX5) (N := 5) rfl 0 (by decide) q100 rfl (21 + 15 * t) rfl dX5_isStray_24 ?_
    refine lv_iload_n hx hb dX5_isStray_27 rfl (lv_at hl 1 rfl) ?_
    obtain ⟨r28, hcal, h⟩ := bnd_s h
    refine x_VI (As := [.int x0]) hx hb hml hown hts hK hP hS (ct_X3_placeOf l D a cA cT hI g t x0 ht r28 hcal) (tT_21 ht) (C := RX3) (F := TX3) (N := 4) rfl (g_V q278 q225 q226 q37 q227) yd_X3_placeOf ⟨Nat.le_of_ble_eq_true rfl, Nat.le_of_ble_eq_true rfl⟩ [.int r20] rfl (Nat.le_of_ble_eq_true rfl) hl.1 ⟨Nat.le_refl _, Nat.le_refl _⟩ dX5_isStray_28 (fun H locs hP hS => ?_)
    refine lv_icmp_eq (tgt := 38) hx hb dX5_isStray_31 (by decide) (fun hc => ?_) (fun hc => ?_)
    · have h := ite_t hc h
      refine lv_iconst (v := (0 : Int32)) hx hb dX5_isStray_38 (by decide) ?_
      obtain rfl := Option.some.inj h
      exact hend _ _ _ _ dX5_isStray_39 rfl hP hS
    · have h := ite_f hc h
      refine lv_iconst (v := (1 : Int32)) hx hb dX5_isStray_34 (by decide) ?_
      refine lv_goto (tgt := 39) hx hb dX5_isStray_35 (by decide) ?_
      obtain rfl := Option.some.inj h
      exact hend _ _ _ _ dX5_isStray_39 rfl hP hS
set_option maxHeartbeats 4000000 in
set_option maxRecDepth 100000 in
theorem ct_X5_strays (l : Launch) (D : va_G) (a : Nat → Nat) (cA cT : ClassId) (hI : WI a TC) (g : MG) (t : Nat) (ht : t < 6) (r : Int32) (h : m_X5_strays g t = some r) :
    CtI l D a cA cT TC yX5_strays (Cond.code yX5_strays cX5_strays 3 (some .int) :: lw_all) (rmm 5 107) [.ref (a (20 + 15 * t))] g r g := by
  refine CtI.of (by decide +kernel) (Nat.le_of_ble_eq_true rfl) ?_
  intro p e s m args below meth c Q ls hx hb hml hown hts hK hP hS hl hend
  have hl : lv_has ls 3 [(0, .ref (a (20 + 15 * t)))] := hl
  unfold m_X5_strays at h
  refine lv_iconst (v := (0 : Int32)) hx hb dX5_strays_0 (by decide) ?_
  refine lv_istore_n (lv' := [(1, .int (0 : Int32)), (0, .ref (a (20 + 15 * t)))]) hx hb dX5_strays_1 rfl hl (by decide) rfl (fun ls hl => ?_)
  refine lv_iconst (v := (0 : Int32)) hx hb dX5_strays_2 (by decide) ?_
  refine lv_istore_n (lv' := [(2, .int (0 : Int32)), (1, .int (0 : Int32)), (0, .ref (a (20 + 15 * t)))]) hx hb dX5_strays_3 rfl hl (by decide) rfl (fun ls hl => ?_)
  have K4 : ∀ (n4 : Nat) (v1 : Int32) (v2 : Int32) (H : Heap) (locs : List Loc) (ls : Array Slot), WP D a cA cT TC g H → va_S (AA a TC) s.heap H locs → lv_has ls 3 [(0, .ref (a (20 + 15 * t))), (1, .int v1), (2, .int v2)] → lpo (b_X5_strays_L4 g t) n4 (v1, v2) = some r → W p l e (rmm 5 107) s m args below meth c H locs 0 0 Q (F0 m 4 ls []) := by
    intro n4
    induction n4 with
    | zero => intro v1 v2 H locs ls hP hS hl h; exact (lpo_0 h).elim
    | succ n4 ih4 =>
      intro v1 v2 H locs ls hP hS hl h
      have h : m_X5_strays_L4 (lpo (b_X5_strays_L4 g t) n4) g t v1 v2 = some r := h
      unfold m_X5_strays_L4 at h
      refine lv_iload_n hx hb dX5_strays_4 rfl (lv_at hl 2 rfl) ?_
      refine lv_aload_n hx hb dX5_strays_5 rfl (lv_at hl 0 rfl) ?_
      refine x_getr hx hb hts inX5 hown hK hP (tT_20 ht) (C := RX5) (F := TX5) (N := 5) rfl 0 (by decide) q100 rfl (21 + 15 * t) rfl dX5_strays_6 ?_
      refine x_get hx hb hts inX3 hown hK hP (tT_21 ht) (C := RX3) (F := TX3) (N := 4) rfl 3 (by decide) q76 rfl rfl dX5_strays_9 ?_
      refine lv_icmp_ge (tgt := 32) hx hb dX5_strays_12 (by decide) (fun hc => ?_) (fun hc => ?_)
      · have h := ite_t hc h
        refine lv_iload_n hx hb dX5_strays_32 rfl (lv_at hl 1 rfl) ?_
        obtain rfl := Option.some.inj h
        exact hend _ _ _ _ dX5_strays_33 rfl hP hS
      · have h := ite_f hc h
        refine lv_aload_n hx hb dX5_strays_15 rfl (lv_at hl 0 rfl) ?_
        refine lv_iload_n hx hb dX5_strays_16 rfl (lv_at hl 2 rfl) ?_
        obtain ⟨r17, hcal, h⟩ := bnd_s h
        refine x_VI (As := [.int v2]) hx hb hml hown hts hK hP hS (ct_X5_isStray l D a cA cT hI g t v2 ht r17 hcal) (tT_20 ht) (C := RX5) (F := TX5) (N := 5) rfl (g_V q251 q252 q253 q36 q254) yd_X5_isStray ⟨Nat.le_of_ble_eq_true rfl, Nat.le_of_ble_eq_true rfl⟩ [] rfl (Nat.le_of_ble_eq_true rfl) hl.1 ⟨Nat.le_refl _, Nat.le_refl _⟩ dX5_strays_17 (fun H locs hP hS => ?_)
        refine lv_if_eq (tgt := 26) hx hb dX5_strays_20 (by decide) (fun hc => ?_) (fun hc => ?_)
        · have h := ite_t hc h
          refine lv_iinc (v := (v2 + (1 : Int32))) (lv' := [(2, .int (v2 + (1 : Int32))), (0, .ref (a (20 + 15 * t))), (1, .int v1)]) hx hb dX5_strays_26 hl (k := 2) rfl rfl (by decide) rfl (fun ls hl => ?_)
          refine lv_goto (tgt := 4) hx hb dX5_strays_29 (by decide) ?_
          exact ih4 v1 (v2 + (1 : Int32)) _ _ _ hP hS (lv_sub hl [1, 2, 0] rfl) h
        · have h := ite_f hc h
          refine lv_iinc (v := (v1 + (1 : Int32))) (lv' := [(1, .int (v1 + (1 : Int32))), (0, .ref (a (20 + 15 * t))), (2, .int v2)]) hx hb dX5_strays_23 hl (k := 1) rfl rfl (by decide) rfl (fun ls hl => ?_)
          refine lv_iinc (v := (v2 + (1 : Int32))) (lv' := [(2, .int (v2 + (1 : Int32))), (1, .int (v1 + (1 : Int32))), (0, .ref (a (20 + 15 * t)))]) hx hb dX5_strays_26 hl (k := 2) rfl rfl (by decide) rfl (fun ls hl => ?_)
          refine lv_goto (tgt := 4) hx hb dX5_strays_29 (by decide) ?_
          exact ih4 (v1 + (1 : Int32)) (v2 + (1 : Int32)) _ _ _ hP hS (lv_sub hl [2, 1, 0] rfl) h
  exact K4 fuelN (0 : Int32) (0 : Int32) _ _ _ hP hS (lv_sub hl [2, 1, 0] rfl) h
set_option maxHeartbeats 4000000 in
set_option maxRecDepth 100000 in
theorem ct_X5_straysAt (l : Launch) (D : va_G) (a : Nat → Nat) (cA cT : ClassId) (hI : WI a TC) (g : MG) (t : Nat) (x0 : Int32) (ht : t < 6) (r : Int32) (h : m_X5_straysAt g t x0 = some r) :
    CtI l D a cA cT TC yX5_straysAt (Cond.code yX5_straysAt cX5_straysAt 4 (some .int) :: lw_all) (rmm 5 107) [.ref (a (20 + 15 * t)), .int x0] g r g := by
  refine CtI.of (by decide +kernel) (Nat.le_of_ble_eq_true rfl) ?_
  intro p e s m args below meth c Q ls hx hb hml hown hts hK hP hS hl hend
  have hl : lv_has ls 4 [(0, .ref (a (20 + 15 * t))), (1, .int x0)] := hl
  unfold m_X5_straysAt at h
  refine lv_iconst (v := (0 : Int32)) hx hb dX5_straysAt_0 (by decide) ?_
  refine lv_istore_n (lv' := [(2, .int (0 : Int32)), (0, .ref (a (20 + 15 * t))), (1, .int x0)]) hx hb dX5_straysAt_1 rfl hl (by decide) rfl (fun ls hl => ?_)
  refine lv_iconst (v := (0 : Int32)) hx hb dX5_straysAt_2 (by decide) ?_
  refine lv_istore_n (lv' := [(3, .int (0 : Int32)), (2, .int (0 : Int32)), (0, .ref (a (20 + 15 * t))), (1, .int x0)]) hx hb dX5_straysAt_3 rfl hl (by decide) rfl (fun ls hl => ?_)
  have K4 : ∀ (n4 : Nat) (v2 : Int32) (v3 : Int32) (H : Heap) (locs : List Loc) (ls : Array Slot), WP D a cA cT TC g H → va_S (AA a TC) s.heap H locs → lv_has ls 4 [(0, .ref (a (20 + 15 * t))), (1, .int x0), (2, .int v2), (3, .int v3)] → lpo (b_X5_straysAt_L4 g t x0) n4 (v2, v3) = some r → W p l e (rmm 5 107) s m args below meth c H locs 0 0 Q (F0 m 4 ls []) := by
    intro n4
    induction n4 with
    | zero => intro v2 v3 H locs ls hP hS hl h; exact (lpo_0 h).elim
    | succ n4 ih4 =>
      intro v2 v3 H locs ls hP hS hl h
      have h : m_X5_straysAt_L4 (lpo (b_X5_straysAt_L4 g t x0) n4) g t x0 v2 v3 = some r := h
      unfold m_X5_straysAt_L4 at h
      refine lv_iload_n hx hb dX5_straysAt_4 rfl (lv_at hl 3 rfl) ?_
      refine lv_aload_n hx hb dX5_straysAt_5 rfl (lv_at hl 0 rfl) ?_
      refine x_getr hx hb hts inX5 hown hK hP (tT_20 ht) (C := RX5) (F := TX5) (N := 5) rfl 0 (by decide) q100 rfl (21 + 15 * t) rfl dX5_straysAt_6 ?_
      refine x_get hx hb hts inX3 hown hK hP (tT_21 ht) (C := RX3) (F := TX3) (N := 4) rfl 3 (by decide) q76 rfl rfl dX5_straysAt_9 ?_
      refine lv_icmp_ge (tgt := 44) hx hb dX5_straysAt_12 (by decide) (fun hc => ?_) (fun hc => ?_)
      · have h := ite_t hc h
        refine lv_iload_n hx hb dX5_straysAt_44 rfl (lv_at hl 2 rfl) ?_
        obtain rfl := Option.some.inj h
        exact hend _ _ _ _ dX5_straysAt_45 rfl hP hS
      · have h := ite_f hc h
        refine lv_aload_n hx hb dX5_straysAt_15 rfl (lv_at hl 0 rfl) ?_
        refine x_getr hx hb hts inX5 hown hK hP (tT_20 ht) (C := RX5) (F := TX5) (N := 5) rfl 0 (by decide) q100 rfl (21 + 15 * t) rfl dX5_straysAt_16 ?_
        refine lv_iload_n hx hb dX5_straysAt_19 rfl (lv_at hl 3 rfl) ?_
        obtain ⟨r20, hcal, h⟩ := bnd_s h
        refine x_VI (As := [.int v3]) hx hb hml hown hts hK hP hS (ct_X3_placeOf l D a cA cT hI g t v3 ht r20 hcal) (tT_21 ht) (C := RX3) (F := TX3) (N := 4) rfl (g_V q278 q225 q226 q37 q227) yd_X3_placeOf ⟨Nat.le_of_ble_eq_true rfl, Nat.le_of_ble_eq_true rfl⟩ [] rfl (Nat.le_of_ble_eq_true rfl) hl.1 ⟨Nat.le_refl _, Nat.le_refl _⟩ dX5_straysAt_20 (fun H locs hP hS => ?_)
        refine lv_iload_n hx hb dX5_straysAt_23 rfl (lv_at hl 1 rfl) ?_
        refine lv_icmp_ne (tgt := 38) hx hb dX5_straysAt_24 (by decide) (fun hc => ?_) (fun hc => ?_)
        · have h := ite_f hc h
          refine lv_iinc (v := (v3 + (1 : Int32))) (lv' := [(3, .int (v3 + (1 : Int32))), (0, .ref (a (20 + 15 * t))), (1, .int x0), (2, .int v2)]) hx hb dX5_straysAt_38 hl (k := 3) rfl rfl (by decide) rfl (fun ls hl => ?_)
          refine lv_goto (tgt := 4) hx hb dX5_straysAt_41 (by decide) ?_
          exact ih4 v2 (v3 + (1 : Int32)) _ _ _ hP hS (lv_sub hl [1, 2, 3, 0] rfl) h
        · have h := ite_t hc h
          refine lv_aload_n hx hb dX5_straysAt_27 rfl (lv_at hl 0 rfl) ?_
          refine lv_iload_n hx hb dX5_straysAt_28 rfl (lv_at hl 3 rfl) ?_
          obtain ⟨r29, hcal, h⟩ := bnd_s h
          refine x_VI (As := [.int v3]) hx hb hml hown hts hK hP hS (ct_X5_isStray l D a cA cT hI g t v3 ht r29 hcal) (tT_20 ht) (C := RX5) (F := TX5) (N := 5) rfl (g_V q251 q252 q253 q36 q254) yd_X5_isStray ⟨Nat.le_of_ble_eq_true rfl, Nat.le_of_ble_eq_true rfl⟩ [] rfl (Nat.le_of_ble_eq_true rfl) hl.1 ⟨Nat.le_refl _, Nat.le_refl _⟩ dX5_straysAt_29 (fun H locs hP hS => ?_)
          refine lv_if_eq (tgt := 38) hx hb dX5_straysAt_32 (by decide) (fun hc => ?_) (fun hc => ?_)
          · have h := ite_t hc h
            refine lv_iinc (v := (v3 + (1 : Int32))) (lv' := [(3, .int (v3 + (1 : Int32))), (0, .ref (a (20 + 15 * t))), (1, .int x0), (2, .int v2)]) hx hb dX5_straysAt_38 hl (k := 3) rfl rfl (by decide) rfl (fun ls hl => ?_)
            refine lv_goto (tgt := 4) hx hb dX5_straysAt_41 (by decide) ?_
            exact ih4 v2 (v3 + (1 : Int32)) _ _ _ hP hS (lv_sub hl [1, 2, 3, 0] rfl) h
          · have h := ite_f hc h
            refine lv_iinc (v := (v2 + (1 : Int32))) (lv' := [(2, .int (v2 + (1 : Int32))), (0, .ref (a (20 + 15 * t))), (1, .int x0), (3, .int v3)]) hx hb dX5_straysAt_35 hl (k := 2) rfl rfl (by decide) rfl (fun ls hl => ?_)
            refine lv_iinc (v := (v3 + (1 : Int32))) (lv' := [(3, .int (v3 + (1 : Int32))), (2, .int (v2 + (1 : Int32))), (0, .ref (a (20 + 15 * t))), (1, .int x0)]) hx hb dX5_straysAt_38 hl (k := 3) rfl rfl (by decide) rfl (fun ls hl => ?_)
            refine lv_goto (tgt := 4) hx hb dX5_straysAt_41 (by decide) ?_
            exact ih4 (v2 + (1 : Int32)) (v3 + (1 : Int32)) _ _ _ hP hS (lv_sub hl [2, 3, 1, 0] rfl) h
  exact K4 fuelN (0 : Int32) (0 : Int32) _ _ _ hP hS (lv_sub hl [2, 3, 1, 0] rfl) h
set_option maxHeartbeats 4000000 in
set_option maxRecDepth 100000 in
theorem ct_X5_strayIsHomeless (l : Launch) (D : va_G) (a : Nat → Nat) (cA cT : ClassId) (hI : WI a TC) (g : MG) (t : Nat) (ht : t < 6) (r : Int32) (h : m_X5_strayIsHomeless g t = some r) :
    CtI l D a cA cT TC yX5_strayIsHomeless (Cond.code yX5_strayIsHomeless cX5_strayIsHomeless 2 (some .boolean) :: lw_all) (rmm 5 107) [.ref (a (20 + 15 * t))] g r g := by
  refine CtI.of (by decide +kernel) (Nat.le_of_ble_eq_true rfl) ?_
  intro p e s m args below meth c Q ls hx hb hml hown hts hK hP hS hl hend
  have hl : lv_has ls 2 [(0, .ref (a (20 + 15 * t)))] := hl
  unfold m_X5_strayIsHomeless at h
  refine lv_iconst (v := (0 : Int32)) hx hb dX5_strayIsHomeless_0 (by decide) ?_
  refine lv_istore_n (lv' := [(1, .int (0 : Int32)), (0, .ref (a (20 + 15 * t)))]) hx hb dX5_strayIsHomeless_1 rfl hl (by decide) rfl (fun ls hl => ?_)
  have K2 : ∀ (n2 : Nat) (v1 : Int32) (H : Heap) (locs : List Loc) (ls : Array Slot), WP D a cA cT TC g H → va_S (AA a TC) s.heap H locs → lv_has ls 2 [(0, .ref (a (20 + 15 * t))), (1, .int v1)] → lpo (b_X5_strayIsHomeless_L2 g t) n2 v1 = some r → W p l e (rmm 5 107) s m args below meth c H locs 0 0 Q (F0 m 2 ls []) := by
    intro n2
    induction n2 with
    | zero => intro v1 H locs ls hP hS hl h; exact (lpo_0 h).elim
    | succ n2 ih2 =>
      intro v1 H locs ls hP hS hl h
      have h : m_X5_strayIsHomeless_L2 (lpo (b_X5_strayIsHomeless_L2 g t) n2) g t v1 = some r := h
      unfold m_X5_strayIsHomeless_L2 at h
      refine lv_iload_n hx hb dX5_strayIsHomeless_2 rfl (lv_at hl 1 rfl) ?_
      refine lv_aload_n hx hb dX5_strayIsHomeless_3 rfl (lv_at hl 0 rfl) ?_
      refine x_getr hx hb hts inX5 hown hK hP (tT_20 ht) (C := RX5) (F := TX5) (N := 5) rfl 0 (by decide) q100 rfl (21 + 15 * t) rfl dX5_strayIsHomeless_4 ?_
      refine x_get hx hb hts inX3 hown hK hP (tT_21 ht) (C := RX3) (F := TX3) (N := 4) rfl 3 (by decide) q76 rfl rfl dX5_strayIsHomeless_7 ?_
      refine lv_icmp_ge (tgt := 47) hx hb dX5_strayIsHomeless_10 (by decide) (fun hc => ?_) (fun hc => ?_)
      · have h := ite_t hc h
        refine lv_iconst (v := (0 : Int32)) hx hb dX5_strayIsHomeless_47 (by decide) ?_
        obtain rfl := Option.some.inj h
        exact hend _ _ _ _ dX5_strayIsHomeless_48 rfl hP hS
      · have h := ite_f hc h
        refine lv_aload_n hx hb dX5_strayIsHomeless_13 rfl (lv_at hl 0 rfl) ?_
        refine lv_iload_n hx hb dX5_strayIsHomeless_14 rfl (lv_at hl 1 rfl) ?_
        obtain ⟨r15, hcal, h⟩ := bnd_s h
        refine x_VI (As := [.int v1]) hx hb hml hown hts hK hP hS (ct_X5_isStray l D a cA cT hI g t v1 ht r15 hcal) (tT_20 ht) (C := RX5) (F := TX5) (N := 5) rfl (g_V q251 q252 q253 q36 q254) yd_X5_isStray ⟨Nat.le_of_ble_eq_true rfl, Nat.le_of_ble_eq_true rfl⟩ [] rfl (Nat.le_of_ble_eq_true rfl) hl.1 ⟨Nat.le_refl _, Nat.le_refl _⟩ dX5_strayIsHomeless_15 (fun H locs hP hS => ?_)
        refine lv_if_eq (tgt := 41) hx hb dX5_strayIsHomeless_18 (by decide) (fun hc => ?_) (fun hc => ?_)
        · have h := ite_t hc h
          refine lv_iinc (v := (v1 + (1 : Int32))) (lv' := [(1, .int (v1 + (1 : Int32))), (0, .ref (a (20 + 15 * t)))]) hx hb dX5_strayIsHomeless_41 hl (k := 1) rfl rfl (by decide) rfl (fun ls hl => ?_)
          refine lv_goto (tgt := 2) hx hb dX5_strayIsHomeless_44 (by decide) ?_
          exact ih2 (v1 + (1 : Int32)) _ _ _ hP hS (lv_sub hl [1, 0] rfl) h
        · have h := ite_f hc h
          refine lv_aload_n hx hb dX5_strayIsHomeless_21 rfl (lv_at hl 0 rfl) ?_
          refine lv_aload_n hx hb dX5_strayIsHomeless_22 rfl (lv_at hl 0 rfl) ?_
          refine x_getr hx hb hts inX5 hown hK hP (tT_20 ht) (C := RX5) (F := TX5) (N := 5) rfl 0 (by decide) q100 rfl (21 + 15 * t) rfl dX5_strayIsHomeless_23 ?_
          refine lv_iload_n hx hb dX5_strayIsHomeless_26 rfl (lv_at hl 1 rfl) ?_
          obtain ⟨r27, hcal, h⟩ := bnd_s h
          refine x_VI (As := [.int v1]) hx hb hml hown hts hK hP hS (ct_X3_keyOf l D a cA cT hI g t v1 ht r27 hcal) (tT_21 ht) (C := RX3) (F := TX3) (N := 4) rfl (g_V q256 q244 q245 q37 q246) yd_X3_keyOf ⟨Nat.le_of_ble_eq_true rfl, Nat.le_of_ble_eq_true rfl⟩ [.ref (a (20 + 15 * t))] rfl (Nat.le_of_ble_eq_true rfl) hl.1 ⟨Nat.le_refl _, Nat.le_refl _⟩ dX5_strayIsHomeless_27 (fun H locs hP hS => ?_)
          obtain ⟨r30, hcal, h⟩ := bnd_s h
          refine x_VI (As := [.int r27]) hx hb hml hown hts hK hP hS (ct_X5_home l D a cA cT hI g t r27 ht r30 hcal) (tT_20 ht) (C := RX5) (F := TX5) (N := 5) rfl (g_V q257 q258 q259 q36 q260) yd_X5_home ⟨Nat.le_of_ble_eq_true rfl, Nat.le_of_ble_eq_true rfl⟩ [] rfl (Nat.le_of_ble_eq_true rfl) hl.1 ⟨Nat.le_refl _, Nat.le_refl _⟩ dX5_strayIsHomeless_30 (fun H locs hP hS => ?_)
          refine lv_sipush (v := (-1005 : Int32)) hx hb dX5_strayIsHomeless_33 (by decide) ?_
          refine lv_icmp_ne (tgt := 41) hx hb dX5_strayIsHomeless_36 (by decide) (fun hc => ?_) (fun hc => ?_)
          · have h := ite_f hc h
            refine lv_iinc (v := (v1 + (1 : Int32))) (lv' := [(1, .int (v1 + (1 : Int32))), (0, .ref (a (20 + 15 * t)))]) hx hb dX5_strayIsHomeless_41 hl (k := 1) rfl rfl (by decide) rfl (fun ls hl => ?_)
            refine lv_goto (tgt := 2) hx hb dX5_strayIsHomeless_44 (by decide) ?_
            exact ih2 (v1 + (1 : Int32)) _ _ _ hP hS (lv_sub hl [1, 0] rfl) h
          · have h := ite_t hc h
            refine lv_iconst (v := (1 : Int32)) hx hb dX5_strayIsHomeless_39 (by decide) ?_
            obtain rfl := Option.some.inj h
            exact hend _ _ _ _ dX5_strayIsHomeless_40 rfl hP hS
  exact K2 fuelN (0 : Int32) _ _ _ hP hS (lv_sub hl [1, 0] rfl) h
set_option maxHeartbeats 4000000 in
set_option maxRecDepth 100000 in
theorem ct_X5_moveStrays (l : Launch) (D : va_G) (a : Nat → Nat) (cA cT : ClassId) (hI : WI a TC) (g : MG) (t : Nat) (ht : t < 6) (g' : MG) (h : m_X5_moveStrays g t = some g') :
    CtV l D a cA cT TC yX5_moveStrays (Cond.code yX5_moveStrays cX5_moveStrays 2 none :: lw_all) (rmm 5 107) [.ref (a (20 + 15 * t))] g g' := by
  refine CtV.of (by decide +kernel) (Nat.le_of_ble_eq_true rfl) ?_
  intro p e s m args below meth c Q ls hx hb hml hown hts hK hP hS hl hend
  have hl : lv_has ls 2 [(0, .ref (a (20 + 15 * t)))] := hl
  unfold m_X5_moveStrays at h
  refine lv_iconst (v := (0 : Int32)) hx hb dX5_moveStrays_0 (by decide) ?_
  refine lv_istore_n (lv' := [(1, .int (0 : Int32)), (0, .ref (a (20 + 15 * t)))]) hx hb dX5_moveStrays_1 rfl hl (by decide) rfl (fun ls hl => ?_)
  have K2 : ∀ (n2 : Nat) (v1 : Int32) (g2 : MG) (H : Heap) (locs : List Loc) (ls : Array Slot), WP D a cA cT TC g2 H → va_S (AA a TC) s.heap H locs → lv_has ls 2 [(0, .ref (a (20 + 15 * t))), (1, .int v1)] → lpo (b_X5_moveStrays_L2 t) n2 (v1, g2) = some g' → W p l e (rmm 5 107) s m args below meth c H locs 0 0 Q (F0 m 2 ls []) := by
    intro n2
    induction n2 with
    | zero => intro v1 g2 H locs ls hP hS hl h; exact (lpo_0 h).elim
    | succ n2 ih2 =>
      intro v1 g2 H locs ls hP hS hl h
      have h : m_X5_moveStrays_L2 (lpo (b_X5_moveStrays_L2 t) n2) t v1 g2 = some g' := h
      unfold m_X5_moveStrays_L2 at h
      refine lv_iload_n hx hb dX5_moveStrays_2 rfl (lv_at hl 1 rfl) ?_
      refine lv_aload_n hx hb dX5_moveStrays_3 rfl (lv_at hl 0 rfl) ?_
      refine x_getr hx hb hts inX5 hown hK hP (tT_20 ht) (C := RX5) (F := TX5) (N := 5) rfl 0 (by decide) q100 rfl (21 + 15 * t) rfl dX5_moveStrays_4 ?_
      refine x_get hx hb hts inX3 hown hK hP (tT_21 ht) (C := RX3) (F := TX3) (N := 4) rfl 3 (by decide) q76 rfl rfl dX5_moveStrays_7 ?_
      refine lv_icmp_ge (tgt := 47) hx hb dX5_moveStrays_10 (by decide) (fun hc => ?_) (fun hc => ?_)
      · have h := ite_t hc h
        obtain rfl := Option.some.inj h
        exact hend _ _ _ _ dX5_moveStrays_47 hP hS
      · have h := ite_f hc h
        refine lv_aload_n hx hb dX5_moveStrays_13 rfl (lv_at hl 0 rfl) ?_
        refine lv_iload_n hx hb dX5_moveStrays_14 rfl (lv_at hl 1 rfl) ?_
        obtain ⟨r15, hcal, h⟩ := bnd_s h
        refine x_VI (As := [.int v1]) hx hb hml hown hts hK hP hS (ct_X5_isStray l D a cA cT hI g2 t v1 ht r15 hcal) (tT_20 ht) (C := RX5) (F := TX5) (N := 5) rfl (g_V q251 q252 q253 q36 q254) yd_X5_isStray ⟨Nat.le_of_ble_eq_true rfl, Nat.le_of_ble_eq_true rfl⟩ [] rfl (Nat.le_of_ble_eq_true rfl) hl.1 ⟨Nat.le_refl _, Nat.le_refl _⟩ dX5_moveStrays_15 (fun H locs hP hS => ?_)
        refine lv_if_eq (tgt := 41) hx hb dX5_moveStrays_18 (by decide) (fun hc => ?_) (fun hc => ?_)
        · have h := ite_t hc h
          refine lv_iinc (v := (v1 + (1 : Int32))) (lv' := [(1, .int (v1 + (1 : Int32))), (0, .ref (a (20 + 15 * t)))]) hx hb dX5_moveStrays_41 hl (k := 1) rfl rfl (by decide) rfl (fun ls hl => ?_)
          refine lv_goto (tgt := 2) hx hb dX5_moveStrays_44 (by decide) ?_
          exact ih2 (v1 + (1 : Int32)) g2 _ _ _ hP hS (lv_sub hl [1, 0] rfl) h
        · have h := ite_f hc h
          refine lv_aload_n hx hb dX5_moveStrays_21 rfl (lv_at hl 0 rfl) ?_
          refine x_getr hx hb hts inX5 hown hK hP (tT_20 ht) (C := RX5) (F := TX5) (N := 5) rfl 0 (by decide) q100 rfl (21 + 15 * t) rfl dX5_moveStrays_22 ?_
          refine lv_iload_n hx hb dX5_moveStrays_25 rfl (lv_at hl 1 rfl) ?_
          refine lv_aload_n hx hb dX5_moveStrays_26 rfl (lv_at hl 0 rfl) ?_
          refine lv_aload_n hx hb dX5_moveStrays_27 rfl (lv_at hl 0 rfl) ?_
          refine x_getr hx hb hts inX5 hown hK hP (tT_20 ht) (C := RX5) (F := TX5) (N := 5) rfl 0 (by decide) q100 rfl (21 + 15 * t) rfl dX5_moveStrays_28 ?_
          refine lv_iload_n hx hb dX5_moveStrays_31 rfl (lv_at hl 1 rfl) ?_
          obtain ⟨r32, hcal, h⟩ := bnd_s h
          refine x_VI (As := [.int v1]) hx hb hml hown hts hK hP hS (ct_X3_keyOf l D a cA cT hI g2 t v1 ht r32 hcal) (tT_21 ht) (C := RX3) (F := TX3) (N := 4) rfl (g_V q256 q244 q245 q37 q246) yd_X3_keyOf ⟨Nat.le_of_ble_eq_true rfl, Nat.le_of_ble_eq_true rfl⟩ [.ref (a (20 + 15 * t)), .int v1, .ref (a (21 + 15 * t))] rfl (Nat.le_of_ble_eq_true rfl) hl.1 ⟨Nat.le_refl _, Nat.le_refl _⟩ dX5_moveStrays_32 (fun H locs hP hS => ?_)
          obtain ⟨r35, hcal, h⟩ := bnd_s h
          refine x_VI (As := [.int r32]) hx hb hml hown hts hK hP hS (ct_X5_home l D a cA cT hI g2 t r32 ht r35 hcal) (tT_20 ht) (C := RX5) (F := TX5) (N := 5) rfl (g_V q257 q258 q259 q36 q260) yd_X5_home ⟨Nat.le_of_ble_eq_true rfl, Nat.le_of_ble_eq_true rfl⟩ [.int v1, .ref (a (21 + 15 * t))] rfl (Nat.le_of_ble_eq_true rfl) hl.1 ⟨Nat.le_refl _, Nat.le_refl _⟩ dX5_moveStrays_35 (fun H locs hP hS => ?_)
          obtain ⟨g38, hcal, h⟩ := bnd_s h
          refine x_VV (As := [.int v1, .int r35]) hx hb hml hown hts hK hP hS (ct_X3_move l D a cA cT hI g2 t v1 r35 ht g38 hcal) (tT_21 ht) (C := RX3) (F := TX3) (N := 4) rfl (g_V q554 q464 q465 q37 q466) yd_X3_move ⟨Nat.le_of_ble_eq_true rfl, Nat.le_of_ble_eq_true rfl⟩ [] rfl (Nat.le_of_ble_eq_true rfl) hl.1 ⟨Nat.le_refl _, Nat.le_refl _⟩ dX5_moveStrays_38 (fun H locs hP hS => ?_)
          refine lv_iinc (v := (v1 + (1 : Int32))) (lv' := [(1, .int (v1 + (1 : Int32))), (0, .ref (a (20 + 15 * t)))]) hx hb dX5_moveStrays_41 hl (k := 1) rfl rfl (by decide) rfl (fun ls hl => ?_)
          refine lv_goto (tgt := 2) hx hb dX5_moveStrays_44 (by decide) ?_
          exact ih2 (v1 + (1 : Int32)) g38 _ _ _ hP hS (lv_sub hl [1, 0] rfl) h
  exact K2 fuelN (0 : Int32) g _ _ _ hP hS (lv_sub hl [1, 0] rfl) h
set_option maxHeartbeats 4000000 in
set_option maxRecDepth 100000 in
theorem ct_X5_unfitRows (l : Launch) (D : va_G) (a : Nat → Nat) (cA cT : ClassId) (hI : WI a TC) (g : MG) (t : Nat) (x0 : Int32) (x1 : Int32) (ht : t < 6) (r : Int32) (h : m_X5_unfitRows g t x0 x1 = some r) :
    CtI l D a cA cT TC yX5_unfitRows (Cond.code yX5_unfitRows cX5_unfitRows 3 (some .int) :: lw_all) (rmm 5 112) [.ref (a (20 + 15 * t)), .int x0, .int x1] g r g := by
  refine CtI.of (by decide +kernel) (Nat.le_of_ble_eq_true rfl) ?_
  intro p e s m args below meth c Q ls hx hb hml hown hts hK hP hS hl hend
  have hl : lv_has ls 3 [(0, .ref (a (20 + 15 * t))), (1, .int x0), (2, .int x1)] := hl
  unfold m_X5_unfitRows at h
  refine lv_aload_n hx hb dX5_unfitRows_0 rfl (lv_at hl 0 rfl) ?_
  refine x_getr hx hb hts inX5 hown hK hP (tT_20 ht) (C := RX5) (F := TX5) (N := 5) rfl 0 (by decide) q100 rfl (21 + 15 * t) rfl dX5_unfitRows_1 ?_
  refine lv_bipush (v := (61 : Int32)) hx hb dX5_unfitRows_4 (by decide) ?_
  obtain ⟨r6, hcal, h⟩ := bnd_s h
  refine x_VI (As := [.int (61 : Int32)]) hx hb hml hown hts hK hP hS (ct_X3_amountAt l D a cA cT hI g t (61 : Int32) ht r6 hcal) (tT_21 ht) (C := RX3) (F := TX3) (N := 4) rfl (g_V q523 q233 q234 q37 q235) yd_X3_amountAt ⟨Nat.le_of_ble_eq_true rfl, Nat.le_of_ble_eq_true rfl⟩ [] rfl (Nat.le_of_ble_eq_true rfl) hl.1 ⟨Nat.le_refl _, Nat.le_refl _⟩ dX5_unfitRows_6 (fun H locs hP hS => ?_)
  refine lv_aload_n hx hb dX5_unfitRows_9 rfl (lv_at hl 0 rfl) ?_
  refine x_getr hx hb hts inX5 hown hK hP (tT_20 ht) (C := RX5) (F := TX5) (N := 5) rfl 0 (by decide) q100 rfl (21 + 15 * t) rfl dX5_unfitRows_10 ?_
  refine lv_bipush (v := (61 : Int32)) hx hb dX5_unfitRows_13 (by decide) ?_
  refine lv_iload_n hx hb dX5_unfitRows_15 rfl (lv_at hl 1 rfl) ?_
  refine lv_iload_n hx hb dX5_unfitRows_16 rfl (lv_at hl 2 rfl) ?_
  obtain ⟨r17, hcal, h⟩ := bnd_s h
  refine x_VI (As := [.int (61 : Int32), .int x0, .int x1]) hx hb hml hown hts hK hP hS (ct_X3_amountWithKeys l D a cA cT hI g t (61 : Int32) x0 x1 ht r17 hcal) (tT_21 ht) (C := RX3) (F := TX3) (N := 4) rfl (g_V q524 q237 q238 q37 q239) yd_X3_amountWithKeys ⟨Nat.le_of_ble_eq_true rfl, Nat.le_of_ble_eq_true rfl⟩ [.int r6] rfl (Nat.le_of_ble_eq_true rfl) hl.1 ⟨Nat.le_refl _, Nat.le_refl _⟩ dX5_unfitRows_17 (fun H locs hP hS => ?_)
  refine lv_isub hx hb dX5_unfitRows_20 ?_
  obtain rfl := Option.some.inj h
  exact hend _ _ _ _ dX5_unfitRows_21 rfl hP hS
set_option maxHeartbeats 4000000 in
set_option maxRecDepth 100000 in
theorem ct_X6_isKey (l : Launch) (D : va_G) (a : Nat → Nat) (cA cT : ClassId) (hI : WI a TC) (g : MG) (x0 : Int32)  (r : Int32) (h : m_X6_isKey g x0 = some r) :
    CtI l D a cA cT TC yX6_isKey (Cond.code yX6_isKey cX6_isKey 1 (some .boolean) :: lw_all) (rmm 0 0) [.int x0] g r g := by
  refine CtI.of (by decide +kernel) (Nat.le_of_ble_eq_true rfl) ?_
  intro p e s m args below meth c Q ls hx hb hml hown hts hK hP hS hl hend
  have hl : lv_has ls 1 [(0, .int x0)] := hl
  unfold m_X6_isKey at h
  refine lv_iload_n hx hb dX6_isKey_0 rfl (lv_at hl 0 rfl) ?_
  refine lv_if_lt (tgt := 15) hx hb dX6_isKey_1 (by decide) (fun hc => ?_) (fun hc => ?_)
  · have h := ite_t hc h
    refine lv_iconst (v := (0 : Int32)) hx hb dX6_isKey_15 (by decide) ?_
    obtain rfl := Option.some.inj h
    exact hend _ _ _ _ dX6_isKey_16 rfl hP hS
  · have h := ite_f hc h
    refine lv_iload_n hx hb dX6_isKey_4 rfl (lv_at hl 0 rfl) ?_
    refine lv_sipush (v := (1000 : Int32)) hx hb dX6_isKey_5 (by decide) ?_
    refine lv_icmp_ge (tgt := 15) hx hb dX6_isKey_8 (by decide) (fun hc => ?_) (fun hc => ?_)
    · have h := ite_t hc h
      refine lv_iconst (v := (0 : Int32)) hx hb dX6_isKey_15 (by decide) ?_
      obtain rfl := Option.some.inj h
      exact hend _ _ _ _ dX6_isKey_16 rfl hP hS
    · have h := ite_f hc h
      refine lv_iconst (v := (1 : Int32)) hx hb dX6_isKey_11 (by decide) ?_
      refine lv_goto (tgt := 16) hx hb dX6_isKey_12 (by decide) ?_
      obtain rfl := Option.some.inj h
      exact hend _ _ _ _ dX6_isKey_16 rfl hP hS
set_option maxHeartbeats 4000000 in
set_option maxRecDepth 100000 in
theorem ct_X6_isValue (l : Launch) (D : va_G) (a : Nat → Nat) (cA cT : ClassId) (hI : WI a TC) (g : MG) (x0 : Int32)  (r : Int32) (h : m_X6_isValue g x0 = some r) :
    CtI l D a cA cT TC yX6_isValue (Cond.code yX6_isValue cX6_isValue 1 (some .boolean) :: lw_all) (rmm 0 0) [.int x0] g r g := by
  refine CtI.of (by decide +kernel) (Nat.le_of_ble_eq_true rfl) ?_
  intro p e s m args below meth c Q ls hx hb hml hown hts hK hP hS hl hend
  have hl : lv_has ls 1 [(0, .int x0)] := hl
  unfold m_X6_isValue at h
  refine lv_iload_n hx hb dX6_isValue_0 rfl (lv_at hl 0 rfl) ?_
  refine lv_sipush (v := (-999 : Int32)) hx hb dX6_isValue_1 (by decide) ?_
  refine lv_icmp_lt (tgt := 18) hx hb dX6_isValue_4 (by decide) (fun hc => ?_) (fun hc => ?_)
  · have h := ite_t hc h
    refine lv_iconst (v := (0 : Int32)) hx hb dX6_isValue_18 (by decide) ?_
    obtain rfl := Option.some.inj h
    exact hend _ _ _ _ dX6_isValue_19 rfl hP hS
  · have h := ite_f hc h
    refine lv_iload_n hx hb dX6_isValue_7 rfl (lv_at hl 0 rfl) ?_
    refine lv_sipush (v := (999 : Int32)) hx hb dX6_isValue_8 (by decide) ?_
    refine lv_icmp_gt (tgt := 18) hx hb dX6_isValue_11 (by decide) (fun hc => ?_) (fun hc => ?_)
    · have h := ite_t hc h
      refine lv_iconst (v := (0 : Int32)) hx hb dX6_isValue_18 (by decide) ?_
      obtain rfl := Option.some.inj h
      exact hend _ _ _ _ dX6_isValue_19 rfl hP hS
    · have h := ite_f hc h
      refine lv_iconst (v := (1 : Int32)) hx hb dX6_isValue_14 (by decide) ?_
      refine lv_goto (tgt := 19) hx hb dX6_isValue_15 (by decide) ?_
      obtain rfl := Option.some.inj h
      exact hend _ _ _ _ dX6_isValue_19 rfl hP hS
set_option maxHeartbeats 4000000 in
set_option maxRecDepth 100000 in
theorem ct_X6_put (l : Launch) (D : va_G) (a : Nat → Nat) (cA cT : ClassId) (hI : WI a TC) (g : MG) (x0 : Int32) (x1 : Int32)  (r : Int32) (g' : MG) (h : m_X6_put g x0 x1 = some (r, g')) :
    CtI l D a cA cT TC yX6_put (Cond.code yX6_put cX6_put 4 (some .int) :: lw_all) (rmm 5 112) [.ref (a 0), .int x0, .int x1] g r g' := by
  refine CtI.of (by decide +kernel) (Nat.le_of_ble_eq_true rfl) ?_
  intro p e s m args below meth c Q ls hx hb hml hown hts hK hP hS hl hend
  have hl : lv_has ls 4 [(0, .ref (a 0)), (1, .int x0), (2, .int x1)] := hl
  unfold m_X6_put at h
  refine lv_iload_n hx hb dX6_put_0 rfl (lv_at hl 1 rfl) ?_
  obtain ⟨r1, hcal, h⟩ := bnd_s h
  refine x_SI (As := [.int x0]) hx hb hml hown hts hK hP hS (ct_X6_isKey l D a cA cT hI g x0 r1 hcal) (g_S q381 q382 q35 q383) yd_X6_isKey ⟨Nat.le_of_ble_eq_true rfl, Nat.le_of_ble_eq_true rfl⟩ [] rfl (Nat.le_of_ble_eq_true rfl) hl.1 ⟨Nat.le_refl _, Nat.le_refl _⟩ dX6_put_1 (fun H locs hP hS => ?_)
  refine lv_if_eq (tgt := 14) hx hb dX6_put_4 (by decide) (fun hc => ?_) (fun hc => ?_)
  · have h := ite_t hc h
    refine lv_sipush (v := (-1002 : Int32)) hx hb dX6_put_14 (by decide) ?_
    obtain ⟨rfl, rfl⟩ := Prod.mk.inj (Option.some.inj h)
    exact hend _ _ _ _ dX6_put_17 rfl hP hS
  · have h := ite_f hc h
    refine lv_iload_n hx hb dX6_put_7 rfl (lv_at hl 2 rfl) ?_
    obtain ⟨r8, hcal, h⟩ := bnd_s h
    refine x_SI (As := [.int x1]) hx hb hml hown hts hK hP hS (ct_X6_isValue l D a cA cT hI g x1 r8 hcal) (g_S q409 q410 q35 q411) yd_X6_isValue ⟨Nat.le_of_ble_eq_true rfl, Nat.le_of_ble_eq_true rfl⟩ [] rfl (Nat.le_of_ble_eq_true rfl) hl.1 ⟨Nat.le_refl _, Nat.le_refl _⟩ dX6_put_8 (fun H locs hP hS => ?_)
    refine lv_if_ne (tgt := 18) hx hb dX6_put_11 (by decide) (fun hc => ?_) (fun hc => ?_)
    · have h := ite_f hc h
      refine lv_aload_n hx hb dX6_put_18 rfl (lv_at hl 0 rfl) ?_
      refine x_getr hx hb hts inX6 hown hK hP tF_0 (C := RX6) (F := TX6) (N := 5) rfl 0 (by decide) q168 rfl (20 + 15 * 0) rfl dX6_put_19 ?_
      refine lv_iload_n hx hb dX6_put_22 rfl (lv_at hl 1 rfl) ?_
      obtain ⟨r23, hcal, h⟩ := bnd_s h
      refine x_VI (As := [.int x0]) hx hb hml hown hts hK hP hS (ct_X5_home l D a cA cT hI g 0 x0 hz0 r23 hcal) (tT_20 hz0) (C := RX5) (F := TX5) (N := 5) rfl (g_V q320 q258 q259 q36 q260) yd_X5_home ⟨Nat.le_of_ble_eq_true rfl, Nat.le_of_ble_eq_true rfl⟩ [] rfl (Nat.le_of_ble_eq_true rfl) hl.1 ⟨Nat.le_refl _, Nat.le_refl _⟩ dX6_put_23 (fun H locs hP hS => ?_)
      refine lv_istore_n (lv' := [(3, .int r23), (0, .ref (a 0)), (1, .int x0), (2, .int x1)]) hx hb dX6_put_26 rfl hl (by decide) rfl (fun ls hl => ?_)
      refine lv_iload_n hx hb dX6_put_27 rfl (lv_at hl 0 rfl) ?_
      refine lv_sipush (v := (-1005 : Int32)) hx hb dX6_put_28 (by decide) ?_
      refine lv_icmp_ne (tgt := 38) hx hb dX6_put_31 (by decide) (fun hc => ?_) (fun hc => ?_)
      · have h := ite_f hc h
        refine lv_aload_n hx hb dX6_put_38 rfl (lv_at hl 1 rfl) ?_
        refine x_getr hx hb hts inX6 hown hK hP tF_0 (C := RX6) (F := TX6) (N := 5) rfl 0 (by decide) q168 rfl (20 + 15 * 0) rfl dX6_put_39 ?_
        refine x_getr hx hb hts inX5 hown hK hP (tT_20 hz0) (C := RX5) (F := TX5) (N := 5) rfl 0 (by decide) q101 rfl (21 + 15 * 0) rfl dX6_put_42 ?_
        refine lv_iload_n hx hb dX6_put_45 rfl (lv_at hl 0 rfl) ?_
        obtain ⟨r46, hcal, h⟩ := bnd_s h
        refine x_VI (As := [.int r23]) hx hb hml hown hts hK hP hS (ct_X3_amountAt l D a cA cT hI g 0 r23 hz0 r46 hcal) (tT_21 hz0) (C := RX3) (F := TX3) (N := 4) rfl (g_V q232 q233 q234 q37 q235) yd_X3_amountAt ⟨Nat.le_of_ble_eq_true rfl, Nat.le_of_ble_eq_true rfl⟩ [] rfl (Nat.le_of_ble_eq_true rfl) hl.1 ⟨Nat.le_refl _, Nat.le_refl _⟩ dX6_put_46 (fun H locs hP hS => ?_)
        refine lv_bipush (v := (30 : Int32)) hx hb dX6_put_49 (by decide) ?_
        refine lv_icmp_ge (tgt := 70) hx hb dX6_put_51 (by decide) (fun hc => ?_) (fun hc => ?_)
        · have h := ite_t hc h
          refine lv_sipush (v := (-1003 : Int32)) hx hb dX6_put_70 (by decide) ?_
          obtain ⟨rfl, rfl⟩ := Prod.mk.inj (Option.some.inj h)
          exact hend _ _ _ _ dX6_put_73 rfl hP hS
        · have h := ite_f hc h
          refine lv_aload_n hx hb dX6_put_54 rfl (lv_at hl 1 rfl) ?_
          refine x_getr hx hb hts inX6 hown hK hP tF_0 (C := RX6) (F := TX6) (N := 5) rfl 0 (by decide) q168 rfl (20 + 15 * 0) rfl dX6_put_55 ?_
          refine x_getr hx hb hts inX5 hown hK hP (tT_20 hz0) (C := RX5) (F := TX5) (N := 5) rfl 0 (by decide) q101 rfl (21 + 15 * 0) rfl dX6_put_58 ?_
          refine x_get hx hb hts inX3 hown hK hP (tT_21 hz0) (C := RX3) (F := TX3) (N := 4) rfl 3 (by decide) q75 rfl rfl dX6_put_61 ?_
          refine lv_sipush (v := (400 : Int32)) hx hb dX6_put_64 (by decide) ?_
          refine lv_icmp_lt (tgt := 74) hx hb dX6_put_67 (by decide) (fun hc => ?_) (fun hc => ?_)
          · have h := ite_t hc h
            refine lv_aload_n hx hb dX6_put_74 rfl (lv_at hl 1 rfl) ?_
            refine x_getr hx hb hts inX6 hown hK hP tF_0 (C := RX6) (F := TX6) (N := 5) rfl 1 (by decide) q169 rfl 1 rfl dX6_put_75 ?_
            refine lv_aload_n hx hb dX6_put_78 rfl (lv_at hl 1 rfl) ?_
            refine x_getr hx hb hts inX6 hown hK hP tF_0 (C := RX6) (F := TX6) (N := 5) rfl 0 (by decide) q168 rfl (20 + 15 * 0) rfl dX6_put_79 ?_
            obtain ⟨g82, hcal, h⟩ := bnd_s h
            refine x_VV (As := [.ref (a (20 + 15 * 0))]) hx hb hml hown hts hK hP hS (ct_X1_record l D a cA cT hI g 0 hz0 g82 hcal) tF_1 (C := RX1) (F := TX1) (N := 4) rfl (g_V q412 q413 q414 q40 q415) yd_X1_record ⟨Nat.le_of_ble_eq_true rfl, Nat.le_of_ble_eq_true rfl⟩ [] rfl (Nat.le_of_ble_eq_true rfl) hl.1 ⟨Nat.le_refl _, Nat.le_refl _⟩ dX6_put_82 (fun H locs hP hS => ?_)
            refine lv_aload_n hx hb dX6_put_85 rfl (lv_at hl 1 rfl) ?_
            refine x_getr hx hb hts inX6 hown hK hP tF_0 (C := RX6) (F := TX6) (N := 5) rfl 0 (by decide) q168 rfl (20 + 15 * 0) rfl dX6_put_86 ?_
            refine x_getr hx hb hts inX5 hown hK hP (tT_20 hz0) (C := RX5) (F := TX5) (N := 5) rfl 0 (by decide) q101 rfl (21 + 15 * 0) rfl dX6_put_89 ?_
            refine lv_iload_n hx hb dX6_put_92 rfl (lv_at hl 2 rfl) ?_
            refine lv_iload_n hx hb dX6_put_93 rfl (lv_at hl 3 rfl) ?_
            refine lv_iload_n hx hb dX6_put_94 rfl (lv_at hl 0 rfl) ?_
            obtain ⟨r95, g95, hcal, h⟩ := bnd2_s h
            refine x_VI (As := [.int x0, .int x1, .int r23]) hx hb hml hown hts hK hP hS (ct_X3_append l D a cA cT hI g82 0 x0 x1 r23 hz0 r95 g95 hcal) (tT_21 hz0) (C := RX3) (F := TX3) (N := 4) rfl (g_V q419 q420 q421 q37 q422) yd_X3_append ⟨Nat.le_of_ble_eq_true rfl, Nat.le_of_ble_eq_true rfl⟩ [] rfl (Nat.le_of_ble_eq_true rfl) hl.1 ⟨Nat.le_refl _, Nat.le_refl _⟩ dX6_put_95 (fun H locs hP hS => ?_)
            obtain ⟨rfl, rfl⟩ := Prod.mk.inj (Option.some.inj h)
            exact hend _ _ _ _ dX6_put_98 rfl hP hS
          · have h := ite_f hc h
            refine lv_sipush (v := (-1003 : Int32)) hx hb dX6_put_70 (by decide) ?_
            obtain ⟨rfl, rfl⟩ := Prod.mk.inj (Option.some.inj h)
            exact hend _ _ _ _ dX6_put_73 rfl hP hS
      · have h := ite_t hc h
        refine lv_sipush (v := (-1004 : Int32)) hx hb dX6_put_34 (by decide) ?_
        obtain ⟨rfl, rfl⟩ := Prod.mk.inj (Option.some.inj h)
        exact hend _ _ _ _ dX6_put_37 rfl hP hS
    · have h := ite_t hc h
      refine lv_sipush (v := (-1002 : Int32)) hx hb dX6_put_14 (by decide) ?_
      obtain ⟨rfl, rfl⟩ := Prod.mk.inj (Option.some.inj h)
      exact hend _ _ _ _ dX6_put_17 rfl hP hS
set_option maxHeartbeats 4000000 in
set_option maxRecDepth 100000 in
theorem ct_X6_stage (l : Launch) (D : va_G) (a : Nat → Nat) (cA cT : ClassId) (hI : WI a TC) (g : MG) (x0 : Int32) (x1 : Int32)  (r : Int32) (g' : MG) (h : m_X6_stage g x0 x1 = some (r, g')) :
    CtI l D a cA cT TC yX6_stage (Cond.code yX6_stage cX6_stage 3 (some .int) :: lw_all) (rmm 5 112) [.ref (a 0), .int x0, .int x1] g r g' := by
  refine CtI.of (by decide +kernel) (Nat.le_of_ble_eq_true rfl) ?_
  intro p e s m args below meth c Q ls hx hb hml hown hts hK hP hS hl hend
  have hl : lv_has ls 3 [(0, .ref (a 0)), (1, .int x0), (2, .int x1)] := hl
  unfold m_X6_stage at h
  refine lv_iload_n hx hb dX6_stage_0 rfl (lv_at hl 1 rfl) ?_
  obtain ⟨r1, hcal, h⟩ := bnd_s h
  refine x_SI (As := [.int x0]) hx hb hml hown hts hK hP hS (ct_X6_isKey l D a cA cT hI g x0 r1 hcal) (g_S q381 q382 q35 q383) yd_X6_isKey ⟨Nat.le_of_ble_eq_true rfl, Nat.le_of_ble_eq_true rfl⟩ [] rfl (Nat.le_of_ble_eq_true rfl) hl.1 ⟨Nat.le_refl _, Nat.le_refl _⟩ dX6_stage_1 (fun H locs hP hS => ?_)
  refine lv_if_eq (tgt := 14) hx hb dX6_stage_4 (by decide) (fun hc => ?_) (fun hc => ?_)
  · have h := ite_t hc h
    refine lv_sipush (v := (-1002 : Int32)) hx hb dX6_stage_14 (by decide) ?_
    obtain ⟨rfl, rfl⟩ := Prod.mk.inj (Option.some.inj h)
    exact hend _ _ _ _ dX6_stage_17 rfl hP hS
  · have h := ite_f hc h
    refine lv_iload_n hx hb dX6_stage_7 rfl (lv_at hl 2 rfl) ?_
    obtain ⟨r8, hcal, h⟩ := bnd_s h
    refine x_SI (As := [.int x1]) hx hb hml hown hts hK hP hS (ct_X6_isValue l D a cA cT hI g x1 r8 hcal) (g_S q409 q410 q35 q411) yd_X6_isValue ⟨Nat.le_of_ble_eq_true rfl, Nat.le_of_ble_eq_true rfl⟩ [] rfl (Nat.le_of_ble_eq_true rfl) hl.1 ⟨Nat.le_refl _, Nat.le_refl _⟩ dX6_stage_8 (fun H locs hP hS => ?_)
    refine lv_if_ne (tgt := 18) hx hb dX6_stage_11 (by decide) (fun hc => ?_) (fun hc => ?_)
    · have h := ite_f hc h
      refine lv_aload_n hx hb dX6_stage_18 rfl (lv_at hl 0 rfl) ?_
      refine x_getr hx hb hts inX6 hown hK hP tF_0 (C := RX6) (F := TX6) (N := 5) rfl 0 (by decide) q168 rfl (20 + 15 * 0) rfl dX6_stage_19 ?_
      refine x_getr hx hb hts inX5 hown hK hP (tT_20 hz0) (C := RX5) (F := TX5) (N := 5) rfl 0 (by decide) q101 rfl (21 + 15 * 0) rfl dX6_stage_22 ?_
      refine lv_bipush (v := (61 : Int32)) hx hb dX6_stage_25 (by decide) ?_
      obtain ⟨r27, hcal, h⟩ := bnd_s h
      refine x_VI (As := [.int (61 : Int32)]) hx hb hml hown hts hK hP hS (ct_X3_amountAt l D a cA cT hI g 0 (61 : Int32) hz0 r27 hcal) (tT_21 hz0) (C := RX3) (F := TX3) (N := 4) rfl (g_V q232 q233 q234 q37 q235) yd_X3_amountAt ⟨Nat.le_of_ble_eq_true rfl, Nat.le_of_ble_eq_true rfl⟩ [] rfl (Nat.le_of_ble_eq_true rfl) hl.1 ⟨Nat.le_refl _, Nat.le_refl _⟩ dX6_stage_27 (fun H locs hP hS => ?_)
      refine lv_bipush (v := (20 : Int32)) hx hb dX6_stage_30 (by decide) ?_
      refine lv_icmp_ge (tgt := 51) hx hb dX6_stage_32 (by decide) (fun hc => ?_) (fun hc => ?_)
      · have h := ite_t hc h
        refine lv_sipush (v := (-1003 : Int32)) hx hb dX6_stage_51 (by decide) ?_
        obtain ⟨rfl, rfl⟩ := Prod.mk.inj (Option.some.inj h)
        exact hend _ _ _ _ dX6_stage_54 rfl hP hS
      · have h := ite_f hc h
        refine lv_aload_n hx hb dX6_stage_35 rfl (lv_at hl 0 rfl) ?_
        refine x_getr hx hb hts inX6 hown hK hP tF_0 (C := RX6) (F := TX6) (N := 5) rfl 0 (by decide) q168 rfl (20 + 15 * 0) rfl dX6_stage_36 ?_
        refine x_getr hx hb hts inX5 hown hK hP (tT_20 hz0) (C := RX5) (F := TX5) (N := 5) rfl 0 (by decide) q101 rfl (21 + 15 * 0) rfl dX6_stage_39 ?_
        refine x_get hx hb hts inX3 hown hK hP (tT_21 hz0) (C := RX3) (F := TX3) (N := 4) rfl 3 (by decide) q75 rfl rfl dX6_stage_42 ?_
        refine lv_sipush (v := (400 : Int32)) hx hb dX6_stage_45 (by decide) ?_
        refine lv_icmp_lt (tgt := 55) hx hb dX6_stage_48 (by decide) (fun hc => ?_) (fun hc => ?_)
        · have h := ite_t hc h
          refine lv_aload_n hx hb dX6_stage_55 rfl (lv_at hl 0 rfl) ?_
          refine x_getr hx hb hts inX6 hown hK hP tF_0 (C := RX6) (F := TX6) (N := 5) rfl 1 (by decide) q169 rfl 1 rfl dX6_stage_56 ?_
          refine lv_aload_n hx hb dX6_stage_59 rfl (lv_at hl 0 rfl) ?_
          refine x_getr hx hb hts inX6 hown hK hP tF_0 (C := RX6) (F := TX6) (N := 5) rfl 0 (by decide) q168 rfl (20 + 15 * 0) rfl dX6_stage_60 ?_
          obtain ⟨g63, hcal, h⟩ := bnd_s h
          refine x_VV (As := [.ref (a (20 + 15 * 0))]) hx hb hml hown hts hK hP hS (ct_X1_record l D a cA cT hI g 0 hz0 g63 hcal) tF_1 (C := RX1) (F := TX1) (N := 4) rfl (g_V q412 q413 q414 q40 q415) yd_X1_record ⟨Nat.le_of_ble_eq_true rfl, Nat.le_of_ble_eq_true rfl⟩ [] rfl (Nat.le_of_ble_eq_true rfl) hl.1 ⟨Nat.le_refl _, Nat.le_refl _⟩ dX6_stage_63 (fun H locs hP hS => ?_)
          refine lv_aload_n hx hb dX6_stage_66 rfl (lv_at hl 0 rfl) ?_
          refine x_getr hx hb hts inX6 hown hK hP tF_0 (C := RX6) (F := TX6) (N := 5) rfl 0 (by decide) q168 rfl (20 + 15 * 0) rfl dX6_stage_67 ?_
          refine x_getr hx hb hts inX5 hown hK hP (tT_20 hz0) (C := RX5) (F := TX5) (N := 5) rfl 0 (by decide) q101 rfl (21 + 15 * 0) rfl dX6_stage_70 ?_
          refine lv_iload_n hx hb dX6_stage_73 rfl (lv_at hl 1 rfl) ?_
          refine lv_iload_n hx hb dX6_stage_74 rfl (lv_at hl 2 rfl) ?_
          refine lv_bipush (v := (61 : Int32)) hx hb dX6_stage_75 (by decide) ?_
          obtain ⟨r77, g77, hcal, h⟩ := bnd2_s h
          refine x_VI (As := [.int x0, .int x1, .int (61 : Int32)]) hx hb hml hown hts hK hP hS (ct_X3_append l D a cA cT hI g63 0 x0 x1 (61 : Int32) hz0 r77 g77 hcal) (tT_21 hz0) (C := RX3) (F := TX3) (N := 4) rfl (g_V q419 q420 q421 q37 q422) yd_X3_append ⟨Nat.le_of_ble_eq_true rfl, Nat.le_of_ble_eq_true rfl⟩ [] rfl (Nat.le_of_ble_eq_true rfl) hl.1 ⟨Nat.le_refl _, Nat.le_refl _⟩ dX6_stage_77 (fun H locs hP hS => ?_)
          obtain ⟨rfl, rfl⟩ := Prod.mk.inj (Option.some.inj h)
          exact hend _ _ _ _ dX6_stage_80 rfl hP hS
        · have h := ite_f hc h
          refine lv_sipush (v := (-1003 : Int32)) hx hb dX6_stage_51 (by decide) ?_
          obtain ⟨rfl, rfl⟩ := Prod.mk.inj (Option.some.inj h)
          exact hend _ _ _ _ dX6_stage_54 rfl hP hS
    · have h := ite_t hc h
      refine lv_sipush (v := (-1002 : Int32)) hx hb dX6_stage_14 (by decide) ?_
      obtain ⟨rfl, rfl⟩ := Prod.mk.inj (Option.some.inj h)
      exact hend _ _ _ _ dX6_stage_17 rfl hP hS
set_option maxHeartbeats 4000000 in
set_option maxRecDepth 100000 in
theorem ct_X6_take (l : Launch) (D : va_G) (a : Nat → Nat) (cA cT : ClassId) (hI : WI a TC) (g : MG) (x0 : Int32)  (r : Int32) (g' : MG) (h : m_X6_take g x0 = some (r, g')) :
    CtI l D a cA cT TC yX6_take (Cond.code yX6_take cX6_take 2 (some .int) :: lw_all) (rmm 5 111) [.ref (a 0), .int x0] g r g' := by
  refine CtI.of (by decide +kernel) (Nat.le_of_ble_eq_true rfl) ?_
  intro p e s m args below meth c Q ls hx hb hml hown hts hK hP hS hl hend
  have hl : lv_has ls 2 [(0, .ref (a 0)), (1, .int x0)] := hl
  unfold m_X6_take at h
  refine lv_aload_n hx hb dX6_take_0 rfl (lv_at hl 0 rfl) ?_
  refine x_getr hx hb hts inX6 hown hK hP tF_0 (C := RX6) (F := TX6) (N := 5) rfl 0 (by decide) q168 rfl (20 + 15 * 0) rfl dX6_take_1 ?_
  refine x_getr hx hb hts inX5 hown hK hP (tT_20 hz0) (C := RX5) (F := TX5) (N := 5) rfl 0 (by decide) q101 rfl (21 + 15 * 0) rfl dX6_take_4 ?_
  refine lv_iload_n hx hb dX6_take_7 rfl (lv_at hl 1 rfl) ?_
  obtain ⟨r8, hcal, h⟩ := bnd_s h
  refine x_VI (As := [.int x0]) hx hb hml hown hts hK hP hS (ct_X3_has l D a cA cT hI g 0 x0 hz0 r8 hcal) (tT_21 hz0) (C := RX3) (F := TX3) (N := 4) rfl (g_V q310 q311 q312 q37 q313) yd_X3_has ⟨Nat.le_of_ble_eq_true rfl, Nat.le_of_ble_eq_true rfl⟩ [] rfl (Nat.le_of_ble_eq_true rfl) hl.1 ⟨Nat.le_refl _, Nat.le_refl _⟩ dX6_take_8 (fun H locs hP hS => ?_)
  refine lv_if_ne (tgt := 18) hx hb dX6_take_11 (by decide) (fun hc => ?_) (fun hc => ?_)
  · have h := ite_f hc h
    refine lv_aload_n hx hb dX6_take_18 rfl (lv_at hl 0 rfl) ?_
    refine x_getr hx hb hts inX6 hown hK hP tF_0 (C := RX6) (F := TX6) (N := 5) rfl 1 (by decide) q169 rfl 1 rfl dX6_take_19 ?_
    refine lv_aload_n hx hb dX6_take_22 rfl (lv_at hl 0 rfl) ?_
    refine x_getr hx hb hts inX6 hown hK hP tF_0 (C := RX6) (F := TX6) (N := 5) rfl 0 (by decide) q168 rfl (20 + 15 * 0) rfl dX6_take_23 ?_
    obtain ⟨g26, hcal, h⟩ := bnd_s h
    refine x_VV (As := [.ref (a (20 + 15 * 0))]) hx hb hml hown hts hK hP hS (ct_X1_record l D a cA cT hI g 0 hz0 g26 hcal) tF_1 (C := RX1) (F := TX1) (N := 4) rfl (g_V q412 q413 q414 q40 q415) yd_X1_record ⟨Nat.le_of_ble_eq_true rfl, Nat.le_of_ble_eq_true rfl⟩ [] rfl (Nat.le_of_ble_eq_true rfl) hl.1 ⟨Nat.le_refl _, Nat.le_refl _⟩ dX6_take_26 (fun H locs hP hS => ?_)
    refine lv_aload_n hx hb dX6_take_29 rfl (lv_at hl 0 rfl) ?_
    refine x_getr hx hb hts inX6 hown hK hP tF_0 (C := RX6) (F := TX6) (N := 5) rfl 0 (by decide) q168 rfl (20 + 15 * 0) rfl dX6_take_30 ?_
    refine x_getr hx hb hts inX5 hown hK hP (tT_20 hz0) (C := RX5) (F := TX5) (N := 5) rfl 0 (by decide) q101 rfl (21 + 15 * 0) rfl dX6_take_33 ?_
    refine lv_iload_n hx hb dX6_take_36 rfl (lv_at hl 1 rfl) ?_
    refine lv_iconst (v := (-1 : Int32)) hx hb dX6_take_37 (by decide) ?_
    obtain ⟨g38, hcal, h⟩ := bnd_s h
    refine x_VV (As := [.int x0, .int (-1 : Int32)]) hx hb hml hown hts hK hP hS (ct_X3_move l D a cA cT hI g26 0 x0 (-1 : Int32) hz0 g38 hcal) (tT_21 hz0) (C := RX3) (F := TX3) (N := 4) rfl (g_V q471 q464 q465 q37 q466) yd_X3_move ⟨Nat.le_of_ble_eq_true rfl, Nat.le_of_ble_eq_true rfl⟩ [] rfl (Nat.le_of_ble_eq_true rfl) hl.1 ⟨Nat.le_refl _, Nat.le_refl _⟩ dX6_take_38 (fun H locs hP hS => ?_)
    refine lv_aload_n hx hb dX6_take_41 rfl (lv_at hl 0 rfl) ?_
    refine x_getr hx hb hts inX6 hown hK hP tF_0 (C := RX6) (F := TX6) (N := 5) rfl 0 (by decide) q168 rfl (20 + 15 * 0) rfl dX6_take_42 ?_
    refine x_getr hx hb hts inX5 hown hK hP (tT_20 hz0) (C := RX5) (F := TX5) (N := 5) rfl 0 (by decide) q101 rfl (21 + 15 * 0) rfl dX6_take_45 ?_
    refine lv_iload_n hx hb dX6_take_48 rfl (lv_at hl 1 rfl) ?_
    obtain ⟨r49, hcal, h⟩ := bnd_s h
    refine x_VI (As := [.int x0]) hx hb hml hown hts hK hP hS (ct_X3_keyOf l D a cA cT hI g38 0 x0 hz0 r49 hcal) (tT_21 hz0) (C := RX3) (F := TX3) (N := 4) rfl (g_V q314 q244 q245 q37 q246) yd_X3_keyOf ⟨Nat.le_of_ble_eq_true rfl, Nat.le_of_ble_eq_true rfl⟩ [] rfl (Nat.le_of_ble_eq_true rfl) hl.1 ⟨Nat.le_refl _, Nat.le_refl _⟩ dX6_take_49 (fun H locs hP hS => ?_)
    obtain ⟨rfl, rfl⟩ := Prod.mk.inj (Option.some.inj h)
    exact hend _ _ _ _ dX6_take_52 rfl hP hS
  · have h := ite_t hc h
    refine lv_sipush (v := (-1001 : Int32)) hx hb dX6_take_14 (by decide) ?_
    obtain ⟨rfl, rfl⟩ := Prod.mk.inj (Option.some.inj h)
    exact hend _ _ _ _ dX6_take_17 rfl hP hS
set_option maxHeartbeats 4000000 in
set_option maxRecDepth 100000 in
theorem ct_X6_rekey (l : Launch) (D : va_G) (a : Nat → Nat) (cA cT : ClassId) (hI : WI a TC) (g : MG) (x0 : Int32) (x1 : Int32)  (r : Int32) (g' : MG) (h : m_X6_rekey g x0 x1 = some (r, g')) :
    CtI l D a cA cT TC yX6_rekey (Cond.code yX6_rekey cX6_rekey 6 (some .int) :: lw_all) (rmm 5 112) [.ref (a 0), .int x0, .int x1] g r g' := by
  refine CtI.of (by decide +kernel) (Nat.le_of_ble_eq_true rfl) ?_
  intro p e s m args below meth c Q ls hx hb hml hown hts hK hP hS hl hend
  have hl : lv_has ls 6 [(0, .ref (a 0)), (1, .int x0), (2, .int x1)] := hl
  unfold m_X6_rekey at h
  refine lv_aload_n hx hb dX6_rekey_0 rfl (lv_at hl 0 rfl) ?_
  refine x_getr hx hb hts inX6 hown hK hP tF_0 (C := RX6) (F := TX6) (N := 5) rfl 0 (by decide) q168 rfl (20 + 15 * 0) rfl dX6_rekey_1 ?_
  refine x_getr hx hb hts inX5 hown hK hP (tT_20 hz0) (C := RX5) (F := TX5) (N := 5) rfl 0 (by decide) q101 rfl (21 + 15 * 0) rfl dX6_rekey_4 ?_
  refine lv_iload_n hx hb dX6_rekey_7 rfl (lv_at hl 1 rfl) ?_
  obtain ⟨r8, hcal, h⟩ := bnd_s h
  refine x_VI (As := [.int x0]) hx hb hml hown hts hK hP hS (ct_X3_has l D a cA cT hI g 0 x0 hz0 r8 hcal) (tT_21 hz0) (C := RX3) (F := TX3) (N := 4) rfl (g_V q310 q311 q312 q37 q313) yd_X3_has ⟨Nat.le_of_ble_eq_true rfl, Nat.le_of_ble_eq_true rfl⟩ [] rfl (Nat.le_of_ble_eq_true rfl) hl.1 ⟨Nat.le_refl _, Nat.le_refl _⟩ dX6_rekey_8 (fun H locs hP hS => ?_)
  refine lv_if_ne (tgt := 18) hx hb dX6_rekey_11 (by decide) (fun hc => ?_) (fun hc => ?_)
  · have h := ite_f hc h
    refine lv_iload_n hx hb dX6_rekey_18 rfl (lv_at hl 2 rfl) ?_
    obtain ⟨r19, hcal, h⟩ := bnd_s h
    refine x_SI (As := [.int x1]) hx hb hml hown hts hK hP hS (ct_X6_isKey l D a cA cT hI g x1 r19 hcal) (g_S q381 q382 q35 q383) yd_X6_isKey ⟨Nat.le_of_ble_eq_true rfl, Nat.le_of_ble_eq_true rfl⟩ [] rfl (Nat.le_of_ble_eq_true rfl) hl.1 ⟨Nat.le_refl _, Nat.le_refl _⟩ dX6_rekey_19 (fun H locs hP hS => ?_)
    refine lv_if_ne (tgt := 29) hx hb dX6_rekey_22 (by decide) (fun hc => ?_) (fun hc => ?_)
    · have h := ite_f hc h
      refine lv_aload_n hx hb dX6_rekey_29 rfl (lv_at hl 0 rfl) ?_
      refine x_getr hx hb hts inX6 hown hK hP tF_0 (C := RX6) (F := TX6) (N := 5) rfl 0 (by decide) q168 rfl (20 + 15 * 0) rfl dX6_rekey_30 ?_
      refine x_getr hx hb hts inX5 hown hK hP (tT_20 hz0) (C := RX5) (F := TX5) (N := 5) rfl 0 (by decide) q101 rfl (21 + 15 * 0) rfl dX6_rekey_33 ?_
      refine lv_iload_n hx hb dX6_rekey_36 rfl (lv_at hl 1 rfl) ?_
      obtain ⟨r37, hcal, h⟩ := bnd_s h
      refine x_VI (As := [.int x0]) hx hb hml hown hts hK hP hS (ct_X3_keyOf l D a cA cT hI g 0 x0 hz0 r37 hcal) (tT_21 hz0) (C := RX3) (F := TX3) (N := 4) rfl (g_V q314 q244 q245 q37 q246) yd_X3_keyOf ⟨Nat.le_of_ble_eq_true rfl, Nat.le_of_ble_eq_true rfl⟩ [] rfl (Nat.le_of_ble_eq_true rfl) hl.1 ⟨Nat.le_refl _, Nat.le_refl _⟩ dX6_rekey_37 (fun H locs hP hS => ?_)
      refine lv_istore_n (lv' := [(3, .int r37), (0, .ref (a 0)), (1, .int x0), (2, .int x1)]) hx hb dX6_rekey_40 rfl hl (by decide) rfl (fun ls hl => ?_)
      refine lv_iload_n hx hb dX6_rekey_41 rfl (lv_at hl 0 rfl) ?_
      refine lv_iload_n hx hb dX6_rekey_42 rfl (lv_at hl 3 rfl) ?_
      refine lv_icmp_ne (tgt := 50) hx hb dX6_rekey_43 (by decide) (fun hc => ?_) (fun hc => ?_)
      · have h := ite_f hc h
        refine lv_aload_n hx hb dX6_rekey_50 rfl (lv_at hl 1 rfl) ?_
        refine x_getr hx hb hts inX6 hown hK hP tF_0 (C := RX6) (F := TX6) (N := 5) rfl 0 (by decide) q168 rfl (20 + 15 * 0) rfl dX6_rekey_51 ?_
        refine x_getr hx hb hts inX5 hown hK hP (tT_20 hz0) (C := RX5) (F := TX5) (N := 5) rfl 0 (by decide) q101 rfl (21 + 15 * 0) rfl dX6_rekey_54 ?_
        refine lv_iload_n hx hb dX6_rekey_57 rfl (lv_at hl 2 rfl) ?_
        obtain ⟨r58, hcal, h⟩ := bnd_s h
        refine x_VI (As := [.int x0]) hx hb hml hown hts hK hP hS (ct_X3_placeOf l D a cA cT hI g 0 x0 hz0 r58 hcal) (tT_21 hz0) (C := RX3) (F := TX3) (N := 4) rfl (g_V q319 q225 q226 q37 q227) yd_X3_placeOf ⟨Nat.le_of_ble_eq_true rfl, Nat.le_of_ble_eq_true rfl⟩ [] rfl (Nat.le_of_ble_eq_true rfl) hl.1 ⟨Nat.le_refl _, Nat.le_refl _⟩ dX6_rekey_58 (fun H locs hP hS => ?_)
        refine lv_istore (lv' := [(4, .int r58), (3, .int r37), (0, .ref (a 0)), (1, .int x0), (2, .int x1)]) hx hb dX6_rekey_61 hl (by decide) rfl (fun ls hl => ?_)
        refine lv_iload hx hb dX6_rekey_63 (lv_at hl 0 rfl) ?_
        refine lv_bipush (v := (61 : Int32)) hx hb dX6_rekey_65 (by decide) ?_
        refine lv_icmp_ne (tgt := 75) hx hb dX6_rekey_67 (by decide) (fun hc => ?_) (fun hc => ?_)
        · have h := ite_f hc h
          refine lv_aload_n hx hb dX6_rekey_75 rfl (lv_at hl 2 rfl) ?_
          refine x_getr hx hb hts inX6 hown hK hP tF_0 (C := RX6) (F := TX6) (N := 5) rfl 0 (by decide) q168 rfl (20 + 15 * 0) rfl dX6_rekey_76 ?_
          refine lv_iload_n hx hb dX6_rekey_79 rfl (lv_at hl 4 rfl) ?_
          obtain ⟨r80, hcal, h⟩ := bnd_s h
          refine x_VI (As := [.int x1]) hx hb hml hown hts hK hP hS (ct_X5_home l D a cA cT hI g 0 x1 hz0 r80 hcal) (tT_20 hz0) (C := RX5) (F := TX5) (N := 5) rfl (g_V q320 q258 q259 q36 q260) yd_X5_home ⟨Nat.le_of_ble_eq_true rfl, Nat.le_of_ble_eq_true rfl⟩ [] rfl (Nat.le_of_ble_eq_true rfl) hl.1 ⟨Nat.le_refl _, Nat.le_refl _⟩ dX6_rekey_80 (fun H locs hP hS => ?_)
          refine lv_istore (lv' := [(5, .int r80), (4, .int r58), (3, .int r37), (0, .ref (a 0)), (1, .int x0), (2, .int x1)]) hx hb dX6_rekey_83 hl (by decide) rfl (fun ls hl => ?_)
          refine lv_iload hx hb dX6_rekey_85 (lv_at hl 0 rfl) ?_
          refine lv_sipush (v := (-1005 : Int32)) hx hb dX6_rekey_87 (by decide) ?_
          refine lv_icmp_ne (tgt := 97) hx hb dX6_rekey_90 (by decide) (fun hc => ?_) (fun hc => ?_)
          · have h := ite_f hc h
            refine lv_iload hx hb dX6_rekey_97 (lv_at hl 0 rfl) ?_
            refine lv_iload hx hb dX6_rekey_99 (lv_at hl 1 rfl) ?_
            refine lv_icmp_eq (tgt := 125) hx hb dX6_rekey_101 (by decide) (fun hc => ?_) (fun hc => ?_)
            · have h := ite_t hc h
              refine lv_aload_n hx hb dX6_rekey_125 rfl (lv_at hl 3 rfl) ?_
              refine x_getr hx hb hts inX6 hown hK hP tF_0 (C := RX6) (F := TX6) (N := 5) rfl 1 (by decide) q169 rfl 1 rfl dX6_rekey_126 ?_
              refine lv_aload_n hx hb dX6_rekey_129 rfl (lv_at hl 3 rfl) ?_
              refine x_getr hx hb hts inX6 hown hK hP tF_0 (C := RX6) (F := TX6) (N := 5) rfl 0 (by decide) q168 rfl (20 + 15 * 0) rfl dX6_rekey_130 ?_
              obtain ⟨g133, hcal, h⟩ := bnd_s h
              refine x_VV (As := [.ref (a (20 + 15 * 0))]) hx hb hml hown hts hK hP hS (ct_X1_record l D a cA cT hI g 0 hz0 g133 hcal) tF_1 (C := RX1) (F := TX1) (N := 4) rfl (g_V q412 q413 q414 q40 q415) yd_X1_record ⟨Nat.le_of_ble_eq_true rfl, Nat.le_of_ble_eq_true rfl⟩ [] rfl (Nat.le_of_ble_eq_true rfl) hl.1 ⟨Nat.le_refl _, Nat.le_refl _⟩ dX6_rekey_133 (fun H locs hP hS => ?_)
              refine lv_aload_n hx hb dX6_rekey_136 rfl (lv_at hl 3 rfl) ?_
              refine x_getr hx hb hts inX6 hown hK hP tF_0 (C := RX6) (F := TX6) (N := 5) rfl 0 (by decide) q168 rfl (20 + 15 * 0) rfl dX6_rekey_137 ?_
              refine x_getr hx hb hts inX5 hown hK hP (tT_20 hz0) (C := RX5) (F := TX5) (N := 5) rfl 0 (by decide) q101 rfl (21 + 15 * 0) rfl dX6_rekey_140 ?_
              refine lv_iload_n hx hb dX6_rekey_143 rfl (lv_at hl 4 rfl) ?_
              refine lv_iload_n hx hb dX6_rekey_144 rfl (lv_at hl 5 rfl) ?_
              obtain ⟨g145, hcal, h⟩ := bnd_s h
              refine x_VV (As := [.int x0, .int x1]) hx hb hml hown hts hK hP hS (ct_X3_changeKey l D a cA cT hI g133 0 x0 x1 hz0 g145 hcal) (tT_21 hz0) (C := RX3) (F := TX3) (N := 4) rfl (g_V q476 q477 q478 q37 q479) yd_X3_changeKey ⟨Nat.le_of_ble_eq_true rfl, Nat.le_of_ble_eq_true rfl⟩ [] rfl (Nat.le_of_ble_eq_true rfl) hl.1 ⟨Nat.le_refl _, Nat.le_refl _⟩ dX6_rekey_145 (fun H locs hP hS => ?_)
              refine lv_aload_n hx hb dX6_rekey_148 rfl (lv_at hl 3 rfl) ?_
              refine x_getr hx hb hts inX6 hown hK hP tF_0 (C := RX6) (F := TX6) (N := 5) rfl 0 (by decide) q168 rfl (20 + 15 * 0) rfl dX6_rekey_149 ?_
              refine x_getr hx hb hts inX5 hown hK hP (tT_20 hz0) (C := RX5) (F := TX5) (N := 5) rfl 0 (by decide) q101 rfl (21 + 15 * 0) rfl dX6_rekey_152 ?_
              refine lv_iload_n hx hb dX6_rekey_155 rfl (lv_at hl 4 rfl) ?_
              refine lv_iload hx hb dX6_rekey_156 (lv_at hl 0 rfl) ?_
              obtain ⟨g158, hcal, h⟩ := bnd_s h
              refine x_VV (As := [.int x0, .int r80]) hx hb hml hown hts hK hP hS (ct_X3_move l D a cA cT hI g145 0 x0 r80 hz0 g158 hcal) (tT_21 hz0) (C := RX3) (F := TX3) (N := 4) rfl (g_V q471 q464 q465 q37 q466) yd_X3_move ⟨Nat.le_of_ble_eq_true rfl, Nat.le_of_ble_eq_true rfl⟩ [] rfl (Nat.le_of_ble_eq_true rfl) hl.1 ⟨Nat.le_refl _, Nat.le_refl _⟩ dX6_rekey_158 (fun H locs hP hS => ?_)
              refine lv_iload_n hx hb dX6_rekey_161 rfl (lv_at hl 2 rfl) ?_
              obtain ⟨rfl, rfl⟩ := Prod.mk.inj (Option.some.inj h)
              exact hend _ _ _ _ dX6_rekey_162 rfl hP hS
            · have h := ite_f hc h
              refine lv_aload_n hx hb dX6_rekey_104 rfl (lv_at hl 3 rfl) ?_
              refine x_getr hx hb hts inX6 hown hK hP tF_0 (C := RX6) (F := TX6) (N := 5) rfl 0 (by decide) q168 rfl (20 + 15 * 0) rfl dX6_rekey_105 ?_
              refine x_getr hx hb hts inX5 hown hK hP (tT_20 hz0) (C := RX5) (F := TX5) (N := 5) rfl 0 (by decide) q101 rfl (21 + 15 * 0) rfl dX6_rekey_108 ?_
              refine lv_iload hx hb dX6_rekey_111 (lv_at hl 0 rfl) ?_
              obtain ⟨r113, hcal, h⟩ := bnd_s h
              refine x_VI (As := [.int r80]) hx hb hml hown hts hK hP hS (ct_X3_amountAt l D a cA cT hI g 0 r80 hz0 r113 hcal) (tT_21 hz0) (C := RX3) (F := TX3) (N := 4) rfl (g_V q232 q233 q234 q37 q235) yd_X3_amountAt ⟨Nat.le_of_ble_eq_true rfl, Nat.le_of_ble_eq_true rfl⟩ [] rfl (Nat.le_of_ble_eq_true rfl) hl.1 ⟨Nat.le_refl _, Nat.le_refl _⟩ dX6_rekey_113 (fun H locs hP hS => ?_)
              refine lv_bipush (v := (30 : Int32)) hx hb dX6_rekey_116 (by decide) ?_
              refine lv_icmp_lt (tgt := 125) hx hb dX6_rekey_118 (by decide) (fun hc => ?_) (fun hc => ?_)
              · have h := ite_t hc h
                refine lv_aload_n hx hb dX6_rekey_125 rfl (lv_at hl 3 rfl) ?_
                refine x_getr hx hb hts inX6 hown hK hP tF_0 (C := RX6) (F := TX6) (N := 5) rfl 1 (by decide) q169 rfl 1 rfl dX6_rekey_126 ?_
                refine lv_aload_n hx hb dX6_rekey_129 rfl (lv_at hl 3 rfl) ?_
                refine x_getr hx hb hts inX6 hown hK hP tF_0 (C := RX6) (F := TX6) (N := 5) rfl 0 (by decide) q168 rfl (20 + 15 * 0) rfl dX6_rekey_130 ?_
                obtain ⟨g133, hcal, h⟩ := bnd_s h
                refine x_VV (As := [.ref (a (20 + 15 * 0))]) hx hb hml hown hts hK hP hS (ct_X1_record l D a cA cT hI g 0 hz0 g133 hcal) tF_1 (C := RX1) (F := TX1) (N := 4) rfl (g_V q412 q413 q414 q40 q415) yd_X1_record ⟨Nat.le_of_ble_eq_true rfl, Nat.le_of_ble_eq_true rfl⟩ [] rfl (Nat.le_of_ble_eq_true rfl) hl.1 ⟨Nat.le_refl _, Nat.le_refl _⟩ dX6_rekey_133 (fun H locs hP hS => ?_)
                refine lv_aload_n hx hb dX6_rekey_136 rfl (lv_at hl 3 rfl) ?_
                refine x_getr hx hb hts inX6 hown hK hP tF_0 (C := RX6) (F := TX6) (N := 5) rfl 0 (by decide) q168 rfl (20 + 15 * 0) rfl dX6_rekey_137 ?_
                refine x_getr hx hb hts inX5 hown hK hP (tT_20 hz0) (C := RX5) (F := TX5) (N := 5) rfl 0 (by decide) q101 rfl (21 + 15 * 0) rfl dX6_rekey_140 ?_
                refine lv_iload_n hx hb dX6_rekey_143 rfl (lv_at hl 4 rfl) ?_
                refine lv_iload_n hx hb dX6_rekey_144 rfl (lv_at hl 5 rfl) ?_
                obtain ⟨g145, hcal, h⟩ := bnd_s h
                refine x_VV (As := [.int x0, .int x1]) hx hb hml hown hts hK hP hS (ct_X3_changeKey l D a cA cT hI g133 0 x0 x1 hz0 g145 hcal) (tT_21 hz0) (C := RX3) (F := TX3) (N := 4) rfl (g_V q476 q477 q478 q37 q479) yd_X3_changeKey ⟨Nat.le_of_ble_eq_true rfl, Nat.le_of_ble_eq_true rfl⟩ [] rfl (Nat.le_of_ble_eq_true rfl) hl.1 ⟨Nat.le_refl _, Nat.le_refl _⟩ dX6_rekey_145 (fun H locs hP hS => ?_)
                refine lv_aload_n hx hb dX6_rekey_148 rfl (lv_at hl 3 rfl) ?_
                refine x_getr hx hb hts inX6 hown hK hP tF_0 (C := RX6) (F := TX6) (N := 5) rfl 0 (by decide) q168 rfl (20 + 15 * 0) rfl dX6_rekey_149 ?_
                refine x_getr hx hb hts inX5 hown hK hP (tT_20 hz0) (C := RX5) (F := TX5) (N := 5) rfl 0 (by decide) q101 rfl (21 + 15 * 0) rfl dX6_rekey_152 ?_
                refine lv_iload_n hx hb dX6_rekey_155 rfl (lv_at hl 4 rfl) ?_
                refine lv_iload hx hb dX6_rekey_156 (lv_at hl 0 rfl) ?_
                obtain ⟨g158, hcal, h⟩ := bnd_s h
                refine x_VV (As := [.int x0, .int r80]) hx hb hml hown hts hK hP hS (ct_X3_move l D a cA cT hI g145 0 x0 r80 hz0 g158 hcal) (tT_21 hz0) (C := RX3) (F := TX3) (N := 4) rfl (g_V q471 q464 q465 q37 q466) yd_X3_move ⟨Nat.le_of_ble_eq_true rfl, Nat.le_of_ble_eq_true rfl⟩ [] rfl (Nat.le_of_ble_eq_true rfl) hl.1 ⟨Nat.le_refl _, Nat.le_refl _⟩ dX6_rekey_158 (fun H locs hP hS => ?_)
                refine lv_iload_n hx hb dX6_rekey_161 rfl (lv_at hl 2 rfl) ?_
                obtain ⟨rfl, rfl⟩ := Prod.mk.inj (Option.some.inj h)
                exact hend _ _ _ _ dX6_rekey_162 rfl hP hS
              · have h := ite_f hc h
                refine lv_sipush (v := (-1003 : Int32)) hx hb dX6_rekey_121 (by decide) ?_
                obtain ⟨rfl, rfl⟩ := Prod.mk.inj (Option.some.inj h)
                exact hend _ _ _ _ dX6_rekey_124 rfl hP hS
          · have h := ite_t hc h
            refine lv_sipush (v := (-1004 : Int32)) hx hb dX6_rekey_93 (by decide) ?_
            obtain ⟨rfl, rfl⟩ := Prod.mk.inj (Option.some.inj h)
            exact hend _ _ _ _ dX6_rekey_96 rfl hP hS
        · have h := ite_t hc h
          refine lv_bipush (v := (61 : Int32)) hx hb dX6_rekey_70 (by decide) ?_
          refine lv_goto (tgt := 83) hx hb dX6_rekey_72 (by decide) ?_
          refine lv_istore (lv' := [(5, .int (61 : Int32)), (4, .int r58), (3, .int r37), (0, .ref (a 0)), (1, .int x0), (2, .int x1)]) hx hb dX6_rekey_83 hl (by decide) rfl (fun ls hl => ?_)
          refine lv_iload hx hb dX6_rekey_85 (lv_at hl 0 rfl) ?_
          refine lv_sipush (v := (-1005 : Int32)) hx hb dX6_rekey_87 (by decide) ?_
          refine lv_icmp_ne (tgt := 97) hx hb dX6_rekey_90 (by decide) (fun hc => ?_) (fun hc => ?_)
          · have h := ite_f hc h
            refine lv_iload hx hb dX6_rekey_97 (lv_at hl 0 rfl) ?_
            refine lv_iload hx hb dX6_rekey_99 (lv_at hl 1 rfl) ?_
            refine lv_icmp_eq (tgt := 125) hx hb dX6_rekey_101 (by decide) (fun hc => ?_) (fun hc => ?_)
            · have h := ite_t hc h
              refine lv_aload_n hx hb dX6_rekey_125 rfl (lv_at hl 3 rfl) ?_
              refine x_getr hx hb hts inX6 hown hK hP tF_0 (C := RX6) (F := TX6) (N := 5) rfl 1 (by decide) q169 rfl 1 rfl dX6_rekey_126 ?_
              refine lv_aload_n hx hb dX6_rekey_129 rfl (lv_at hl 3 rfl) ?_
              refine x_getr hx hb hts inX6 hown hK hP tF_0 (C := RX6) (F := TX6) (N := 5) rfl 0 (by decide) q168 rfl (20 + 15 * 0) rfl dX6_rekey_130 ?_
              obtain ⟨g133, hcal, h⟩ := bnd_s h
              refine x_VV (As := [.ref (a (20 + 15 * 0))]) hx hb hml hown hts hK hP hS (ct_X1_record l D a cA cT hI g 0 hz0 g133 hcal) tF_1 (C := RX1) (F := TX1) (N := 4) rfl (g_V q412 q413 q414 q40 q415) yd_X1_record ⟨Nat.le_of_ble_eq_true rfl, Nat.le_of_ble_eq_true rfl⟩ [] rfl (Nat.le_of_ble_eq_true rfl) hl.1 ⟨Nat.le_refl _, Nat.le_refl _⟩ dX6_rekey_133 (fun H locs hP hS => ?_)
              refine lv_aload_n hx hb dX6_rekey_136 rfl (lv_at hl 3 rfl) ?_
              refine x_getr hx hb hts inX6 hown hK hP tF_0 (C := RX6) (F := TX6) (N := 5) rfl 0 (by decide) q168 rfl (20 + 15 * 0) rfl dX6_rekey_137 ?_
              refine x_getr hx hb hts inX5 hown hK hP (tT_20 hz0) (C := RX5) (F := TX5) (N := 5) rfl 0 (by decide) q101 rfl (21 + 15 * 0) rfl dX6_rekey_140 ?_
              refine lv_iload_n hx hb dX6_rekey_143 rfl (lv_at hl 4 rfl) ?_
              refine lv_iload_n hx hb dX6_rekey_144 rfl (lv_at hl 5 rfl) ?_
              obtain ⟨g145, hcal, h⟩ := bnd_s h
              refine x_VV (As := [.int x0, .int x1]) hx hb hml hown hts hK hP hS (ct_X3_changeKey l D a cA cT hI g133 0 x0 x1 hz0 g145 hcal) (tT_21 hz0) (C := RX3) (F := TX3) (N := 4) rfl (g_V q476 q477 q478 q37 q479) yd_X3_changeKey ⟨Nat.le_of_ble_eq_true rfl, Nat.le_of_ble_eq_true rfl⟩ [] rfl (Nat.le_of_ble_eq_true rfl) hl.1 ⟨Nat.le_refl _, Nat.le_refl _⟩ dX6_rekey_145 (fun H locs hP hS => ?_)
              refine lv_aload_n hx hb dX6_rekey_148 rfl (lv_at hl 3 rfl) ?_
              refine x_getr hx hb hts inX6 hown hK hP tF_0 (C := RX6) (F := TX6) (N := 5) rfl 0 (by decide) q168 rfl (20 + 15 * 0) rfl dX6_rekey_149 ?_
              refine x_getr hx hb hts inX5 hown hK hP (tT_20 hz0) (C := RX5) (F := TX5) (N := 5) rfl 0 (by decide) q101 rfl (21 + 15 * 0) rfl dX6_rekey_152 ?_
              refine lv_iload_n hx hb dX6_rekey_155 rfl (lv_at hl 4 rfl) ?_
              refine lv_iload hx hb dX6_rekey_156 (lv_at hl 0 rfl) ?_
              obtain ⟨g158, hcal, h⟩ := bnd_s h
              refine x_VV (As := [.int x0, .int (61 : Int32)]) hx hb hml hown hts hK hP hS (ct_X3_move l D a cA cT hI g145 0 x0 (61 : Int32) hz0 g158 hcal) (tT_21 hz0) (C := RX3) (F := TX3) (N := 4) rfl (g_V q471 q464 q465 q37 q466) yd_X3_move ⟨Nat.le_of_ble_eq_true rfl, Nat.le_of_ble_eq_true rfl⟩ [] rfl (Nat.le_of_ble_eq_true rfl) hl.1 ⟨Nat.le_refl _, Nat.le_refl _⟩ dX6_rekey_158 (fun H locs hP hS => ?_)
              refine lv_iload_n hx hb dX6_rekey_161 rfl (lv_at hl 2 rfl) ?_
              obtain ⟨rfl, rfl⟩ := Prod.mk.inj (Option.some.inj h)
              exact hend _ _ _ _ dX6_rekey_162 rfl hP hS
            · have h := ite_f hc h
              refine lv_aload_n hx hb dX6_rekey_104 rfl (lv_at hl 3 rfl) ?_
              refine x_getr hx hb hts inX6 hown hK hP tF_0 (C := RX6) (F := TX6) (N := 5) rfl 0 (by decide) q168 rfl (20 + 15 * 0) rfl dX6_rekey_105 ?_
              refine x_getr hx hb hts inX5 hown hK hP (tT_20 hz0) (C := RX5) (F := TX5) (N := 5) rfl 0 (by decide) q101 rfl (21 + 15 * 0) rfl dX6_rekey_108 ?_
              refine lv_iload hx hb dX6_rekey_111 (lv_at hl 0 rfl) ?_
              obtain ⟨r113, hcal, h⟩ := bnd_s h
              refine x_VI (As := [.int (61 : Int32)]) hx hb hml hown hts hK hP hS (ct_X3_amountAt l D a cA cT hI g 0 (61 : Int32) hz0 r113 hcal) (tT_21 hz0) (C := RX3) (F := TX3) (N := 4) rfl (g_V q232 q233 q234 q37 q235) yd_X3_amountAt ⟨Nat.le_of_ble_eq_true rfl, Nat.le_of_ble_eq_true rfl⟩ [] rfl (Nat.le_of_ble_eq_true rfl) hl.1 ⟨Nat.le_refl _, Nat.le_refl _⟩ dX6_rekey_113 (fun H locs hP hS => ?_)
              refine lv_bipush (v := (30 : Int32)) hx hb dX6_rekey_116 (by decide) ?_
              refine lv_icmp_lt (tgt := 125) hx hb dX6_rekey_118 (by decide) (fun hc => ?_) (fun hc => ?_)
              · have h := ite_t hc h
                refine lv_aload_n hx hb dX6_rekey_125 rfl (lv_at hl 3 rfl) ?_
                refine x_getr hx hb hts inX6 hown hK hP tF_0 (C := RX6) (F := TX6) (N := 5) rfl 1 (by decide) q169 rfl 1 rfl dX6_rekey_126 ?_
                refine lv_aload_n hx hb dX6_rekey_129 rfl (lv_at hl 3 rfl) ?_
                refine x_getr hx hb hts inX6 hown hK hP tF_0 (C := RX6) (F := TX6) (N := 5) rfl 0 (by decide) q168 rfl (20 + 15 * 0) rfl dX6_rekey_130 ?_
                obtain ⟨g133, hcal, h⟩ := bnd_s h
                refine x_VV (As := [.ref (a (20 + 15 * 0))]) hx hb hml hown hts hK hP hS (ct_X1_record l D a cA cT hI g 0 hz0 g133 hcal) tF_1 (C := RX1) (F := TX1) (N := 4) rfl (g_V q412 q413 q414 q40 q415) yd_X1_record ⟨Nat.le_of_ble_eq_true rfl, Nat.le_of_ble_eq_true rfl⟩ [] rfl (Nat.le_of_ble_eq_true rfl) hl.1 ⟨Nat.le_refl _, Nat.le_refl _⟩ dX6_rekey_133 (fun H locs hP hS => ?_)
                refine lv_aload_n hx hb dX6_rekey_136 rfl (lv_at hl 3 rfl) ?_
                refine x_getr hx hb hts inX6 hown hK hP tF_0 (C := RX6) (F := TX6) (N := 5) rfl 0 (by decide) q168 rfl (20 + 15 * 0) rfl dX6_rekey_137 ?_
                refine x_getr hx hb hts inX5 hown hK hP (tT_20 hz0) (C := RX5) (F := TX5) (N := 5) rfl 0 (by decide) q101 rfl (21 + 15 * 0) rfl dX6_rekey_140 ?_
                refine lv_iload_n hx hb dX6_rekey_143 rfl (lv_at hl 4 rfl) ?_
                refine lv_iload_n hx hb dX6_rekey_144 rfl (lv_at hl 5 rfl) ?_
                obtain ⟨g145, hcal, h⟩ := bnd_s h
                refine x_VV (As := [.int x0, .int x1]) hx hb hml hown hts hK hP hS (ct_X3_changeKey l D a cA cT hI g133 0 x0 x1 hz0 g145 hcal) (tT_21 hz0) (C := RX3) (F := TX3) (N := 4) rfl (g_V q476 q477 q478 q37 q479) yd_X3_changeKey ⟨Nat.le_of_ble_eq_true rfl, Nat.le_of_ble_eq_true rfl⟩ [] rfl (Nat.le_of_ble_eq_true rfl) hl.1 ⟨Nat.le_refl _, Nat.le_refl _⟩ dX6_rekey_145 (fun H locs hP hS => ?_)
                refine lv_aload_n hx hb dX6_rekey_148 rfl (lv_at hl 3 rfl) ?_
                refine x_getr hx hb hts inX6 hown hK hP tF_0 (C := RX6) (F := TX6) (N := 5) rfl 0 (by decide) q168 rfl (20 + 15 * 0) rfl dX6_rekey_149 ?_
                refine x_getr hx hb hts inX5 hown hK hP (tT_20 hz0) (C := RX5) (F := TX5) (N := 5) rfl 0 (by decide) q101 rfl (21 + 15 * 0) rfl dX6_rekey_152 ?_
                refine lv_iload_n hx hb dX6_rekey_155 rfl (lv_at hl 4 rfl) ?_
                refine lv_iload hx hb dX6_rekey_156 (lv_at hl 0 rfl) ?_
                obtain ⟨g158, hcal, h⟩ := bnd_s h
                refine x_VV (As := [.int x0, .int (61 : Int32)]) hx hb hml hown hts hK hP hS (ct_X3_move l D a cA cT hI g145 0 x0 (61 : Int32) hz0 g158 hcal) (tT_21 hz0) (C := RX3) (F := TX3) (N := 4) rfl (g_V q471 q464 q465 q37 q466) yd_X3_move ⟨Nat.le_of_ble_eq_true rfl, Nat.le_of_ble_eq_true rfl⟩ [] rfl (Nat.le_of_ble_eq_true rfl) hl.1 ⟨Nat.le_refl _, Nat.le_refl _⟩ dX6_rekey_158 (fun H locs hP hS => ?_)
                refine lv_iload_n hx hb dX6_rekey_161 rfl (lv_at hl 2 rfl) ?_
                obtain ⟨rfl, rfl⟩ := Prod.mk.inj (Option.some.inj h)
                exact hend _ _ _ _ dX6_rekey_162 rfl hP hS
              · have h := ite_f hc h
                refine lv_sipush (v := (-1003 : Int32)) hx hb dX6_rekey_121 (by decide) ?_
                obtain ⟨rfl, rfl⟩ := Prod.mk.inj (Option.some.inj h)
                exact hend _ _ _ _ dX6_rekey_124 rfl hP hS
          · have h := ite_t hc h
            refine lv_sipush (v := (-1004 : Int32)) hx hb dX6_rekey_93 (by decide) ?_
            obtain ⟨rfl, rfl⟩ := Prod.mk.inj (Option.some.inj h)
            exact hend _ _ _ _ dX6_rekey_96 rfl hP hS
      · have h := ite_t hc h
        refine lv_sipush (v := (-1005 : Int32)) hx hb dX6_rekey_46 (by decide) ?_
        obtain ⟨rfl, rfl⟩ := Prod.mk.inj (Option.some.inj h)
        exact hend _ _ _ _ dX6_rekey_49 rfl hP hS
    · have h := ite_t hc h
      refine lv_sipush (v := (-1002 : Int32)) hx hb dX6_rekey_25 (by decide) ?_
      obtain ⟨rfl, rfl⟩ := Prod.mk.inj (Option.some.inj h)
      exact hend _ _ _ _ dX6_rekey_28 rfl hP hS
  · have h := ite_t hc h
    refine lv_sipush (v := (-1001 : Int32)) hx hb dX6_rekey_14 (by decide) ?_
    obtain ⟨rfl, rfl⟩ := Prod.mk.inj (Option.some.inj h)
    exact hend _ _ _ _ dX6_rekey_17 rfl hP hS
set_option maxHeartbeats 4000000 in
set_option maxRecDepth 100000 in
theorem ct_X6_areBounds (l : Launch) (D : va_G) (a : Nat → Nat) (cA cT : ClassId) (hI : WI a TC) (g : MG) (x0 : Int32) (x1 : Int32)  (r : Int32) (h : m_X6_areBounds g x0 x1 = some r) :
    CtI l D a cA cT TC yX6_areBounds (Cond.code yX6_areBounds cX6_areBounds 2 (some .boolean) :: lw_all) (rmm 1 20) [.int x0, .int x1] g r g := by
  refine CtI.of (by decide +kernel) (Nat.le_of_ble_eq_true rfl) ?_
  intro p e s m args below meth c Q ls hx hb hml hown hts hK hP hS hl hend
  have hl : lv_has ls 2 [(0, .int x0), (1, .int x1)] := hl
  unfold m_X6_areBounds at h
  refine lv_iload_n hx hb dX6_areBounds_0 rfl (lv_at hl 0 rfl) ?_
  obtain ⟨r1, hcal, h⟩ := bnd_s h
  refine x_SI (As := [.int x0]) hx hb hml hown hts hK hP hS (ct_X6_isKey l D a cA cT hI g x0 r1 hcal) (g_S q381 q382 q35 q383) yd_X6_isKey ⟨Nat.le_of_ble_eq_true rfl, Nat.le_of_ble_eq_true rfl⟩ [] rfl (Nat.le_of_ble_eq_true rfl) hl.1 ⟨Nat.le_refl _, Nat.le_refl _⟩ dX6_areBounds_1 (fun H locs hP hS => ?_)
  refine lv_if_eq (tgt := 23) hx hb dX6_areBounds_4 (by decide) (fun hc => ?_) (fun hc => ?_)
  · have h := ite_t hc h
    refine lv_iconst (v := (0 : Int32)) hx hb dX6_areBounds_23 (by decide) ?_
    obtain rfl := Option.some.inj h
    exact hend _ _ _ _ dX6_areBounds_24 rfl hP hS
  · have h := ite_f hc h
    refine lv_iload_n hx hb dX6_areBounds_7 rfl (lv_at hl 1 rfl) ?_
    refine lv_iload_n hx hb dX6_areBounds_8 rfl (lv_at hl 0 rfl) ?_
    refine lv_icmp_le (tgt := 23) hx hb dX6_areBounds_9 (by decide) (fun hc => ?_) (fun hc => ?_)
    · have h := ite_t hc h
      refine lv_iconst (v := (0 : Int32)) hx hb dX6_areBounds_23 (by decide) ?_
      obtain rfl := Option.some.inj h
      exact hend _ _ _ _ dX6_areBounds_24 rfl hP hS
    · have h := ite_f hc h
      refine lv_iload_n hx hb dX6_areBounds_12 rfl (lv_at hl 1 rfl) ?_
      refine lv_sipush (v := (1000 : Int32)) hx hb dX6_areBounds_13 (by decide) ?_
      refine lv_icmp_gt (tgt := 23) hx hb dX6_areBounds_16 (by decide) (fun hc => ?_) (fun hc => ?_)
      · have h := ite_t hc h
        refine lv_iconst (v := (0 : Int32)) hx hb dX6_areBounds_23 (by decide) ?_
        obtain rfl := Option.some.inj h
        exact hend _ _ _ _ dX6_areBounds_24 rfl hP hS
      · have h := ite_f hc h
        refine lv_iconst (v := (1 : Int32)) hx hb dX6_areBounds_19 (by decide) ?_
        refine lv_goto (tgt := 24) hx hb dX6_areBounds_20 (by decide) ?_
        obtain rfl := Option.some.inj h
        exact hend _ _ _ _ dX6_areBounds_24 rfl hP hS
