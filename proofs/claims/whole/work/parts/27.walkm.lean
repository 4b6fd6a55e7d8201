set_option maxHeartbeats 4000000 in
set_option maxRecDepth 100000 in
theorem ct_X7_addSlice (l : Launch) (D : va_G) (a : Nat → Nat) (cA cT : ClassId) (hI : WI a TM) (g : MG) (x0 : Int32) (x1 : Int32)  (r : Int32) (g' : MG) (h : m_X7_addSlice g x0 x1 = some (r, g')) :
    CtI l D a cA cT TM yX7_addSlice (Cond.code yX7_addSlice cX7_addSlice 4 (some .int) :: lw_all) (rmm 3 66) [.ref (a 0), .int x0, .int x1] g r g' := by
  refine CtI.of (by decide +kernel) (Nat.le_of_ble_eq_true rfl) ?_
  intro p e s m args below meth c Q ls hx hb hml hown hts hK hP hS hl hend
  have hl : lv_has ls 4 [(0, .ref (a 0)), (1, .int x0), (2, .int x1)] := hl
  unfold m_X7_addSlice at h
  refine lv_aload_n hx hb dX7_addSlice_0 rfl (lv_at hl 0 rfl) ?_
  refine lv_iload_n hx hb dX7_addSlice_1 rfl (lv_at hl 1 rfl) ?_
  refine lv_iload_n hx hb dX7_addSlice_2 rfl (lv_at hl 2 rfl) ?_
  obtain ⟨r3, hcal, h⟩ := bnd_s h
  refine x_VI (As := [.int x0, .int x1]) hx hb hml hown hts hK hP hS (ct_X7_areBounds l D a cA cT hI g x0 x1 r3 hcal) tM_0 (C := RX7) (F := TX7) (N := 18) rfl (g_V q841 q842 q42 q77 q843) yd_X7_areBounds ⟨Nat.le_of_ble_eq_true rfl, Nat.le_of_ble_eq_true rfl⟩ [] rfl (Nat.le_of_ble_eq_true rfl) hl.1 ⟨Nat.le_refl _, Nat.le_refl _⟩ dX7_addSlice_3 (fun H locs hP hS => ?_)
  refine lv_if_ne (tgt := 13) hx hb dX7_addSlice_6 (by decide) (fun hc => ?_) (fun hc => ?_)
  · have h := ite_f hc h
    refine lv_aload_n hx hb dX7_addSlice_13 rfl (lv_at hl 0 rfl) ?_
    refine lv_iload_n hx hb dX7_addSlice_14 rfl (lv_at hl 1 rfl) ?_
    refine lv_iload_n hx hb dX7_addSlice_15 rfl (lv_at hl 2 rfl) ?_
    obtain ⟨r16, hcal, h⟩ := bnd_s h
    refine x_VI (As := [.int x0, .int x1]) hx hb hml hown hts hK hP hS (ct_X7_isTaken l D a cA cT hI g x0 x1 r16 hcal) tM_0 (C := RX7) (F := TX7) (N := 18) rfl (g_V q844 q845 q43 q77 q846) yd_X7_isTaken ⟨Nat.le_of_ble_eq_true rfl, Nat.le_of_ble_eq_true rfl⟩ [] rfl (Nat.le_of_ble_eq_true rfl) hl.1 ⟨Nat.le_refl _, Nat.le_refl _⟩ dX7_addSlice_16 (fun H locs hP hS => ?_)
    refine lv_if_ne (tgt := 42) hx hb dX7_addSlice_19 (by decide) (fun hc => ?_) (fun hc => ?_)
    · have h := ite_f hc h
      refine lv_sipush (v := (-1004 : Int32)) hx hb dX7_addSlice_42 (by decide) ?_
      obtain ⟨rfl, rfl⟩ := Prod.mk.inj (Option.some.inj h)
      exact hend _ _ _ _ dX7_addSlice_45 rfl hP hS
    · have h := ite_t hc h
      refine lv_aload_n hx hb dX7_addSlice_22 rfl (lv_at hl 0 rfl) ?_
      refine x_getr hx hb hts inX7 hown hK hP tM_0 (C := RX7) (F := TX7) (N := 18) rfl 0 (by decide) q758 rfl 1 rfl dX7_addSlice_23 ?_
      refine lv_iconst (v := (4 : Int32)) hx hb dX7_addSlice_26 (by decide) ?_
      obtain ⟨hz, h⟩ := ite_n h
      refine x_ald hx hb hK hP tM_1 hz dX7_addSlice_27 ?_
      refine lv_if_ne (tgt := 46) hx hb dX7_addSlice_28 (by decide) (fun hc => ?_) (fun hc => ?_)
      · have h := ite_f hc h
        refine lv_aload_n hx hb dX7_addSlice_46 rfl (lv_at hl 0 rfl) ?_
        obtain ⟨r47, hcal, h⟩ := bnd_s h
        refine x_VI (As := []) hx hb hml hown hts hK hP hS (ct_X7_isFullOfSlices l D a cA cT hI g r47 hcal) tM_0 (C := RX7) (F := TX7) (N := 18) rfl (g_V q850 q851 q45 q77 q852) yd_X7_isFullOfSlices ⟨Nat.le_of_ble_eq_true rfl, Nat.le_of_ble_eq_true rfl⟩ [] rfl (Nat.le_of_ble_eq_true rfl) hl.1 ⟨Nat.le_refl _, Nat.le_refl _⟩ dX7_addSlice_47 (fun H locs hP hS => ?_)
        refine lv_if_eq (tgt := 57) hx hb dX7_addSlice_50 (by decide) (fun hc => ?_) (fun hc => ?_)
        · have h := ite_t hc h
          refine lv_aload_n hx hb dX7_addSlice_57 rfl (lv_at hl 0 rfl) ?_
          obtain ⟨g58, hcal, h⟩ := bnd_s h
          refine x_VV (As := []) hx hb hml hown hts hK hP hS (ct_X7_record l D a cA cT hI g g58 hcal) tM_0 (C := RX7) (F := TX7) (N := 18) rfl (g_V q816 q817 q39 q77 q818) yd_X7_record ⟨Nat.le_of_ble_eq_true rfl, Nat.le_of_ble_eq_true rfl⟩ [] rfl (Nat.le_of_ble_eq_true rfl) hl.1 ⟨Nat.le_refl _, Nat.le_refl _⟩ dX7_addSlice_58 (fun H locs hP hS => ?_)
          refine lv_aload_n hx hb dX7_addSlice_61 rfl (lv_at hl 0 rfl) ?_
          refine lv_iload_n hx hb dX7_addSlice_62 rfl (lv_at hl 1 rfl) ?_
          refine lv_iload_n hx hb dX7_addSlice_63 rfl (lv_at hl 2 rfl) ?_
          obtain ⟨r64, g64, hcal, h⟩ := bnd2_s h
          refine x_VI (As := [.int x0, .int x1]) hx hb hml hown hts hK hP hS (ct_X7_cutSlice l D a cA cT hI g58 x0 x1 r64 g64 hcal) tM_0 (C := RX7) (F := TX7) (N := 18) rfl (g_V q856 q857 q47 q77 q858) yd_X7_cutSlice ⟨Nat.le_of_ble_eq_true rfl, Nat.le_of_ble_eq_true rfl⟩ [] rfl (Nat.le_of_ble_eq_true rfl) hl.1 ⟨Nat.le_refl _, Nat.le_refl _⟩ dX7_addSlice_64 (fun H locs hP hS => ?_)
          refine lv_istore_n (lv' := [(3, .int r64), (0, .ref (a 0)), (1, .int x0), (2, .int x1)]) hx hb dX7_addSlice_67 rfl hl (by decide) rfl (fun ls hl => ?_)
          refine lv_aload_n hx hb dX7_addSlice_68 rfl (lv_at hl 1 rfl) ?_
          refine lv_bipush (v := (60 : Int32)) hx hb dX7_addSlice_69 (by decide) ?_
          refine lv_iload_n hx hb dX7_addSlice_71 rfl (lv_at hl 0 rfl) ?_
          refine lv_iload_n hx hb dX7_addSlice_72 rfl (lv_at hl 2 rfl) ?_
          refine lv_iload_n hx hb dX7_addSlice_73 rfl (lv_at hl 3 rfl) ?_
          obtain ⟨g74, hcal, h⟩ := bnd_s h
          refine x_VV (As := [.int (60 : Int32), .int r64, .int x0, .int x1]) hx hb hml hown hts hK hP hS (ct_X7_moveBetween l D a cA cT hI g64 (60 : Int32) r64 x0 x1 g74 hcal) tM_0 (C := RX7) (F := TX7) (N := 18) rfl (g_V q859 q860 q48 q77 q861) yd_X7_moveBetween ⟨Nat.le_of_ble_eq_true rfl, Nat.le_of_ble_eq_true rfl⟩ [] rfl (Nat.le_of_ble_eq_true rfl) hl.1 ⟨Nat.le_refl _, Nat.le_refl _⟩ dX7_addSlice_74 (fun H locs hP hS => ?_)
          refine lv_iload_n hx hb dX7_addSlice_77 rfl (lv_at hl 0 rfl) ?_
          obtain ⟨rfl, rfl⟩ := Prod.mk.inj (Option.some.inj h)
          exact hend _ _ _ _ dX7_addSlice_78 rfl hP hS
        · have h := ite_f hc h
          refine lv_sipush (v := (-1003 : Int32)) hx hb dX7_addSlice_53 (by decide) ?_
          obtain ⟨rfl, rfl⟩ := Prod.mk.inj (Option.some.inj h)
          exact hend _ _ _ _ dX7_addSlice_56 rfl hP hS
      · have h := ite_t hc h
        refine lv_aload_n hx hb dX7_addSlice_31 rfl (lv_at hl 0 rfl) ?_
        refine lv_bipush (v := (60 : Int32)) hx hb dX7_addSlice_32 (by decide) ?_
        refine lv_iload_n hx hb dX7_addSlice_34 rfl (lv_at hl 1 rfl) ?_
        refine lv_iload_n hx hb dX7_addSlice_35 rfl (lv_at hl 2 rfl) ?_
        obtain ⟨r36, hcal, h⟩ := bnd_s h
        refine x_VI (As := [.int (60 : Int32), .int x0, .int x1]) hx hb hml hown hts hK hP hS (ct_X7_rowsBetween l D a cA cT hI g (60 : Int32) x0 x1 r36 hcal) tM_0 (C := RX7) (F := TX7) (N := 18) rfl (g_V q847 q848 q44 q77 q849) yd_X7_rowsBetween ⟨Nat.le_of_ble_eq_true rfl, Nat.le_of_ble_eq_true rfl⟩ [] rfl (Nat.le_of_ble_eq_true rfl) hl.1 ⟨Nat.le_refl _, Nat.le_refl _⟩ dX7_addSlice_36 (fun H locs hP hS => ?_)
        refine lv_if_le (tgt := 46) hx hb dX7_addSlice_39 (by decide) (fun hc => ?_) (fun hc => ?_)
        · have h := ite_t hc h
          refine lv_aload_n hx hb dX7_addSlice_46 rfl (lv_at hl 0 rfl) ?_
          obtain ⟨r47, hcal, h⟩ := bnd_s h
          refine x_VI (As := []) hx hb hml hown hts hK hP hS (ct_X7_isFullOfSlices l D a cA cT hI g r47 hcal) tM_0 (C := RX7) (F := TX7) (N := 18) rfl (g_V q850 q851 q45 q77 q852) yd_X7_isFullOfSlices ⟨Nat.le_of_ble_eq_true rfl, Nat.le_of_ble_eq_true rfl⟩ [] rfl (Nat.le_of_ble_eq_true rfl) hl.1 ⟨Nat.le_refl _, Nat.le_refl _⟩ dX7_addSlice_47 (fun H locs hP hS => ?_)
          refine lv_if_eq (tgt := 57) hx hb dX7_addSlice_50 (by decide) (fun hc => ?_) (fun hc => ?_)
          · have h := ite_t hc h
            refine lv_aload_n hx hb dX7_addSlice_57 rfl (lv_at hl 0 rfl) ?_
            obtain ⟨g58, hcal, h⟩ := bnd_s h
            refine x_VV (As := []) hx hb hml hown hts hK hP hS (ct_X7_record l D a cA cT hI g g58 hcal) tM_0 (C := RX7) (F := TX7) (N := 18) rfl (g_V q816 q817 q39 q77 q818) yd_X7_record ⟨Nat.le_of_ble_eq_true rfl, Nat.le_of_ble_eq_true rfl⟩ [] rfl (Nat.le_of_ble_eq_true rfl) hl.1 ⟨Nat.le_refl _, Nat.le_refl _⟩ dX7_addSlice_58 (fun H locs hP hS => ?_)
            refine lv_aload_n hx hb dX7_addSlice_61 rfl (lv_at hl 0 rfl) ?_
            refine lv_iload_n hx hb dX7_addSlice_62 rfl (lv_at hl 1 rfl) ?_
            refine lv_iload_n hx hb dX7_addSlice_63 rfl (lv_at hl 2 rfl) ?_
            obtain ⟨r64, g64, hcal, h⟩ := bnd2_s h
            refine x_VI (As := [.int x0, .int x1]) hx hb hml hown hts hK hP hS (ct_X7_cutSlice l D a cA cT hI g58 x0 x1 r64 g64 hcal) tM_0 (C := RX7) (F := TX7) (N := 18) rfl (g_V q856 q857 q47 q77 q858) yd_X7_cutSlice ⟨Nat.le_of_ble_eq_true rfl, Nat.le_of_ble_eq_true rfl⟩ [] rfl (Nat.le_of_ble_eq_true rfl) hl.1 ⟨Nat.le_refl _, Nat.le_refl _⟩ dX7_addSlice_64 (fun H locs hP hS => ?_)
            refine lv_istore_n (lv' := [(3, .int r64), (0, .ref (a 0)), (1, .int x0), (2, .int x1)]) hx hb dX7_addSlice_67 rfl hl (by decide) rfl (fun ls hl => ?_)
            refine lv_aload_n hx hb dX7_addSlice_68 rfl (lv_at hl 1 rfl) ?_
            refine lv_bipush (v := (60 : Int32)) hx hb dX7_addSlice_69 (by decide) ?_
            refine lv_iload_n hx hb dX7_addSlice_71 rfl (lv_at hl 0 rfl) ?_
            refine lv_iload_n hx hb dX7_addSlice_72 rfl (lv_at hl 2 rfl) ?_
            refine lv_iload_n hx hb dX7_addSlice_73 rfl (lv_at hl 3 rfl) ?_
            obtain ⟨g74, hcal, h⟩ := bnd_s h
            refine x_VV (As := [.int (60 : Int32), .int r64, .int x0, .int x1]) hx hb hml hown hts hK hP hS (ct_X7_moveBetween l D a cA cT hI g64 (60 : Int32) r64 x0 x1 g74 hcal) tM_0 (C := RX7) (F := TX7) (N := 18) rfl (g_V q859 q860 q48 q77 q861) yd_X7_moveBetween ⟨Nat.le_of_ble_eq_true rfl, Nat.le_of_ble_eq_true rfl⟩ [] rfl (Nat.le_of_ble_eq_true rfl) hl.1 ⟨Nat.le_refl _, Nat.le_refl _⟩ dX7_addSlice_74 (fun H locs hP hS => ?_)
            refine lv_iload_n hx hb dX7_addSlice_77 rfl (lv_at hl 0 rfl) ?_
            obtain ⟨rfl, rfl⟩ := Prod.mk.inj (Option.some.inj h)
            exact hend _ _ _ _ dX7_addSlice_78 rfl hP hS
          · have h := ite_f hc h
            refine lv_sipush (v := (-1003 : Int32)) hx hb dX7_addSlice_53 (by decide) ?_
            obtain ⟨rfl, rfl⟩ := Prod.mk.inj (Option.some.inj h)
            exact hend _ _ _ _ dX7_addSlice_56 rfl hP hS
        · have h := ite_f hc h
          refine lv_sipush (v := (-1004 : Int32)) hx hb dX7_addSlice_42 (by decide) ?_
          obtain ⟨rfl, rfl⟩ := Prod.mk.inj (Option.some.inj h)
          exact hend _ _ _ _ dX7_addSlice_45 rfl hP hS
  · have h := ite_t hc h
    refine lv_sipush (v := (-1002 : Int32)) hx hb dX7_addSlice_9 (by decide) ?_
    obtain ⟨rfl, rfl⟩ := Prod.mk.inj (Option.some.inj h)
    exact hend _ _ _ _ dX7_addSlice_12 rfl hP hS
set_option maxHeartbeats 4000000 in
set_option maxRecDepth 100000 in
theorem ct_X7_dropSlice (l : Launch) (D : va_G) (a : Nat → Nat) (cA cT : ClassId) (hI : WI a TM) (g : MG) (x0 : Int32)  (r : Int32) (g' : MG) (h : m_X7_dropSlice g x0 = some (r, g')) :
    CtI l D a cA cT TM yX7_dropSlice (Cond.code yX7_dropSlice cX7_dropSlice 3 (some .int) :: lw_all) (rmm 2 47) [.ref (a 0), .int x0] g r g' := by
  refine CtI.of (by decide +kernel) (Nat.le_of_ble_eq_true rfl) ?_
  intro p e s m args below meth c Q ls hx hb hml hown hts hK hP hS hl hend
  have hl : lv_has ls 3 [(0, .ref (a 0)), (1, .int x0)] := hl
  unfold m_X7_dropSlice at h
  refine lv_aload_n hx hb dX7_dropSlice_0 rfl (lv_at hl 0 rfl) ?_
  refine lv_iload_n hx hb dX7_dropSlice_1 rfl (lv_at hl 1 rfl) ?_
  obtain ⟨r2, hcal, h⟩ := bnd_s h
  refine x_VI (As := [.int x0]) hx hb hml hown hts hK hP hS (ct_X7_isSlice l D a cA cT hI g x0 r2 hcal) tM_0 (C := RX7) (F := TX7) (N := 18) rfl (g_V q807 q808 q36 q77 q809) yd_X7_isSlice ⟨Nat.le_of_ble_eq_true rfl, Nat.le_of_ble_eq_true rfl⟩ [] rfl (Nat.le_of_ble_eq_true rfl) hl.1 ⟨Nat.le_refl _, Nat.le_refl _⟩ dX7_dropSlice_2 (fun H locs hP hS => ?_)
  refine lv_if_ne (tgt := 12) hx hb dX7_dropSlice_5 (by decide) (fun hc => ?_) (fun hc => ?_)
  · have h := ite_f hc h
    refine lv_aload_n hx hb dX7_dropSlice_12 rfl (lv_at hl 0 rfl) ?_
    refine lv_iload_n hx hb dX7_dropSlice_13 rfl (lv_at hl 1 rfl) ?_
    obtain ⟨r14, hcal, h⟩ := bnd_s h
    refine x_VI (As := [.int x0]) hx hb hml hown hts hK hP hS (ct_X7_rowsIn l D a cA cT hI g x0 r14 hcal) tM_0 (C := RX7) (F := TX7) (N := 18) rfl (g_V q813 q814 q38 q77 q815) yd_X7_rowsIn ⟨Nat.le_of_ble_eq_true rfl, Nat.le_of_ble_eq_true rfl⟩ [] rfl (Nat.le_of_ble_eq_true rfl) hl.1 ⟨Nat.le_refl _, Nat.le_refl _⟩ dX7_dropSlice_14 (fun H locs hP hS => ?_)
    refine lv_istore_n (lv' := [(2, .int r14), (0, .ref (a 0)), (1, .int x0)]) hx hb dX7_dropSlice_17 rfl hl (by decide) rfl (fun ls hl => ?_)
    refine lv_aload_n hx hb dX7_dropSlice_18 rfl (lv_at hl 1 rfl) ?_
    obtain ⟨g19, hcal, h⟩ := bnd_s h
    refine x_VV (As := []) hx hb hml hown hts hK hP hS (ct_X7_record l D a cA cT hI g g19 hcal) tM_0 (C := RX7) (F := TX7) (N := 18) rfl (g_V q816 q817 q39 q77 q818) yd_X7_record ⟨Nat.le_of_ble_eq_true rfl, Nat.le_of_ble_eq_true rfl⟩ [] rfl (Nat.le_of_ble_eq_true rfl) hl.1 ⟨Nat.le_refl _, Nat.le_refl _⟩ dX7_dropSlice_19 (fun H locs hP hS => ?_)
    refine lv_aload_n hx hb dX7_dropSlice_22 rfl (lv_at hl 1 rfl) ?_
    refine lv_iload_n hx hb dX7_dropSlice_23 rfl (lv_at hl 2 rfl) ?_
    refine lv_iconst (v := (-1 : Int32)) hx hb dX7_dropSlice_24 (by decide) ?_
    refine lv_iconst (v := (0 : Int32)) hx hb dX7_dropSlice_25 (by decide) ?_
    refine lv_sipush (v := (1000 : Int32)) hx hb dX7_dropSlice_26 (by decide) ?_
    obtain ⟨g29, hcal, h⟩ := bnd_s h
    refine x_VV (As := [.int x0, .int (-1 : Int32), .int (0 : Int32), .int (1000 : Int32)]) hx hb hml hown hts hK hP hS (ct_X7_moveBetween l D a cA cT hI g19 x0 (-1 : Int32) (0 : Int32) (1000 : Int32) g29 hcal) tM_0 (C := RX7) (F := TX7) (N := 18) rfl (g_V q859 q860 q48 q77 q861) yd_X7_moveBetween ⟨Nat.le_of_ble_eq_true rfl, Nat.le_of_ble_eq_true rfl⟩ [] rfl (Nat.le_of_ble_eq_true rfl) hl.1 ⟨Nat.le_refl _, Nat.le_refl _⟩ dX7_dropSlice_29 (fun H locs hP hS => ?_)
    refine lv_aload_n hx hb dX7_dropSlice_32 rfl (lv_at hl 1 rfl) ?_
    refine x_getr hx hb hts inX7 hown hK hP tM_0 (C := RX7) (F := TX7) (N := 18) rfl 0 (by decide) q758 rfl 1 rfl dX7_dropSlice_33 ?_
    refine lv_sipush (v := (1205 : Int32)) hx hb dX7_dropSlice_36 (by decide) ?_
    refine lv_iload_n hx hb dX7_dropSlice_39 rfl (lv_at hl 2 rfl) ?_
    refine lv_iadd hx hb dX7_dropSlice_40 ?_
    refine lv_iconst (v := (0 : Int32)) hx hb dX7_dropSlice_41 (by decide) ?_
    obtain ⟨hz, h⟩ := ite_n h
    refine x_ast hx hb hK hI hP hS tM_1 hz dX7_dropSlice_42 (fun H locs hP hS => ?_)
    refine lv_iload_n hx hb dX7_dropSlice_43 rfl (lv_at hl 0 rfl) ?_
    obtain ⟨rfl, rfl⟩ := Prod.mk.inj (Option.some.inj h)
    exact hend _ _ _ _ dX7_dropSlice_44 rfl hP hS
  · have h := ite_t hc h
    refine lv_sipush (v := (-1001 : Int32)) hx hb dX7_dropSlice_8 (by decide) ?_
    obtain ⟨rfl, rfl⟩ := Prod.mk.inj (Option.some.inj h)
    exact hend _ _ _ _ dX7_dropSlice_11 rfl hP hS
set_option maxHeartbeats 4000000 in
set_option maxRecDepth 100000 in
theorem ct_X7_detach (l : Launch) (D : va_G) (a : Nat → Nat) (cA cT : ClassId) (hI : WI a TM) (g : MG) (x0 : Int32)  (r : Int32) (g' : MG) (h : m_X7_detach g x0 = some (r, g')) :
    CtI l D a cA cT TM yX7_detach (Cond.code yX7_detach cX7_detach 3 (some .int) :: lw_all) (rmm 2 47) [.ref (a 0), .int x0] g r g' := by
  refine CtI.of (by decide +kernel) (Nat.le_of_ble_eq_true rfl) ?_
  intro p e s m args below meth c Q ls hx hb hml hown hts hK hP hS hl hend
  have hl : lv_has ls 3 [(0, .ref (a 0)), (1, .int x0)] := hl
  unfold m_X7_detach at h
  refine lv_aload_n hx hb dX7_detach_0 rfl (lv_at hl 0 rfl) ?_
  refine lv_iload_n hx hb dX7_detach_1 rfl (lv_at hl 1 rfl) ?_
  obtain ⟨r2, hcal, h⟩ := bnd_s h
  refine x_VI (As := [.int x0]) hx hb hml hown hts hK hP hS (ct_X7_isSlice l D a cA cT hI g x0 r2 hcal) tM_0 (C := RX7) (F := TX7) (N := 18) rfl (g_V q807 q808 q36 q77 q809) yd_X7_isSlice ⟨Nat.le_of_ble_eq_true rfl, Nat.le_of_ble_eq_true rfl⟩ [] rfl (Nat.le_of_ble_eq_true rfl) hl.1 ⟨Nat.le_refl _, Nat.le_refl _⟩ dX7_detach_2 (fun H locs hP hS => ?_)
  refine lv_if_ne (tgt := 12) hx hb dX7_detach_5 (by decide) (fun hc => ?_) (fun hc => ?_)
  · have h := ite_f hc h
    refine lv_aload_n hx hb dX7_detach_12 rfl (lv_at hl 0 rfl) ?_
    refine lv_bipush (v := (61 : Int32)) hx hb dX7_detach_13 (by decide) ?_
    obtain ⟨r15, hcal, h⟩ := bnd_s h
    refine x_VI (As := [.int (61 : Int32)]) hx hb hml hown hts hK hP hS (ct_X7_rowsIn l D a cA cT hI g (61 : Int32) r15 hcal) tM_0 (C := RX7) (F := TX7) (N := 18) rfl (g_V q813 q814 q38 q77 q815) yd_X7_rowsIn ⟨Nat.le_of_ble_eq_true rfl, Nat.le_of_ble_eq_true rfl⟩ [] rfl (Nat.le_of_ble_eq_true rfl) hl.1 ⟨Nat.le_refl _, Nat.le_refl _⟩ dX7_detach_15 (fun H locs hP hS => ?_)
    refine lv_if_le (tgt := 25) hx hb dX7_detach_18 (by decide) (fun hc => ?_) (fun hc => ?_)
    · have h := ite_t hc h
      refine lv_aload_n hx hb dX7_detach_25 rfl (lv_at hl 0 rfl) ?_
      refine lv_iload_n hx hb dX7_detach_26 rfl (lv_at hl 1 rfl) ?_
      obtain ⟨r27, hcal, h⟩ := bnd_s h
      refine x_VI (As := [.int x0]) hx hb hml hown hts hK hP hS (ct_X7_rowsIn l D a cA cT hI g x0 r27 hcal) tM_0 (C := RX7) (F := TX7) (N := 18) rfl (g_V q813 q814 q38 q77 q815) yd_X7_rowsIn ⟨Nat.le_of_ble_eq_true rfl, Nat.le_of_ble_eq_true rfl⟩ [] rfl (Nat.le_of_ble_eq_true rfl) hl.1 ⟨Nat.le_refl _, Nat.le_refl _⟩ dX7_detach_27 (fun H locs hP hS => ?_)
      refine lv_istore_n (lv' := [(2, .int r27), (0, .ref (a 0)), (1, .int x0)]) hx hb dX7_detach_30 rfl hl (by decide) rfl (fun ls hl => ?_)
      refine lv_iload_n hx hb dX7_detach_31 rfl (lv_at hl 0 rfl) ?_
      refine lv_bipush (v := (20 : Int32)) hx hb dX7_detach_32 (by decide) ?_
      refine lv_icmp_le (tgt := 41) hx hb dX7_detach_34 (by decide) (fun hc => ?_) (fun hc => ?_)
      · have h := ite_t hc h
        refine lv_aload_n hx hb dX7_detach_41 rfl (lv_at hl 1 rfl) ?_
        obtain ⟨g42, hcal, h⟩ := bnd_s h
        refine x_VV (As := []) hx hb hml hown hts hK hP hS (ct_X7_record l D a cA cT hI g g42 hcal) tM_0 (C := RX7) (F := TX7) (N := 18) rfl (g_V q816 q817 q39 q77 q818) yd_X7_record ⟨Nat.le_of_ble_eq_true rfl, Nat.le_of_ble_eq_true rfl⟩ [] rfl (Nat.le_of_ble_eq_true rfl) hl.1 ⟨Nat.le_refl _, Nat.le_refl _⟩ dX7_detach_42 (fun H locs hP hS => ?_)
        refine lv_aload_n hx hb dX7_detach_45 rfl (lv_at hl 1 rfl) ?_
        refine lv_iload_n hx hb dX7_detach_46 rfl (lv_at hl 2 rfl) ?_
        refine lv_bipush (v := (61 : Int32)) hx hb dX7_detach_47 (by decide) ?_
        refine lv_iconst (v := (0 : Int32)) hx hb dX7_detach_49 (by decide) ?_
        refine lv_sipush (v := (1000 : Int32)) hx hb dX7_detach_50 (by decide) ?_
        obtain ⟨g53, hcal, h⟩ := bnd_s h
        refine x_VV (As := [.int x0, .int (61 : Int32), .int (0 : Int32), .int (1000 : Int32)]) hx hb hml hown hts hK hP hS (ct_X7_moveBetween l D a cA cT hI g42 x0 (61 : Int32) (0 : Int32) (1000 : Int32) g53 hcal) tM_0 (C := RX7) (F := TX7) (N := 18) rfl (g_V q859 q860 q48 q77 q861) yd_X7_moveBetween ⟨Nat.le_of_ble_eq_true rfl, Nat.le_of_ble_eq_true rfl⟩ [] rfl (Nat.le_of_ble_eq_true rfl) hl.1 ⟨Nat.le_refl _, Nat.le_refl _⟩ dX7_detach_53 (fun H locs hP hS => ?_)
        refine lv_aload_n hx hb dX7_detach_56 rfl (lv_at hl 1 rfl) ?_
        refine x_getr hx hb hts inX7 hown hK hP tM_0 (C := RX7) (F := TX7) (N := 18) rfl 0 (by decide) q758 rfl 1 rfl dX7_detach_57 ?_
        refine lv_sipush (v := (1205 : Int32)) hx hb dX7_detach_60 (by decide) ?_
        refine lv_iload_n hx hb dX7_detach_63 rfl (lv_at hl 2 rfl) ?_
        refine lv_iadd hx hb dX7_detach_64 ?_
        refine lv_iconst (v := (0 : Int32)) hx hb dX7_detach_65 (by decide) ?_
        obtain ⟨hz, h⟩ := ite_n h
        refine x_ast hx hb hK hI hP hS tM_1 hz dX7_detach_66 (fun H locs hP hS => ?_)
        refine lv_iload_n hx hb dX7_detach_67 rfl (lv_at hl 0 rfl) ?_
        obtain ⟨rfl, rfl⟩ := Prod.mk.inj (Option.some.inj h)
        exact hend _ _ _ _ dX7_detach_68 rfl hP hS
      · have h := ite_f hc h
        refine lv_sipush (v := (-1003 : Int32)) hx hb dX7_detach_37 (by decide) ?_
        obtain ⟨rfl, rfl⟩ := Prod.mk.inj (Option.some.inj h)
        exact hend _ _ _ _ dX7_detach_40 rfl hP hS
    · have h := ite_f hc h
      refine lv_sipush (v := (-1004 : Int32)) hx hb dX7_detach_21 (by decide) ?_
      obtain ⟨rfl, rfl⟩ := Prod.mk.inj (Option.some.inj h)
      exact hend _ _ _ _ dX7_detach_24 rfl hP hS
  · have h := ite_t hc h
    refine lv_sipush (v := (-1001 : Int32)) hx hb dX7_detach_8 (by decide) ?_
    obtain ⟨rfl, rfl⟩ := Prod.mk.inj (Option.some.inj h)
    exact hend _ _ _ _ dX7_detach_11 rfl hP hS
set_option maxHeartbeats 4000000 in
set_option maxRecDepth 100000 in
theorem ct_X7_attach (l : Launch) (D : va_G) (a : Nat → Nat) (cA cT : ClassId) (hI : WI a TM) (g : MG) (x0 : Int32) (x1 : Int32)  (r : Int32) (g' : MG) (h : m_X7_attach g x0 x1 = some (r, g')) :
    CtI l D a cA cT TM yX7_attach (Cond.code yX7_attach cX7_attach 4 (some .int) :: lw_all) (rmm 3 66) [.ref (a 0), .int x0, .int x1] g r g' := by
  refine CtI.of (by decide +kernel) (Nat.le_of_ble_eq_true rfl) ?_
  intro p e s m args below meth c Q ls hx hb hml hown hts hK hP hS hl hend
  have hl : lv_has ls 4 [(0, .ref (a 0)), (1, .int x0), (2, .int x1)] := hl
  unfold m_X7_attach at h
  refine lv_aload_n hx hb dX7_attach_0 rfl (lv_at hl 0 rfl) ?_
  refine lv_iload_n hx hb dX7_attach_1 rfl (lv_at hl 1 rfl) ?_
  refine lv_iload_n hx hb dX7_attach_2 rfl (lv_at hl 2 rfl) ?_
  obtain ⟨r3, hcal, h⟩ := bnd_s h
  refine x_VI (As := [.int x0, .int x1]) hx hb hml hown hts hK hP hS (ct_X7_areBounds l D a cA cT hI g x0 x1 r3 hcal) tM_0 (C := RX7) (F := TX7) (N := 18) rfl (g_V q841 q842 q42 q77 q843) yd_X7_areBounds ⟨Nat.le_of_ble_eq_true rfl, Nat.le_of_ble_eq_true rfl⟩ [] rfl (Nat.le_of_ble_eq_true rfl) hl.1 ⟨Nat.le_refl _, Nat.le_refl _⟩ dX7_attach_3 (fun H locs hP hS => ?_)
  refine lv_if_ne (tgt := 13) hx hb dX7_attach_6 (by decide) (fun hc => ?_) (fun hc => ?_)
  · have h := ite_f hc h
    refine lv_aload_n hx hb dX7_attach_13 rfl (lv_at hl 0 rfl) ?_
    refine lv_iload_n hx hb dX7_attach_14 rfl (lv_at hl 1 rfl) ?_
    refine lv_iload_n hx hb dX7_attach_15 rfl (lv_at hl 2 rfl) ?_
    obtain ⟨r16, hcal, h⟩ := bnd_s h
    refine x_VI (As := [.int x0, .int x1]) hx hb hml hown hts hK hP hS (ct_X7_isTaken l D a cA cT hI g x0 x1 r16 hcal) tM_0 (C := RX7) (F := TX7) (N := 18) rfl (g_V q844 q845 q43 q77 q846) yd_X7_isTaken ⟨Nat.le_of_ble_eq_true rfl, Nat.le_of_ble_eq_true rfl⟩ [] rfl (Nat.le_of_ble_eq_true rfl) hl.1 ⟨Nat.le_refl _, Nat.le_refl _⟩ dX7_attach_16 (fun H locs hP hS => ?_)
    refine lv_if_ne (tgt := 50) hx hb dX7_attach_19 (by decide) (fun hc => ?_) (fun hc => ?_)
    · have h := ite_f hc h
      refine lv_sipush (v := (-1004 : Int32)) hx hb dX7_attach_50 (by decide) ?_
      obtain ⟨rfl, rfl⟩ := Prod.mk.inj (Option.some.inj h)
      exact hend _ _ _ _ dX7_attach_53 rfl hP hS
    · have h := ite_t hc h
      refine lv_aload_n hx hb dX7_attach_22 rfl (lv_at hl 0 rfl) ?_
      refine lv_bipush (v := (61 : Int32)) hx hb dX7_attach_23 (by decide) ?_
      refine lv_iload_n hx hb dX7_attach_25 rfl (lv_at hl 1 rfl) ?_
      refine lv_iload_n hx hb dX7_attach_26 rfl (lv_at hl 2 rfl) ?_
      obtain ⟨r27, hcal, h⟩ := bnd_s h
      refine x_VI (As := [.int (61 : Int32), .int x0, .int x1]) hx hb hml hown hts hK hP hS (ct_X7_rowsBetween l D a cA cT hI g (61 : Int32) x0 x1 r27 hcal) tM_0 (C := RX7) (F := TX7) (N := 18) rfl (g_V q847 q848 q44 q77 q849) yd_X7_rowsBetween ⟨Nat.le_of_ble_eq_true rfl, Nat.le_of_ble_eq_true rfl⟩ [] rfl (Nat.le_of_ble_eq_true rfl) hl.1 ⟨Nat.le_refl _, Nat.le_refl _⟩ dX7_attach_27 (fun H locs hP hS => ?_)
      refine lv_aload_n hx hb dX7_attach_30 rfl (lv_at hl 0 rfl) ?_
      refine lv_bipush (v := (61 : Int32)) hx hb dX7_attach_31 (by decide) ?_
      obtain ⟨r33, hcal, h⟩ := bnd_s h
      refine x_VI (As := [.int (61 : Int32)]) hx hb hml hown hts hK hP hS (ct_X7_rowsIn l D a cA cT hI g (61 : Int32) r33 hcal) tM_0 (C := RX7) (F := TX7) (N := 18) rfl (g_V q813 q814 q38 q77 q815) yd_X7_rowsIn ⟨Nat.le_of_ble_eq_true rfl, Nat.le_of_ble_eq_true rfl⟩ [.int r27] rfl (Nat.le_of_ble_eq_true rfl) hl.1 ⟨Nat.le_refl _, Nat.le_refl _⟩ dX7_attach_33 (fun H locs hP hS => ?_)
      refine lv_icmp_lt (tgt := 50) hx hb dX7_attach_36 (by decide) (fun hc => ?_) (fun hc => ?_)
      · have h := ite_t hc h
        refine lv_sipush (v := (-1004 : Int32)) hx hb dX7_attach_50 (by decide) ?_
        obtain ⟨rfl, rfl⟩ := Prod.mk.inj (Option.some.inj h)
        exact hend _ _ _ _ dX7_attach_53 rfl hP hS
      · have h := ite_f hc h
        refine lv_aload_n hx hb dX7_attach_39 rfl (lv_at hl 0 rfl) ?_
        refine lv_bipush (v := (60 : Int32)) hx hb dX7_attach_40 (by decide) ?_
        refine lv_iload_n hx hb dX7_attach_42 rfl (lv_at hl 1 rfl) ?_
        refine lv_iload_n hx hb dX7_attach_43 rfl (lv_at hl 2 rfl) ?_
        obtain ⟨r44, hcal, h⟩ := bnd_s h
        refine x_VI (As := [.int (60 : Int32), .int x0, .int x1]) hx hb hml hown hts hK hP hS (ct_X7_rowsBetween l D a cA cT hI g (60 : Int32) x0 x1 r44 hcal) tM_0 (C := RX7) (F := TX7) (N := 18) rfl (g_V q847 q848 q44 q77 q849) yd_X7_rowsBetween ⟨Nat.le_of_ble_eq_true rfl, Nat.le_of_ble_eq_true rfl⟩ [] rfl (Nat.le_of_ble_eq_true rfl) hl.1 ⟨Nat.le_refl _, Nat.le_refl _⟩ dX7_attach_44 (fun H locs hP hS => ?_)
        refine lv_if_le (tgt := 54) hx hb dX7_attach_47 (by decide) (fun hc => ?_) (fun hc => ?_)
        · have h := ite_t hc h
          refine lv_aload_n hx hb dX7_attach_54 rfl (lv_at hl 0 rfl) ?_
          obtain ⟨r55, hcal, h⟩ := bnd_s h
          refine x_VI (As := []) hx hb hml hown hts hK hP hS (ct_X7_isFullOfSlices l D a cA cT hI g r55 hcal) tM_0 (C := RX7) (F := TX7) (N := 18) rfl (g_V q850 q851 q45 q77 q852) yd_X7_isFullOfSlices ⟨Nat.le_of_ble_eq_true rfl, Nat.le_of_ble_eq_true rfl⟩ [] rfl (Nat.le_of_ble_eq_true rfl) hl.1 ⟨Nat.le_refl _, Nat.le_refl _⟩ dX7_attach_55 (fun H locs hP hS => ?_)
          refine lv_if_eq (tgt := 65) hx hb dX7_attach_58 (by decide) (fun hc => ?_) (fun hc => ?_)
          · have h := ite_t hc h
            refine lv_aload_n hx hb dX7_attach_65 rfl (lv_at hl 0 rfl) ?_
            obtain ⟨g66, hcal, h⟩ := bnd_s h
            refine x_VV (As := []) hx hb hml hown hts hK hP hS (ct_X7_record l D a cA cT hI g g66 hcal) tM_0 (C := RX7) (F := TX7) (N := 18) rfl (g_V q816 q817 q39 q77 q818) yd_X7_record ⟨Nat.le_of_ble_eq_true rfl, Nat.le_of_ble_eq_true rfl⟩ [] rfl (Nat.le_of_ble_eq_true rfl) hl.1 ⟨Nat.le_refl _, Nat.le_refl _⟩ dX7_attach_66 (fun H locs hP hS => ?_)
            refine lv_aload_n hx hb dX7_attach_69 rfl (lv_at hl 0 rfl) ?_
            refine lv_iload_n hx hb dX7_attach_70 rfl (lv_at hl 1 rfl) ?_
            refine lv_iload_n hx hb dX7_attach_71 rfl (lv_at hl 2 rfl) ?_
            obtain ⟨r72, g72, hcal, h⟩ := bnd2_s h
            refine x_VI (As := [.int x0, .int x1]) hx hb hml hown hts hK hP hS (ct_X7_cutSlice l D a cA cT hI g66 x0 x1 r72 g72 hcal) tM_0 (C := RX7) (F := TX7) (N := 18) rfl (g_V q856 q857 q47 q77 q858) yd_X7_cutSlice ⟨Nat.le_of_ble_eq_true rfl, Nat.le_of_ble_eq_true rfl⟩ [] rfl (Nat.le_of_ble_eq_true rfl) hl.1 ⟨Nat.le_refl _, Nat.le_refl _⟩ dX7_attach_72 (fun H locs hP hS => ?_)
            refine lv_istore_n (lv' := [(3, .int r72), (0, .ref (a 0)), (1, .int x0), (2, .int x1)]) hx hb dX7_attach_75 rfl hl (by decide) rfl (fun ls hl => ?_)
            refine lv_aload_n hx hb dX7_attach_76 rfl (lv_at hl 1 rfl) ?_
            refine lv_bipush (v := (61 : Int32)) hx hb dX7_attach_77 (by decide) ?_
            refine lv_iload_n hx hb dX7_attach_79 rfl (lv_at hl 0 rfl) ?_
            refine lv_iconst (v := (0 : Int32)) hx hb dX7_attach_80 (by decide) ?_
            refine lv_sipush (v := (1000 : Int32)) hx hb dX7_attach_81 (by decide) ?_
            obtain ⟨g84, hcal, h⟩ := bnd_s h
            refine x_VV (As := [.int (61 : Int32), .int r72, .int (0 : Int32), .int (1000 : Int32)]) hx hb hml hown hts hK hP hS (ct_X7_moveBetween l D a cA cT hI g72 (61 : Int32) r72 (0 : Int32) (1000 : Int32) g84 hcal) tM_0 (C := RX7) (F := TX7) (N := 18) rfl (g_V q859 q860 q48 q77 q861) yd_X7_moveBetween ⟨Nat.le_of_ble_eq_true rfl, Nat.le_of_ble_eq_true rfl⟩ [] rfl (Nat.le_of_ble_eq_true rfl) hl.1 ⟨Nat.le_refl _, Nat.le_refl _⟩ dX7_attach_84 (fun H locs hP hS => ?_)
            refine lv_iload_n hx hb dX7_attach_87 rfl (lv_at hl 0 rfl) ?_
            obtain ⟨rfl, rfl⟩ := Prod.mk.inj (Option.some.inj h)
            exact hend _ _ _ _ dX7_attach_88 rfl hP hS
          · have h := ite_f hc h
            refine lv_sipush (v := (-1003 : Int32)) hx hb dX7_attach_61 (by decide) ?_
            obtain ⟨rfl, rfl⟩ := Prod.mk.inj (Option.some.inj h)
            exact hend _ _ _ _ dX7_attach_64 rfl hP hS
        · have h := ite_f hc h
          refine lv_sipush (v := (-1004 : Int32)) hx hb dX7_attach_50 (by decide) ?_
          obtain ⟨rfl, rfl⟩ := Prod.mk.inj (Option.some.inj h)
          exact hend _ _ _ _ dX7_attach_53 rfl hP hS
  · have h := ite_t hc h
    refine lv_sipush (v := (-1002 : Int32)) hx hb dX7_attach_9 (by decide) ?_
    obtain ⟨rfl, rfl⟩ := Prod.mk.inj (Option.some.inj h)
    exact hend _ _ _ _ dX7_attach_12 rfl hP hS
set_option maxHeartbeats 4000000 in
set_option maxRecDepth 100000 in
theorem ct_X7_swap (l : Launch) (D : va_G) (a : Nat → Nat) (cA cT : ClassId) (hI : WI a TM) (g : MG) (x0 : Int32) (x1 : Int32)  (r : Int32) (g' : MG) (h : m_X7_swap g x0 x1 = some (r, g')) :
    CtI l D a cA cT TM yX7_swap (Cond.code yX7_swap cX7_swap 5 (some .int) :: lw_all) (rmm 2 47) [.ref (a 0), .int x0, .int x1] g r g' := by
  refine CtI.of (by decide +kernel) (Nat.le_of_ble_eq_true rfl) ?_
  intro p e s m args below meth c Q ls hx hb hml hown hts hK hP hS hl hend
  have hl : lv_has ls 5 [(0, .ref (a 0)), (1, .int x0), (2, .int x1)] := hl
  unfold m_X7_swap at h
  refine lv_aload_n hx hb dX7_swap_0 rfl (lv_at hl 0 rfl) ?_
  refine lv_iload_n hx hb dX7_swap_1 rfl (lv_at hl 1 rfl) ?_
  obtain ⟨r2, hcal, h⟩ := bnd_s h
  refine x_VI (As := [.int x0]) hx hb hml hown hts hK hP hS (ct_X7_isSlice l D a cA cT hI g x0 r2 hcal) tM_0 (C := RX7) (F := TX7) (N := 18) rfl (g_V q807 q808 q36 q77 q809) yd_X7_isSlice ⟨Nat.le_of_ble_eq_true rfl, Nat.le_of_ble_eq_true rfl⟩ [] rfl (Nat.le_of_ble_eq_true rfl) hl.1 ⟨Nat.le_refl _, Nat.le_refl _⟩ dX7_swap_2 (fun H locs hP hS => ?_)
  refine lv_if_ne (tgt := 12) hx hb dX7_swap_5 (by decide) (fun hc => ?_) (fun hc => ?_)
  · have h := ite_f hc h
    refine lv_iload_n hx hb dX7_swap_12 rfl (lv_at hl 2 rfl) ?_
    refine lv_if_eq (tgt := 55) hx hb dX7_swap_13 (by decide) (fun hc => ?_) (fun hc => ?_)
    · have h := ite_t hc h
      refine lv_aload_n hx hb dX7_swap_55 rfl (lv_at hl 0 rfl) ?_
      refine lv_iload_n hx hb dX7_swap_56 rfl (lv_at hl 1 rfl) ?_
      obtain ⟨r57, hcal, h⟩ := bnd_s h
      refine x_VI (As := [.int x0]) hx hb hml hown hts hK hP hS (ct_X7_rowsIn l D a cA cT hI g x0 r57 hcal) tM_0 (C := RX7) (F := TX7) (N := 18) rfl (g_V q813 q814 q38 q77 q815) yd_X7_rowsIn ⟨Nat.le_of_ble_eq_true rfl, Nat.le_of_ble_eq_true rfl⟩ [] rfl (Nat.le_of_ble_eq_true rfl) hl.1 ⟨Nat.le_refl _, Nat.le_refl _⟩ dX7_swap_57 (fun H locs hP hS => ?_)
      refine lv_bipush (v := (20 : Int32)) hx hb dX7_swap_60 (by decide) ?_
      refine lv_icmp_le (tgt := 69) hx hb dX7_swap_62 (by decide) (fun hc => ?_) (fun hc => ?_)
      · have h := ite_t hc h
        refine lv_aload_n hx hb dX7_swap_69 rfl (lv_at hl 0 rfl) ?_
        obtain ⟨g70, hcal, h⟩ := bnd_s h
        refine x_VV (As := []) hx hb hml hown hts hK hP hS (ct_X7_record l D a cA cT hI g g70 hcal) tM_0 (C := RX7) (F := TX7) (N := 18) rfl (g_V q816 q817 q39 q77 q818) yd_X7_record ⟨Nat.le_of_ble_eq_true rfl, Nat.le_of_ble_eq_true rfl⟩ [] rfl (Nat.le_of_ble_eq_true rfl) hl.1 ⟨Nat.le_refl _, Nat.le_refl _⟩ dX7_swap_70 (fun H locs hP hS => ?_)
        refine lv_iconst (v := (0 : Int32)) hx hb dX7_swap_73 (by decide) ?_
        refine lv_istore_n (lv' := [(3, .int (0 : Int32)), (0, .ref (a 0)), (1, .int x0), (2, .int x1)]) hx hb dX7_swap_74 rfl hl (by decide) rfl (fun ls hl => ?_)
        have K75 : ∀ (n75 : Nat) (v3 : Int32) (g75 : MG) (H : Heap) (locs : List Loc) (ls : Array Slot), WP D a cA cT TM g75 H → va_S (AA a TM) s.heap H locs → lv_has ls 5 [(0, .ref (a 0)), (1, .int x0), (3, .int v3)] → lpo (b_X7_swap_L75 x0 x1) n75 (v3, g75) = some (r, g') → W p l e (rmm 2 47) s m args below meth c H locs 0 0 Q (F0 m 75 ls []) := by
          intro n75
          induction n75 with
          | zero => intro v3 g75 H locs ls hP hS hl h; exact (lpo_0 h).elim
          | succ n75 ih75 =>
            intro v3 g75 H locs ls hP hS hl h
            have h : m_X7_swap_L75 (lpo (b_X7_swap_L75 x0 x1) n75) x0 x1 v3 g75 = some (r, g') := h
            unfold m_X7_swap_L75 at h
            refine lv_iload_n hx hb dX7_swap_75 rfl (lv_at hl 2 rfl) ?_
            refine lv_aload_n hx hb dX7_swap_76 rfl (lv_at hl 0 rfl) ?_
            refine x_getr hx hb hts inX7 hown hK hP tM_0 (C := RX7) (F := TX7) (N := 18) rfl 0 (by decide) q758 rfl 1 rfl dX7_swap_77 ?_
            refine lv_iconst (v := (0 : Int32)) hx hb dX7_swap_80 (by decide) ?_
            obtain ⟨hz, h⟩ := ite_n h
            refine x_ald hx hb hK hP tM_1 hz dX7_swap_81 ?_
            refine lv_icmp_ge (tgt := 137) hx hb dX7_swap_82 (by decide) (fun hc => ?_) (fun hc => ?_)
            · have h := ite_t hc h
              refine lv_aload_n hx hb dX7_swap_137 rfl (lv_at hl 0 rfl) ?_
              refine lv_iload_n hx hb dX7_swap_138 rfl (lv_at hl 1 rfl) ?_
              obtain ⟨r139, hcal, h⟩ := bnd_s h
              refine x_VI (As := [.int x0]) hx hb hml hown hts hK hP hS (ct_X7_rowsIn l D a cA cT hI g75 x0 r139 hcal) tM_0 (C := RX7) (F := TX7) (N := 18) rfl (g_V q813 q814 q38 q77 q815) yd_X7_rowsIn ⟨Nat.le_of_ble_eq_true rfl, Nat.le_of_ble_eq_true rfl⟩ [] rfl (Nat.le_of_ble_eq_true rfl) hl.1 ⟨Nat.le_refl _, Nat.le_refl _⟩ dX7_swap_139 (fun H locs hP hS => ?_)
              obtain ⟨rfl, rfl⟩ := Prod.mk.inj (Option.some.inj h)
              exact hend _ _ _ _ dX7_swap_142 rfl hP hS
            · have h := ite_f hc h
              refine lv_aload_n hx hb dX7_swap_85 rfl (lv_at hl 0 rfl) ?_
              refine x_getr hx hb hts inX7 hown hK hP tM_0 (C := RX7) (F := TX7) (N := 18) rfl 0 (by decide) q758 rfl 1 rfl dX7_swap_86 ?_
              refine lv_sipush (v := (805 : Int32)) hx hb dX7_swap_89 (by decide) ?_
              refine lv_iload_n hx hb dX7_swap_92 rfl (lv_at hl 2 rfl) ?_
              refine lv_iadd hx hb dX7_swap_93 ?_
              obtain ⟨hz, h⟩ := ite_n h
              refine x_ald hx hb hK hP tM_1 hz dX7_swap_94 ?_
              refine lv_istore (lv' := [(4, .int (g75.1 1 ((805 : Int32) + v3).toNatClampNeg)), (0, .ref (a 0)), (1, .int x0), (3, .int v3)]) hx hb dX7_swap_95 hl (by decide) rfl (fun ls hl => ?_)
              refine lv_aload_n hx hb dX7_swap_97 rfl (lv_at hl 1 rfl) ?_
              refine x_getr hx hb hts inX7 hown hK hP tM_0 (C := RX7) (F := TX7) (N := 18) rfl 0 (by decide) q758 rfl 1 rfl dX7_swap_98 ?_
              refine lv_sipush (v := (805 : Int32)) hx hb dX7_swap_101 (by decide) ?_
              refine lv_iload_n hx hb dX7_swap_104 rfl (lv_at hl 3 rfl) ?_
              refine lv_iadd hx hb dX7_swap_105 ?_
              refine lv_iload hx hb dX7_swap_106 (lv_at hl 0 rfl) ?_
              refine lv_iload_n hx hb dX7_swap_108 rfl (lv_at hl 2 rfl) ?_
              refine lv_icmp_ne (tgt := 117) hx hb dX7_swap_109 (by decide) (fun hc => ?_) (fun hc => ?_)
              · have h := ite_f hc h
                refine lv_iload hx hb dX7_swap_117 (lv_at hl 0 rfl) ?_
                refine lv_bipush (v := (61 : Int32)) hx hb dX7_swap_119 (by decide) ?_
                refine lv_icmp_ne (tgt := 128) hx hb dX7_swap_121 (by decide) (fun hc => ?_) (fun hc => ?_)
                · have h := ite_f hc h
                  refine lv_iload hx hb dX7_swap_128 (lv_at hl 0 rfl) ?_
                  obtain ⟨hz, h⟩ := ite_n h
                  refine x_ast hx hb hK hI hP hS tM_1 hz dX7_swap_130 (fun H locs hP hS => ?_)
                  refine lv_iinc (v := (v3 + (1 : Int32))) (lv' := [(3, .int (v3 + (1 : Int32))), (4, .int (g75.1 1 ((805 : Int32) + v3).toNatClampNeg)), (0, .ref (a 0)), (1, .int x0)]) hx hb dX7_swap_131 hl (k := 3) rfl rfl (by decide) rfl (fun ls hl => ?_)
                  refine lv_goto (tgt := 75) hx hb dX7_swap_134 (by decide) ?_
                  exact ih75 (v3 + (1 : Int32)) (g_w g75 1 ((805 : Int32) + v3).toNatClampNeg (g75.1 1 ((805 : Int32) + v3).toNatClampNeg)) _ _ _ hP hS (lv_sub hl [2, 3, 0] rfl) h
                · have h := ite_t hc h
                  refine lv_iload_n hx hb dX7_swap_124 rfl (lv_at hl 2 rfl) ?_
                  refine lv_goto (tgt := 130) hx hb dX7_swap_125 (by decide) ?_
                  obtain ⟨hz, h⟩ := ite_n h
                  refine x_ast hx hb hK hI hP hS tM_1 hz dX7_swap_130 (fun H locs hP hS => ?_)
                  refine lv_iinc (v := (v3 + (1 : Int32))) (lv' := [(3, .int (v3 + (1 : Int32))), (4, .int (g75.1 1 ((805 : Int32) + v3).toNatClampNeg)), (0, .ref (a 0)), (1, .int x0)]) hx hb dX7_swap_131 hl (k := 3) rfl rfl (by decide) rfl (fun ls hl => ?_)
                  refine lv_goto (tgt := 75) hx hb dX7_swap_134 (by decide) ?_
                  exact ih75 (v3 + (1 : Int32)) (g_w g75 1 ((805 : Int32) + v3).toNatClampNeg x0) _ _ _ hP hS (lv_sub hl [2, 3, 0] rfl) h
              · have h := ite_t hc h
                refine lv_bipush (v := (61 : Int32)) hx hb dX7_swap_112 (by decide) ?_
                refine lv_goto (tgt := 130) hx hb dX7_swap_114 (by decide) ?_
                obtain ⟨hz, h⟩ := ite_n h
                refine x_ast hx hb hK hI hP hS tM_1 hz dX7_swap_130 (fun H locs hP hS => ?_)
                refine lv_iinc (v := (v3 + (1 : Int32))) (lv' := [(3, .int (v3 + (1 : Int32))), (4, .int (g75.1 1 ((805 : Int32) + v3).toNatClampNeg)), (0, .ref (a 0)), (1, .int x0)]) hx hb dX7_swap_131 hl (k := 3) rfl rfl (by decide) rfl (fun ls hl => ?_)
                refine lv_goto (tgt := 75) hx hb dX7_swap_134 (by decide) ?_
                exact ih75 (v3 + (1 : Int32)) (g_w g75 1 ((805 : Int32) + v3).toNatClampNeg (61 : Int32)) _ _ _ hP hS (lv_sub hl [2, 3, 0] rfl) h
        exact K75 fuelN (0 : Int32) g70 _ _ _ hP hS (lv_sub hl [1, 2, 0] rfl) h
      · have h := ite_f hc h
        refine lv_sipush (v := (-1003 : Int32)) hx hb dX7_swap_65 (by decide) ?_
        obtain ⟨rfl, rfl⟩ := Prod.mk.inj (Option.some.inj h)
        exact hend _ _ _ _ dX7_swap_68 rfl hP hS
    · have h := ite_f hc h
      refine lv_aload_n hx hb dX7_swap_16 rfl (lv_at hl 0 rfl) ?_
      refine lv_bipush (v := (61 : Int32)) hx hb dX7_swap_17 (by decide) ?_
      refine lv_aload_n hx hb dX7_swap_19 rfl (lv_at hl 0 rfl) ?_
      refine x_getr hx hb hts inX7 hown hK hP tM_0 (C := RX7) (F := TX7) (N := 18) rfl 0 (by decide) q758 rfl 1 rfl dX7_swap_20 ?_
      refine lv_sipush (v := (1265 : Int32)) hx hb dX7_swap_23 (by decide) ?_
      refine lv_iload_n hx hb dX7_swap_26 rfl (lv_at hl 1 rfl) ?_
      refine lv_iadd hx hb dX7_swap_27 ?_
      obtain ⟨hz, h⟩ := ite_n h
      refine x_ald hx hb hK hP tM_1 hz dX7_swap_28 ?_
      refine lv_aload_n hx hb dX7_swap_29 rfl (lv_at hl 0 rfl) ?_
      refine x_getr hx hb hts inX7 hown hK hP tM_0 (C := RX7) (F := TX7) (N := 18) rfl 0 (by decide) q758 rfl 1 rfl dX7_swap_30 ?_
      refine lv_sipush (v := (1325 : Int32)) hx hb dX7_swap_33 (by decide) ?_
      refine lv_iload_n hx hb dX7_swap_36 rfl (lv_at hl 1 rfl) ?_
      refine lv_iadd hx hb dX7_swap_37 ?_
      obtain ⟨hz, h⟩ := ite_n h
      refine x_ald hx hb hK hP tM_1 hz dX7_swap_38 ?_
      obtain ⟨r39, hcal, h⟩ := bnd_s h
      refine x_VI (As := [.int (61 : Int32), .int (g.1 1 ((1265 : Int32) + x0).toNatClampNeg), .int (g.1 1 ((1325 : Int32) + x0).toNatClampNeg)]) hx hb hml hown hts hK hP hS (ct_X7_rowsBetween l D a cA cT hI g (61 : Int32) (g.1 1 ((1265 : Int32) + x0).toNatClampNeg) (g.1 1 ((1325 : Int32) + x0).toNatClampNeg) r39 hcal) tM_0 (C := RX7) (F := TX7) (N := 18) rfl (g_V q847 q848 q44 q77 q849) yd_X7_rowsBetween ⟨Nat.le_of_ble_eq_true rfl, Nat.le_of_ble_eq_true rfl⟩ [] rfl (Nat.le_of_ble_eq_true rfl) hl.1 ⟨Nat.le_refl _, Nat.le_refl _⟩ dX7_swap_39 (fun H locs hP hS => ?_)
      refine lv_aload_n hx hb dX7_swap_42 rfl (lv_at hl 0 rfl) ?_
      refine lv_bipush (v := (61 : Int32)) hx hb dX7_swap_43 (by decide) ?_
      obtain ⟨r45, hcal, h⟩ := bnd_s h
      refine x_VI (As := [.int (61 : Int32)]) hx hb hml hown hts hK hP hS (ct_X7_rowsIn l D a cA cT hI g (61 : Int32) r45 hcal) tM_0 (C := RX7) (F := TX7) (N := 18) rfl (g_V q813 q814 q38 q77 q815) yd_X7_rowsIn ⟨Nat.le_of_ble_eq_true rfl, Nat.le_of_ble_eq_true rfl⟩ [.int r39] rfl (Nat.le_of_ble_eq_true rfl) hl.1 ⟨Nat.le_refl _, Nat.le_refl _⟩ dX7_swap_45 (fun H locs hP hS => ?_)
      refine lv_icmp_ge (tgt := 55) hx hb dX7_swap_48 (by decide) (fun hc => ?_) (fun hc => ?_)
      · have h := ite_t hc h
        refine lv_aload_n hx hb dX7_swap_55 rfl (lv_at hl 0 rfl) ?_
        refine lv_iload_n hx hb dX7_swap_56 rfl (lv_at hl 1 rfl) ?_
        obtain ⟨r57, hcal, h⟩ := bnd_s h
        refine x_VI (As := [.int x0]) hx hb hml hown hts hK hP hS (ct_X7_rowsIn l D a cA cT hI g x0 r57 hcal) tM_0 (C := RX7) (F := TX7) (N := 18) rfl (g_V q813 q814 q38 q77 q815) yd_X7_rowsIn ⟨Nat.le_of_ble_eq_true rfl, Nat.le_of_ble_eq_true rfl⟩ [] rfl (Nat.le_of_ble_eq_true rfl) hl.1 ⟨Nat.le_refl _, Nat.le_refl _⟩ dX7_swap_57 (fun H locs hP hS => ?_)
        refine lv_bipush (v := (20 : Int32)) hx hb dX7_swap_60 (by decide) ?_
        refine lv_icmp_le (tgt := 69) hx hb dX7_swap_62 (by decide) (fun hc => ?_) (fun hc => ?_)
        · have h := ite_t hc h
          refine lv_aload_n hx hb dX7_swap_69 rfl (lv_at hl 0 rfl) ?_
          obtain ⟨g70, hcal, h⟩ := bnd_s h
          refine x_VV (As := []) hx hb hml hown hts hK hP hS (ct_X7_record l D a cA cT hI g g70 hcal) tM_0 (C := RX7) (F := TX7) (N := 18) rfl (g_V q816 q817 q39 q77 q818) yd_X7_record ⟨Nat.le_of_ble_eq_true rfl, Nat.le_of_ble_eq_true rfl⟩ [] rfl (Nat.le_of_ble_eq_true rfl) hl.1 ⟨Nat.le_refl _, Nat.le_refl _⟩ dX7_swap_70 (fun H locs hP hS => ?_)
          refine lv_iconst (v := (0 : Int32)) hx hb dX7_swap_73 (by decide) ?_
          refine lv_istore_n (lv' := [(3, .int (0 : Int32)), (0, .ref (a 0)), (1, .int x0), (2, .int x1)]) hx hb dX7_swap_74 rfl hl (by decide) rfl (fun ls hl => ?_)
          have K75 : ∀ (n75 : Nat) (v3 : Int32) (g75 : MG) (H : Heap) (locs : List Loc) (ls : Array Slot), WP D a cA cT TM g75 H → va_S (AA a TM) s.heap H locs → lv_has ls 5 [(0, .ref (a 0)), (1, .int x0), (3, .int v3)] → lpo (b_X7_swap_L75_1 x0 x1) n75 (v3, g75) = some (r, g') → W p l e (rmm 2 47) s m args below meth c H locs 0 0 Q (F0 m 75 ls []) := by
            intro n75
            induction n75 with
            | zero => intro v3 g75 H locs ls hP hS hl h; exact (lpo_0 h).elim
            | succ n75 ih75 =>
              intro v3 g75 H locs ls hP hS hl h
              have h : m_X7_swap_L75_1 (lpo (b_X7_swap_L75_1 x0 x1) n75) x0 x1 v3 g75 = some (r, g') := h
              unfold m_X7_swap_L75_1 at h
              refine lv_iload_n hx hb dX7_swap_75 rfl (lv_at hl 2 rfl) ?_
              refine lv_aload_n hx hb dX7_swap_76 rfl (lv_at hl 0 rfl) ?_
              refine x_getr hx hb hts inX7 hown hK hP tM_0 (C := RX7) (F := TX7) (N := 18) rfl 0 (by decide) q758 rfl 1 rfl dX7_swap_77 ?_
              refine lv_iconst (v := (0 : Int32)) hx hb dX7_swap_80 (by decide) ?_
              obtain ⟨hz, h⟩ := ite_n h
              refine x_ald hx hb hK hP tM_1 hz dX7_swap_81 ?_
              refine lv_icmp_ge (tgt := 137) hx hb dX7_swap_82 (by decide) (fun hc => ?_) (fun hc => ?_)
              · have h := ite_t hc h
                refine lv_aload_n hx hb dX7_swap_137 rfl (lv_at hl 0 rfl) ?_
                refine lv_iload_n hx hb dX7_swap_138 rfl (lv_at hl 1 rfl) ?_
                obtain ⟨r139, hcal, h⟩ := bnd_s h
                refine x_VI (As := [.int x0]) hx hb hml hown hts hK hP hS (ct_X7_rowsIn l D a cA cT hI g75 x0 r139 hcal) tM_0 (C := RX7) (F := TX7) (N := 18) rfl (g_V q813 q814 q38 q77 q815) yd_X7_rowsIn ⟨Nat.le_of_ble_eq_true rfl, Nat.le_of_ble_eq_true rfl⟩ [] rfl (Nat.le_of_ble_eq_true rfl) hl.1 ⟨Nat.le_refl _, Nat.le_refl _⟩ dX7_swap_139 (fun H locs hP hS => ?_)
                obtain ⟨rfl, rfl⟩ := Prod.mk.inj (Option.some.inj h)
                exact hend _ _ _ _ dX7_swap_142 rfl hP hS
              · have h := ite_f hc h
                refine lv_aload_n hx hb dX7_swap_85 rfl (lv_at hl 0 rfl) ?_
                refine x_getr hx hb hts inX7 hown hK hP tM_0 (C := RX7) (F := TX7) (N := 18) rfl 0 (by decide) q758 rfl 1 rfl dX7_swap_86 ?_
                refine lv_sipush (v := (805 : Int32)) hx hb dX7_swap_89 (by decide) ?_
                refine lv_iload_n hx hb dX7_swap_92 rfl (lv_at hl 2 rfl) ?_
                refine lv_iadd hx hb dX7_swap_93 ?_
                obtain ⟨hz, h⟩ := ite_n h
                refine x_ald hx hb hK hP tM_1 hz dX7_swap_94 ?_
                refine lv_istore (lv' := [(4, .int (g75.1 1 ((805 : Int32) + v3).toNatClampNeg)), (0, .ref (a 0)), (1, .int x0), (3, .int v3)]) hx hb dX7_swap_95 hl (by decide) rfl (fun ls hl => ?_)
                refine lv_aload_n hx hb dX7_swap_97 rfl (lv_at hl 1 rfl) ?_
                refine x_getr hx hb hts inX7 hown hK hP tM_0 (C := RX7) (F := TX7) (N := 18) rfl 0 (by decide) q758 rfl 1 rfl dX7_swap_98 ?_
                refine lv_sipush (v := (805 : Int32)) hx hb dX7_swap_101 (by decide) ?_
                refine lv_iload_n hx hb dX7_swap_104 rfl (lv_at hl 3 rfl) ?_
                refine lv_iadd hx hb dX7_swap_105 ?_
                refine lv_iload hx hb dX7_swap_106 (lv_at hl 0 rfl) ?_
                refine lv_iload_n hx hb dX7_swap_108 rfl (lv_at hl 2 rfl) ?_
                refine lv_icmp_ne (tgt := 117) hx hb dX7_swap_109 (by decide) (fun hc => ?_) (fun hc => ?_)
                · have h := ite_f hc h
                  refine lv_iload hx hb dX7_swap_117 (lv_at hl 0 rfl) ?_
                  refine lv_bipush (v := (61 : Int32)) hx hb dX7_swap_119 (by decide) ?_
                  refine lv_icmp_ne (tgt := 128) hx hb dX7_swap_121 (by decide) (fun hc => ?_) (fun hc => ?_)
                  · have h := ite_f hc h
                    refine lv_iload hx hb dX7_swap_128 (lv_at hl 0 rfl) ?_
                    obtain ⟨hz, h⟩ := ite_n h
                    refine x_ast hx hb hK hI hP hS tM_1 hz dX7_swap_130 (fun H locs hP hS => ?_)
                    refine lv_iinc (v := (v3 + (1 : Int32))) (lv' := [(3, .int (v3 + (1 : Int32))), (4, .int (g75.1 1 ((805 : Int32) + v3).toNatClampNeg)), (0, .ref (a 0)), (1, .int x0)]) hx hb dX7_swap_131 hl (k := 3) rfl rfl (by decide) rfl (fun ls hl => ?_)
                    refine lv_goto (tgt := 75) hx hb dX7_swap_134 (by decide) ?_
                    exact ih75 (v3 + (1 : Int32)) (g_w g75 1 ((805 : Int32) + v3).toNatClampNeg (g75.1 1 ((805 : Int32) + v3).toNatClampNeg)) _ _ _ hP hS (lv_sub hl [2, 3, 0] rfl) h
                  · have h := ite_t hc h
                    refine lv_iload_n hx hb dX7_swap_124 rfl (lv_at hl 2 rfl) ?_
                    refine lv_goto (tgt := 130) hx hb dX7_swap_125 (by decide) ?_
                    obtain ⟨hz, h⟩ := ite_n h
                    refine x_ast hx hb hK hI hP hS tM_1 hz dX7_swap_130 (fun H locs hP hS => ?_)
                    refine lv_iinc (v := (v3 + (1 : Int32))) (lv' := [(3, .int (v3 + (1 : Int32))), (4, .int (g75.1 1 ((805 : Int32) + v3).toNatClampNeg)), (0, .ref (a 0)), (1, .int x0)]) hx hb dX7_swap_131 hl (k := 3) rfl rfl (by decide) rfl (fun ls hl => ?_)
                    refine lv_goto (tgt := 75) hx hb dX7_swap_134 (by decide) ?_
                    exact ih75 (v3 + (1 : Int32)) (g_w g75 1 ((805 : Int32) + v3).toNatClampNeg x0) _ _ _ hP hS (lv_sub hl [2, 3, 0] rfl) h
                · have h := ite_t hc h
                  refine lv_bipush (v := (61 : Int32)) hx hb dX7_swap_112 (by decide) ?_
                  refine lv_goto (tgt := 130) hx hb dX7_swap_114 (by decide) ?_
                  obtain ⟨hz, h⟩ := ite_n h
                  refine x_ast hx hb hK hI hP hS tM_1 hz dX7_swap_130 (fun H locs hP hS => ?_)
                  refine lv_iinc (v := (v3 + (1 : Int32))) (lv' := [(3, .int (v3 + (1 : Int32))), (4, .int (g75.1 1 ((805 : Int32) + v3).toNatClampNeg)), (0, .ref (a 0)), (1, .int x0)]) hx hb dX7_swap_131 hl (k := 3) rfl rfl (by decide) rfl (fun ls hl => ?_)
                  refine lv_goto (tgt := 75) hx hb dX7_swap_134 (by decide) ?_
                  exact ih75 (v3 + (1 : Int32)) (g_w g75 1 ((805 : Int32) + v3).toNatClampNeg (61 : Int32)) _ _ _ hP hS (lv_sub hl [2, 3, 0] rfl) h
          exact K75 fuelN (0 : Int32) g70 _ _ _ hP hS (lv_sub hl [1, 2, 0] rfl) h
        · have h := ite_f hc h
          refine lv_sipush (v := (-1003 : Int32)) hx hb dX7_swap_65 (by decide) ?_
          obtain ⟨rfl, rfl⟩ := Prod.mk.inj (Option.some.inj h)
          exact hend _ _ _ _ dX7_swap_68 rfl hP hS
      · have h := ite_f hc h
        refine lv_sipush (v := (-1004 : Int32)) hx hb dX7_swap_51 (by decide) ?_
        obtain ⟨rfl, rfl⟩ := Prod.mk.inj (Option.some.inj h)
        exact hend _ _ _ _ dX7_swap_54 rfl hP hS
  · have h := ite_t hc h
    refine lv_sipush (v := (-1001 : Int32)) hx hb dX7_swap_8 (by decide) ?_
    obtain ⟨rfl, rfl⟩ := Prod.mk.inj (Option.some.inj h)
    exact hend _ _ _ _ dX7_swap_11 rfl hP hS
set_option maxHeartbeats 4000000 in
set_option maxRecDepth 100000 in
theorem ct_X7_split (l : Launch) (D : va_G) (a : Nat → Nat) (cA cT : ClassId) (hI : WI a TM) (g : MG) (x0 : Int32) (x1 : Int32)  (r : Int32) (g' : MG) (h : m_X7_split g x0 x1 = some (r, g')) :
    CtI l D a cA cT TM yX7_split (Cond.code yX7_split cX7_split 5 (some .int) :: lw_all) (rmm 2 47) [.ref (a 0), .int x0, .int x1] g r g' := by
  refine CtI.of (by decide +kernel) (Nat.le_of_ble_eq_true rfl) ?_
  intro p e s m args below meth c Q ls hx hb hml hown hts hK hP hS hl hend
  have hl : lv_has ls 5 [(0, .ref (a 0)), (1, .int x0), (2, .int x1)] := hl
  unfold m_X7_split at h
  refine lv_aload_n hx hb dX7_split_0 rfl (lv_at hl 0 rfl) ?_
  refine lv_iload_n hx hb dX7_split_1 rfl (lv_at hl 1 rfl) ?_
  obtain ⟨r2, hcal, h⟩ := bnd_s h
  refine x_VI (As := [.int x0]) hx hb hml hown hts hK hP hS (ct_X7_isSlice l D a cA cT hI g x0 r2 hcal) tM_0 (C := RX7) (F := TX7) (N := 18) rfl (g_V q807 q808 q36 q77 q809) yd_X7_isSlice ⟨Nat.le_of_ble_eq_true rfl, Nat.le_of_ble_eq_true rfl⟩ [] rfl (Nat.le_of_ble_eq_true rfl) hl.1 ⟨Nat.le_refl _, Nat.le_refl _⟩ dX7_split_2 (fun H locs hP hS => ?_)
  refine lv_if_ne (tgt := 12) hx hb dX7_split_5 (by decide) (fun hc => ?_) (fun hc => ?_)
  · have h := ite_f hc h
    refine lv_aload_n hx hb dX7_split_12 rfl (lv_at hl 0 rfl) ?_
    refine x_getr hx hb hts inX7 hown hK hP tM_0 (C := RX7) (F := TX7) (N := 18) rfl 0 (by decide) q758 rfl 1 rfl dX7_split_13 ?_
    refine lv_sipush (v := (1325 : Int32)) hx hb dX7_split_16 (by decide) ?_
    refine lv_iload_n hx hb dX7_split_19 rfl (lv_at hl 1 rfl) ?_
    refine lv_iadd hx hb dX7_split_20 ?_
    obtain ⟨hz, h⟩ := ite_n h
    refine x_ald hx hb hK hP tM_1 hz dX7_split_21 ?_
    refine lv_istore_n (lv' := [(3, .int (g.1 1 ((1325 : Int32) + x0).toNatClampNeg)), (0, .ref (a 0)), (1, .int x0), (2, .int x1)]) hx hb dX7_split_22 rfl hl (by decide) rfl (fun ls hl => ?_)
    refine lv_iload_n hx hb dX7_split_23 rfl (lv_at hl 3 rfl) ?_
    refine lv_aload_n hx hb dX7_split_24 rfl (lv_at hl 1 rfl) ?_
    refine x_getr hx hb hts inX7 hown hK hP tM_0 (C := RX7) (F := TX7) (N := 18) rfl 0 (by decide) q758 rfl 1 rfl dX7_split_25 ?_
    refine lv_sipush (v := (1265 : Int32)) hx hb dX7_split_28 (by decide) ?_
    refine lv_iload_n hx hb dX7_split_31 rfl (lv_at hl 2 rfl) ?_
    refine lv_iadd hx hb dX7_split_32 ?_
    obtain ⟨hz, h⟩ := ite_n h
    refine x_ald hx hb hK hP tM_1 hz dX7_split_33 ?_
    refine lv_iconst (v := (1 : Int32)) hx hb dX7_split_34 (by decide) ?_
    refine lv_iadd hx hb dX7_split_35 ?_
    refine lv_iload_n hx hb dX7_split_36 rfl (lv_at hl 0 rfl) ?_
    refine lv_iconst (v := (1 : Int32)) hx hb dX7_split_37 (by decide) ?_
    refine lv_isub hx hb dX7_split_38 ?_
    obtain ⟨r39, hcal, h⟩ := bnd_s h
    refine x_SI (As := [.int x1, .int ((g.1 1 ((1265 : Int32) + x0).toNatClampNeg) + (1 : Int32)), .int ((g.1 1 ((1325 : Int32) + x0).toNatClampNeg) - (1 : Int32))]) hx hb hml hown hts hK hP hS (ct_X7_in l D a cA cT hI g x1 ((g.1 1 ((1265 : Int32) + x0).toNatClampNeg) + (1 : Int32)) ((g.1 1 ((1325 : Int32) + x0).toNatClampNeg) - (1 : Int32)) r39 hcal) (g_S q798 q799 q77 q800) yd_X7_in ⟨Nat.le_of_ble_eq_true rfl, Nat.le_of_ble_eq_true rfl⟩ [] rfl (Nat.le_of_ble_eq_true rfl) hl.1 ⟨Nat.le_refl _, Nat.le_refl _⟩ dX7_split_39 (fun H locs hP hS => ?_)
    refine lv_if_ne (tgt := 49) hx hb dX7_split_42 (by decide) (fun hc => ?_) (fun hc => ?_)
    · have h := ite_f hc h
      refine lv_aload_n hx hb dX7_split_49 rfl (lv_at hl 1 rfl) ?_
      obtain ⟨r50, hcal, h⟩ := bnd_s h
      refine x_VI (As := []) hx hb hml hown hts hK hP hS (ct_X7_isFullOfSlices l D a cA cT hI g r50 hcal) tM_0 (C := RX7) (F := TX7) (N := 18) rfl (g_V q850 q851 q45 q77 q852) yd_X7_isFullOfSlices ⟨Nat.le_of_ble_eq_true rfl, Nat.le_of_ble_eq_true rfl⟩ [] rfl (Nat.le_of_ble_eq_true rfl) hl.1 ⟨Nat.le_refl _, Nat.le_refl _⟩ dX7_split_50 (fun H locs hP hS => ?_)
      refine lv_if_eq (tgt := 60) hx hb dX7_split_53 (by decide) (fun hc => ?_) (fun hc => ?_)
      · have h := ite_t hc h
        refine lv_aload_n hx hb dX7_split_60 rfl (lv_at hl 1 rfl) ?_
        obtain ⟨g61, hcal, h⟩ := bnd_s h
        refine x_VV (As := []) hx hb hml hown hts hK hP hS (ct_X7_record l D a cA cT hI g g61 hcal) tM_0 (C := RX7) (F := TX7) (N := 18) rfl (g_V q816 q817 q39 q77 q818) yd_X7_record ⟨Nat.le_of_ble_eq_true rfl, Nat.le_of_ble_eq_true rfl⟩ [] rfl (Nat.le_of_ble_eq_true rfl) hl.1 ⟨Nat.le_refl _, Nat.le_refl _⟩ dX7_split_61 (fun H locs hP hS => ?_)
        refine lv_aload_n hx hb dX7_split_64 rfl (lv_at hl 1 rfl) ?_
        refine x_getr hx hb hts inX7 hown hK hP tM_0 (C := RX7) (F := TX7) (N := 18) rfl 0 (by decide) q758 rfl 1 rfl dX7_split_65 ?_
        refine lv_sipush (v := (1325 : Int32)) hx hb dX7_split_68 (by decide) ?_
        refine lv_iload_n hx hb dX7_split_71 rfl (lv_at hl 2 rfl) ?_
        refine lv_iadd hx hb dX7_split_72 ?_
        refine lv_iload_n hx hb dX7_split_73 rfl (lv_at hl 3 rfl) ?_
        obtain ⟨hz, h⟩ := ite_n h
        refine x_ast hx hb hK hI hP hS tM_1 hz dX7_split_74 (fun H locs hP hS => ?_)
        refine lv_aload_n hx hb dX7_split_75 rfl (lv_at hl 1 rfl) ?_
        refine lv_iload_n hx hb dX7_split_76 rfl (lv_at hl 3 rfl) ?_
        refine lv_iload_n hx hb dX7_split_77 rfl (lv_at hl 0 rfl) ?_
        obtain ⟨r78, g78, hcal, h⟩ := bnd2_s h
        refine x_VI (As := [.int x1, .int (g.1 1 ((1325 : Int32) + x0).toNatClampNeg)]) hx hb hml hown hts hK hP hS (ct_X7_cutSlice l D a cA cT hI (g_w g61 1 ((1325 : Int32) + x0).toNatClampNeg x1) x1 (g.1 1 ((1325 : Int32) + x0).toNatClampNeg) r78 g78 hcal) tM_0 (C := RX7) (F := TX7) (N := 18) rfl (g_V q856 q857 q47 q77 q858) yd_X7_cutSlice ⟨Nat.le_of_ble_eq_true rfl, Nat.le_of_ble_eq_true rfl⟩ [] rfl (Nat.le_of_ble_eq_true rfl) hl.1 ⟨Nat.le_refl _, Nat.le_refl _⟩ dX7_split_78 (fun H locs hP hS => ?_)
        refine lv_istore (lv' := [(4, .int r78), (3, .int (g.1 1 ((1325 : Int32) + x0).toNatClampNeg)), (0, .ref (a 0)), (1, .int x0), (2, .int x1)]) hx hb dX7_split_81 hl (by decide) rfl (fun ls hl => ?_)
        refine lv_aload_n hx hb dX7_split_83 rfl (lv_at hl 2 rfl) ?_
        refine lv_iload_n hx hb dX7_split_84 rfl (lv_at hl 3 rfl) ?_
        refine lv_iload hx hb dX7_split_85 (lv_at hl 0 rfl) ?_
        refine lv_iload_n hx hb dX7_split_87 rfl (lv_at hl 4 rfl) ?_
        refine lv_iload_n hx hb dX7_split_88 rfl (lv_at hl 1 rfl) ?_
        obtain ⟨g89, hcal, h⟩ := bnd_s h
        refine x_VV (As := [.int x0, .int r78, .int x1, .int (g.1 1 ((1325 : Int32) + x0).toNatClampNeg)]) hx hb hml hown hts hK hP hS (ct_X7_moveBetween l D a cA cT hI g78 x0 r78 x1 (g.1 1 ((1325 : Int32) + x0).toNatClampNeg) g89 hcal) tM_0 (C := RX7) (F := TX7) (N := 18) rfl (g_V q859 q860 q48 q77 q861) yd_X7_moveBetween ⟨Nat.le_of_ble_eq_true rfl, Nat.le_of_ble_eq_true rfl⟩ [] rfl (Nat.le_of_ble_eq_true rfl) hl.1 ⟨Nat.le_refl _, Nat.le_refl _⟩ dX7_split_89 (fun H locs hP hS => ?_)
        refine lv_iload hx hb dX7_split_92 (lv_at hl 0 rfl) ?_
        obtain ⟨rfl, rfl⟩ := Prod.mk.inj (Option.some.inj h)
        exact hend _ _ _ _ dX7_split_94 rfl hP hS
      · have h := ite_f hc h
        refine lv_sipush (v := (-1003 : Int32)) hx hb dX7_split_56 (by decide) ?_
        obtain ⟨rfl, rfl⟩ := Prod.mk.inj (Option.some.inj h)
        exact hend _ _ _ _ dX7_split_59 rfl hP hS
    · have h := ite_t hc h
      refine lv_sipush (v := (-1002 : Int32)) hx hb dX7_split_45 (by decide) ?_
      obtain ⟨rfl, rfl⟩ := Prod.mk.inj (Option.some.inj h)
      exact hend _ _ _ _ dX7_split_48 rfl hP hS
  · have h := ite_t hc h
    refine lv_sipush (v := (-1001 : Int32)) hx hb dX7_split_8 (by decide) ?_
    obtain ⟨rfl, rfl⟩ := Prod.mk.inj (Option.some.inj h)
    exact hend _ _ _ _ dX7_split_11 rfl hP hS
set_option maxHeartbeats 4000000 in
set_option maxRecDepth 100000 in
theorem ct_X7_merge (l : Launch) (D : va_G) (a : Nat → Nat) (cA cT : ClassId) (hI : WI a TM) (g : MG) (x0 : Int32) (x1 : Int32)  (r : Int32) (g' : MG) (h : m_X7_merge g x0 x1 = some (r, g')) :
    CtI l D a cA cT TM yX7_merge (Cond.code yX7_merge cX7_merge 5 (some .int) :: lw_all) (rmm 2 47) [.ref (a 0), .int x0, .int x1] g r g' := by
  refine CtI.of (by decide +kernel) (Nat.le_of_ble_eq_true rfl) ?_
  intro p e s m args below meth c Q ls hx hb hml hown hts hK hP hS hl hend
  have hl : lv_has ls 5 [(0, .ref (a 0)), (1, .int x0), (2, .int x1)] := hl
  unfold m_X7_merge at h
  have J170 : ∀ (v4 : Int32) (g170 : MG) (H : Heap) (locs : List Loc) (ls : Array Slot), WP D a cA cT TM g170 H → va_S (AA a TM) s.heap H locs → lv_has ls 5 [(0, .ref (a 0)), (1, .int x0), (4, .int v4)] → m_X7_merge_J170 x0 x1 v4 g170 = some (r, g') → W p l e (rmm 2 47) s m args below meth c H locs 0 0 Q (F0 m 170 ls []) := by
    intro v4 g170 H locs ls hP hS hl h
    unfold m_X7_merge_J170 at h
    refine lv_aload_n hx hb dX7_merge_170 rfl (lv_at hl 0 rfl) ?_
    refine x_getr hx hb hts inX7 hown hK hP tM_0 (C := RX7) (F := TX7) (N := 18) rfl 0 (by decide) q758 rfl 1 rfl dX7_merge_171 ?_
    refine lv_sipush (v := (1205 : Int32)) hx hb dX7_merge_174 (by decide) ?_
    refine lv_iload_n hx hb dX7_merge_177 rfl (lv_at hl 1 rfl) ?_
    refine lv_iadd hx hb dX7_merge_178 ?_
    refine lv_iconst (v := (0 : Int32)) hx hb dX7_merge_179 (by decide) ?_
    obtain ⟨hz, h⟩ := ite_n h
    refine x_ast hx hb hK hI hP hS tM_1 hz dX7_merge_180 (fun H locs hP hS => ?_)
    refine lv_iload hx hb dX7_merge_181 (lv_at hl 2 rfl) ?_
    obtain ⟨rfl, rfl⟩ := Prod.mk.inj (Option.some.inj h)
    exact hend _ _ _ _ dX7_merge_183 rfl hP hS
  have J85 : ∀ (v3 : Int32) (g85 : MG) (H : Heap) (locs : List Loc) (ls : Array Slot), WP D a cA cT TM g85 H → va_S (AA a TM) s.heap H locs → lv_has ls 5 [(0, .ref (a 0)), (1, .int x0), (2, .int x1), (3, .int v3)] → m_X7_merge_J85 x0 x1 v3 g85 = some (r, g') → W p l e (rmm 2 47) s m args below meth c H locs 0 0 Q (F0 m 85 ls []) := by
    intro v3 g85 H locs ls hP hS hl h
    unfold m_X7_merge_J85 at h
    refine lv_aload_n hx hb dX7_merge_85 rfl (lv_at hl 0 rfl) ?_
    refine lv_iload_n hx hb dX7_merge_86 rfl (lv_at hl 1 rfl) ?_
    obtain ⟨r87, hcal, h⟩ := bnd_s h
    refine x_VI (As := [.int x0]) hx hb hml hown hts hK hP hS (ct_X7_rowsIn l D a cA cT hI g85 x0 r87 hcal) tM_0 (C := RX7) (F := TX7) (N := 18) rfl (g_V q813 q814 q38 q77 q815) yd_X7_rowsIn ⟨Nat.le_of_ble_eq_true rfl, Nat.le_of_ble_eq_true rfl⟩ [] rfl (Nat.le_of_ble_eq_true rfl) hl.1 ⟨Nat.le_refl _, Nat.le_refl _⟩ dX7_merge_87 (fun H locs hP hS => ?_)
    refine lv_aload_n hx hb dX7_merge_90 rfl (lv_at hl 0 rfl) ?_
    refine lv_iload_n hx hb dX7_merge_91 rfl (lv_at hl 2 rfl) ?_
    obtain ⟨r92, hcal, h⟩ := bnd_s h
    refine x_VI (As := [.int x1]) hx hb hml hown hts hK hP hS (ct_X7_rowsIn l D a cA cT hI g85 x1 r92 hcal) tM_0 (C := RX7) (F := TX7) (N := 18) rfl (g_V q813 q814 q38 q77 q815) yd_X7_rowsIn ⟨Nat.le_of_ble_eq_true rfl, Nat.le_of_ble_eq_true rfl⟩ [.int r87] rfl (Nat.le_of_ble_eq_true rfl) hl.1 ⟨Nat.le_refl _, Nat.le_refl _⟩ dX7_merge_92 (fun H locs hP hS => ?_)
    refine lv_iadd hx hb dX7_merge_95 ?_
    refine lv_istore (lv' := [(4, .int (r87 + r92)), (0, .ref (a 0)), (1, .int x0), (2, .int x1), (3, .int v3)]) hx hb dX7_merge_96 hl (by decide) rfl (fun ls hl => ?_)
    refine lv_iload hx hb dX7_merge_98 (lv_at hl 0 rfl) ?_
    refine lv_bipush (v := (30 : Int32)) hx hb dX7_merge_100 (by decide) ?_
    refine lv_icmp_le (tgt := 109) hx hb dX7_merge_102 (by decide) (fun hc => ?_) (fun hc => ?_)
    · have h := ite_t hc h
      refine lv_aload_n hx hb dX7_merge_109 rfl (lv_at hl 1 rfl) ?_
      obtain ⟨g110, hcal, h⟩ := bnd_s h
      refine x_VV (As := []) hx hb hml hown hts hK hP hS (ct_X7_record l D a cA cT hI g85 g110 hcal) tM_0 (C := RX7) (F := TX7) (N := 18) rfl (g_V q816 q817 q39 q77 q818) yd_X7_record ⟨Nat.le_of_ble_eq_true rfl, Nat.le_of_ble_eq_true rfl⟩ [] rfl (Nat.le_of_ble_eq_true rfl) hl.1 ⟨Nat.le_refl _, Nat.le_refl _⟩ dX7_merge_110 (fun H locs hP hS => ?_)
      refine lv_aload_n hx hb dX7_merge_113 rfl (lv_at hl 1 rfl) ?_
      refine lv_iload_n hx hb dX7_merge_114 rfl (lv_at hl 2 rfl) ?_
      refine lv_iload_n hx hb dX7_merge_115 rfl (lv_at hl 3 rfl) ?_
      refine lv_iconst (v := (0 : Int32)) hx hb dX7_merge_116 (by decide) ?_
      refine lv_sipush (v := (1000 : Int32)) hx hb dX7_merge_117 (by decide) ?_
      obtain ⟨g120, hcal, h⟩ := bnd_s h
      refine x_VV (As := [.int x0, .int x1, .int (0 : Int32), .int (1000 : Int32)]) hx hb hml hown hts hK hP hS (ct_X7_moveBetween l D a cA cT hI g110 x0 x1 (0 : Int32) (1000 : Int32) g120 hcal) tM_0 (C := RX7) (F := TX7) (N := 18) rfl (g_V q859 q860 q48 q77 q861) yd_X7_moveBetween ⟨Nat.le_of_ble_eq_true rfl, Nat.le_of_ble_eq_true rfl⟩ [] rfl (Nat.le_of_ble_eq_true rfl) hl.1 ⟨Nat.le_refl _, Nat.le_refl _⟩ dX7_merge_120 (fun H locs hP hS => ?_)
      refine lv_iload_n hx hb dX7_merge_123 rfl (lv_at hl 4 rfl) ?_
      refine lv_if_eq (tgt := 150) hx hb dX7_merge_124 (by decide) (fun hc => ?_) (fun hc => ?_)
      · have h := ite_t hc h
        refine lv_aload_n hx hb dX7_merge_150 rfl (lv_at hl 1 rfl) ?_
        refine x_getr hx hb hts inX7 hown hK hP tM_0 (C := RX7) (F := TX7) (N := 18) rfl 0 (by decide) q758 rfl 1 rfl dX7_merge_151 ?_
        refine lv_sipush (v := (1325 : Int32)) hx hb dX7_merge_154 (by decide) ?_
        refine lv_iload_n hx hb dX7_merge_157 rfl (lv_at hl 3 rfl) ?_
        refine lv_iadd hx hb dX7_merge_158 ?_
        refine lv_aload_n hx hb dX7_merge_159 rfl (lv_at hl 1 rfl) ?_
        refine x_getr hx hb hts inX7 hown hK hP tM_0 (C := RX7) (F := TX7) (N := 18) rfl 0 (by decide) q758 rfl 1 rfl dX7_merge_160 ?_
        refine lv_sipush (v := (1325 : Int32)) hx hb dX7_merge_163 (by decide) ?_
        refine lv_iload_n hx hb dX7_merge_166 rfl (lv_at hl 2 rfl) ?_
        refine lv_iadd hx hb dX7_merge_167 ?_
        obtain ⟨hz, h⟩ := ite_n h
        refine x_ald hx hb hK hP tM_1 hz dX7_merge_168 ?_
        obtain ⟨hz, h⟩ := ite_n h
        refine x_ast hx hb hK hI hP hS tM_1 hz dX7_merge_169 (fun H locs hP hS => ?_)
        exact J170 (r87 + r92) (g_w g120 1 ((1325 : Int32) + x1).toNatClampNeg (g120.1 1 ((1325 : Int32) + x0).toNatClampNeg)) _ _ _ hP hS (lv_sub hl [1, 2, 0] rfl) h
      · have h := ite_f hc h
        refine lv_aload_n hx hb dX7_merge_127 rfl (lv_at hl 1 rfl) ?_
        refine x_getr hx hb hts inX7 hown hK hP tM_0 (C := RX7) (F := TX7) (N := 18) rfl 0 (by decide) q758 rfl 1 rfl dX7_merge_128 ?_
        refine lv_sipush (v := (1265 : Int32)) hx hb dX7_merge_131 (by decide) ?_
        refine lv_iload_n hx hb dX7_merge_134 rfl (lv_at hl 3 rfl) ?_
        refine lv_iadd hx hb dX7_merge_135 ?_
        refine lv_aload_n hx hb dX7_merge_136 rfl (lv_at hl 1 rfl) ?_
        refine x_getr hx hb hts inX7 hown hK hP tM_0 (C := RX7) (F := TX7) (N := 18) rfl 0 (by decide) q758 rfl 1 rfl dX7_merge_137 ?_
        refine lv_sipush (v := (1265 : Int32)) hx hb dX7_merge_140 (by decide) ?_
        refine lv_iload_n hx hb dX7_merge_143 rfl (lv_at hl 2 rfl) ?_
        refine lv_iadd hx hb dX7_merge_144 ?_
        obtain ⟨hz, h⟩ := ite_n h
        refine x_ald hx hb hK hP tM_1 hz dX7_merge_145 ?_
        obtain ⟨hz, h⟩ := ite_n h
        refine x_ast hx hb hK hI hP hS tM_1 hz dX7_merge_146 (fun H locs hP hS => ?_)
        refine lv_goto (tgt := 170) hx hb dX7_merge_147 (by decide) ?_
        exact J170 (r87 + r92) (g_w g120 1 ((1265 : Int32) + x1).toNatClampNeg (g120.1 1 ((1265 : Int32) + x0).toNatClampNeg)) _ _ _ hP hS (lv_sub hl [1, 2, 0] rfl) h
    · have h := ite_f hc h
      refine lv_sipush (v := (-1003 : Int32)) hx hb dX7_merge_105 (by decide) ?_
      obtain ⟨rfl, rfl⟩ := Prod.mk.inj (Option.some.inj h)
      exact hend _ _ _ _ dX7_merge_108 rfl hP hS
  have J48 : ∀ (w0 : Int32) (g48 : MG) (H : Heap) (locs : List Loc) (ls : Array Slot), WP D a cA cT TM g48 H → va_S (AA a TM) s.heap H locs → lv_has ls 5 [(0, .ref (a 0)), (1, .int x0), (2, .int x1)] → m_X7_merge_J48 x0 x1 w0 g48 = some (r, g') → W p l e (rmm 2 47) s m args below meth c H locs 0 0 Q (F0 m 48 ls [.int w0]) := by
    intro w0 g48 H locs ls hP hS hl h
    unfold m_X7_merge_J48 at h
    refine lv_istore_n (lv' := [(3, .int w0), (0, .ref (a 0)), (1, .int x0), (2, .int x1)]) hx hb dX7_merge_48 rfl hl (by decide) rfl (fun ls hl => ?_)
    refine lv_iload_n hx hb dX7_merge_49 rfl (lv_at hl 2 rfl) ?_
    refine lv_iload_n hx hb dX7_merge_50 rfl (lv_at hl 3 rfl) ?_
    refine lv_icmp_eq (tgt := 81) hx hb dX7_merge_51 (by decide) (fun hc => ?_) (fun hc => ?_)
    · have h := ite_t hc h
      refine lv_sipush (v := (-1004 : Int32)) hx hb dX7_merge_81 (by decide) ?_
      obtain ⟨rfl, rfl⟩ := Prod.mk.inj (Option.some.inj h)
      exact hend _ _ _ _ dX7_merge_84 rfl hP hS
    · have h := ite_f hc h
      refine lv_iload_n hx hb dX7_merge_54 rfl (lv_at hl 0 rfl) ?_
      refine lv_if_ne (tgt := 85) hx hb dX7_merge_55 (by decide) (fun hc => ?_) (fun hc => ?_)
      · have h := ite_f hc h
        exact J85 w0 g48 _ _ _ hP hS (lv_sub hl [1, 2, 3, 0] rfl) h
      · have h := ite_t hc h
        refine lv_aload_n hx hb dX7_merge_58 rfl (lv_at hl 1 rfl) ?_
        refine x_getr hx hb hts inX7 hown hK hP tM_0 (C := RX7) (F := TX7) (N := 18) rfl 0 (by decide) q758 rfl 1 rfl dX7_merge_59 ?_
        refine lv_sipush (v := (1325 : Int32)) hx hb dX7_merge_62 (by decide) ?_
        refine lv_iload_n hx hb dX7_merge_65 rfl (lv_at hl 3 rfl) ?_
        refine lv_iadd hx hb dX7_merge_66 ?_
        obtain ⟨hz, h⟩ := ite_n h
        refine x_ald hx hb hK hP tM_1 hz dX7_merge_67 ?_
        refine lv_aload_n hx hb dX7_merge_68 rfl (lv_at hl 1 rfl) ?_
        refine x_getr hx hb hts inX7 hown hK hP tM_0 (C := RX7) (F := TX7) (N := 18) rfl 0 (by decide) q758 rfl 1 rfl dX7_merge_69 ?_
        refine lv_sipush (v := (1265 : Int32)) hx hb dX7_merge_72 (by decide) ?_
        refine lv_iload_n hx hb dX7_merge_75 rfl (lv_at hl 2 rfl) ?_
        refine lv_iadd hx hb dX7_merge_76 ?_
        obtain ⟨hz, h⟩ := ite_n h
        refine x_ald hx hb hK hP tM_1 hz dX7_merge_77 ?_
        refine lv_icmp_eq (tgt := 85) hx hb dX7_merge_78 (by decide) (fun hc => ?_) (fun hc => ?_)
        · have h := ite_t hc h
          exact J85 w0 g48 _ _ _ hP hS (lv_sub hl [1, 2, 3, 0] rfl) h
        · have h := ite_f hc h
          refine lv_sipush (v := (-1004 : Int32)) hx hb dX7_merge_81 (by decide) ?_
          obtain ⟨rfl, rfl⟩ := Prod.mk.inj (Option.some.inj h)
          exact hend _ _ _ _ dX7_merge_84 rfl hP hS
  refine lv_aload_n hx hb dX7_merge_0 rfl (lv_at hl 0 rfl) ?_
  refine lv_iload_n hx hb dX7_merge_1 rfl (lv_at hl 1 rfl) ?_
  obtain ⟨r2, hcal, h⟩ := bnd_s h
  refine x_VI (As := [.int x0]) hx hb hml hown hts hK hP hS (ct_X7_isSlice l D a cA cT hI g x0 r2 hcal) tM_0 (C := RX7) (F := TX7) (N := 18) rfl (g_V q807 q808 q36 q77 q809) yd_X7_isSlice ⟨Nat.le_of_ble_eq_true rfl, Nat.le_of_ble_eq_true rfl⟩ [] rfl (Nat.le_of_ble_eq_true rfl) hl.1 ⟨Nat.le_refl _, Nat.le_refl _⟩ dX7_merge_2 (fun H locs hP hS => ?_)
  refine lv_if_eq (tgt := 16) hx hb dX7_merge_5 (by decide) (fun hc => ?_) (fun hc => ?_)
  · have h := ite_t hc h
    refine lv_sipush (v := (-1001 : Int32)) hx hb dX7_merge_16 (by decide) ?_
    obtain ⟨rfl, rfl⟩ := Prod.mk.inj (Option.some.inj h)
    exact hend _ _ _ _ dX7_merge_19 rfl hP hS
  · have h := ite_f hc h
    refine lv_aload_n hx hb dX7_merge_8 rfl (lv_at hl 0 rfl) ?_
    refine lv_iload_n hx hb dX7_merge_9 rfl (lv_at hl 2 rfl) ?_
    obtain ⟨r10, hcal, h⟩ := bnd_s h
    refine x_VI (As := [.int x1]) hx hb hml hown hts hK hP hS (ct_X7_isSlice l D a cA cT hI g x1 r10 hcal) tM_0 (C := RX7) (F := TX7) (N := 18) rfl (g_V q807 q808 q36 q77 q809) yd_X7_isSlice ⟨Nat.le_of_ble_eq_true rfl, Nat.le_of_ble_eq_true rfl⟩ [] rfl (Nat.le_of_ble_eq_true rfl) hl.1 ⟨Nat.le_refl _, Nat.le_refl _⟩ dX7_merge_10 (fun H locs hP hS => ?_)
    refine lv_if_ne (tgt := 20) hx hb dX7_merge_13 (by decide) (fun hc => ?_) (fun hc => ?_)
    · have h := ite_f hc h
      refine lv_aload_n hx hb dX7_merge_20 rfl (lv_at hl 0 rfl) ?_
      refine x_getr hx hb hts inX7 hown hK hP tM_0 (C := RX7) (F := TX7) (N := 18) rfl 0 (by decide) q758 rfl 1 rfl dX7_merge_21 ?_
      refine lv_sipush (v := (1325 : Int32)) hx hb dX7_merge_24 (by decide) ?_
      refine lv_iload_n hx hb dX7_merge_27 rfl (lv_at hl 1 rfl) ?_
      refine lv_iadd hx hb dX7_merge_28 ?_
      obtain ⟨hz, h⟩ := ite_n h
      refine x_ald hx hb hK hP tM_1 hz dX7_merge_29 ?_
      refine lv_aload_n hx hb dX7_merge_30 rfl (lv_at hl 0 rfl) ?_
      refine x_getr hx hb hts inX7 hown hK hP tM_0 (C := RX7) (F := TX7) (N := 18) rfl 0 (by decide) q758 rfl 1 rfl dX7_merge_31 ?_
      refine lv_sipush (v := (1265 : Int32)) hx hb dX7_merge_34 (by decide) ?_
      refine lv_iload_n hx hb dX7_merge_37 rfl (lv_at hl 2 rfl) ?_
      refine lv_iadd hx hb dX7_merge_38 ?_
      obtain ⟨hz, h⟩ := ite_n h
      refine x_ald hx hb hK hP tM_1 hz dX7_merge_39 ?_
      refine lv_icmp_ne (tgt := 47) hx hb dX7_merge_40 (by decide) (fun hc => ?_) (fun hc => ?_)
      · have h := ite_f hc h
        refine lv_iconst (v := (0 : Int32)) hx hb dX7_merge_47 (by decide) ?_
        exact J48 (0 : Int32) g _ _ _ hP hS (lv_sub hl [0, 1, 2] rfl) h
      · have h := ite_t hc h
        refine lv_iconst (v := (1 : Int32)) hx hb dX7_merge_43 (by decide) ?_
        refine lv_goto (tgt := 48) hx hb dX7_merge_44 (by decide) ?_
        exact J48 (1 : Int32) g _ _ _ hP hS (lv_sub hl [0, 1, 2] rfl) h
    · have h := ite_t hc h
      refine lv_sipush (v := (-1001 : Int32)) hx hb dX7_merge_16 (by decide) ?_
      obtain ⟨rfl, rfl⟩ := Prod.mk.inj (Option.some.inj h)
      exact hend _ _ _ _ dX7_merge_19 rfl hP hS
set_option maxHeartbeats 4000000 in
set_option maxRecDepth 100000 in
theorem ct_X7_freeKeys (l : Launch) (D : va_G) (a : Nat → Nat) (cA cT : ClassId) (hI : WI a TM) (g : MG)   (r : Int32) (h : m_X7_freeKeys g = some r) :
    CtI l D a cA cT TM yX7_freeKeys (Cond.code yX7_freeKeys cX7_freeKeys 3 (some .int) :: lw_all) (rmm 0 0) [.ref (a 0)] g r g := by
  refine CtI.of (by decide +kernel) (Nat.le_of_ble_eq_true rfl) ?_
  intro p e s m args below meth c Q ls hx hb hml hown hts hK hP hS hl hend
  have hl : lv_has ls 3 [(0, .ref (a 0))] := hl
  unfold m_X7_freeKeys at h
  refine lv_sipush (v := (1000 : Int32)) hx hb dX7_freeKeys_0 (by decide) ?_
  refine lv_istore_n (lv' := [(1, .int (1000 : Int32)), (0, .ref (a 0))]) hx hb dX7_freeKeys_3 rfl hl (by decide) rfl (fun ls hl => ?_)
  refine lv_iconst (v := (0 : Int32)) hx hb dX7_freeKeys_4 (by decide) ?_
  refine lv_istore_n (lv' := [(2, .int (0 : Int32)), (1, .int (1000 : Int32)), (0, .ref (a 0))]) hx hb dX7_freeKeys_5 rfl hl (by decide) rfl (fun ls hl => ?_)
  have K6 : ∀ (n6 : Nat) (v1 : Int32) (v2 : Int32) (H : Heap) (locs : List Loc) (ls : Array Slot), WP D a cA cT TM g H → va_S (AA a TM) s.heap H locs → lv_has ls 3 [(0, .ref (a 0)), (1, .int v1), (2, .int v2)] → lpo (b_X7_freeKeys_L6 g) n6 (v1, v2) = some r → W p l e (rmm 0 0) s m args below meth c H locs 0 0 Q (F0 m 6 ls []) := by
    intro n6
    induction n6 with
    | zero => intro v1 v2 H locs ls hP hS hl h; exact (lpo_0 h).elim
    | succ n6 ih6 =>
      intro v1 v2 H locs ls hP hS hl h
      have h : m_X7_freeKeys_L6 (lpo (b_X7_freeKeys_L6 g) n6) g v1 v2 = some r := h
      unfold m_X7_freeKeys_L6 at h
      refine lv_iload_n hx hb dX7_freeKeys_6 rfl (lv_at hl 2 rfl) ?_
      refine lv_aload_n hx hb dX7_freeKeys_7 rfl (lv_at hl 0 rfl) ?_
      refine x_getr hx hb hts inX7 hown hK hP tM_0 (C := RX7) (F := TX7) (N := 18) rfl 0 (by decide) q758 rfl 1 rfl dX7_freeKeys_8 ?_
      refine lv_iconst (v := (1 : Int32)) hx hb dX7_freeKeys_11 (by decide) ?_
      obtain ⟨hz, h⟩ := ite_n h
      refine x_ald hx hb hK hP tM_1 hz dX7_freeKeys_12 ?_
      refine lv_icmp_ge (tgt := 64) hx hb dX7_freeKeys_13 (by decide) (fun hc => ?_) (fun hc => ?_)
      · have h := ite_t hc h
        refine lv_iload_n hx hb dX7_freeKeys_64 rfl (lv_at hl 1 rfl) ?_
        obtain rfl := Option.some.inj h
        exact hend _ _ _ _ dX7_freeKeys_65 rfl hP hS
      · have h := ite_f hc h
        refine lv_iload_n hx hb dX7_freeKeys_16 rfl (lv_at hl 1 rfl) ?_
        refine lv_aload_n hx hb dX7_freeKeys_17 rfl (lv_at hl 0 rfl) ?_
        refine x_getr hx hb hts inX7 hown hK hP tM_0 (C := RX7) (F := TX7) (N := 18) rfl 0 (by decide) q758 rfl 1 rfl dX7_freeKeys_18 ?_
        refine lv_sipush (v := (1205 : Int32)) hx hb dX7_freeKeys_21 (by decide) ?_
        refine lv_iload_n hx hb dX7_freeKeys_24 rfl (lv_at hl 2 rfl) ?_
        refine lv_iadd hx hb dX7_freeKeys_25 ?_
        obtain ⟨hz, h⟩ := ite_n h
        refine x_ald hx hb hK hP tM_1 hz dX7_freeKeys_26 ?_
        refine lv_iconst (v := (1 : Int32)) hx hb dX7_freeKeys_27 (by decide) ?_
        refine lv_icmp_ne (tgt := 55) hx hb dX7_freeKeys_28 (by decide) (fun hc => ?_) (fun hc => ?_)
        · have h := ite_f hc h
          refine lv_iconst (v := (0 : Int32)) hx hb dX7_freeKeys_55 (by decide) ?_
          refine lv_isub hx hb dX7_freeKeys_56 ?_
          refine lv_istore_n (lv' := [(1, .int (v1 - (0 : Int32))), (0, .ref (a 0)), (2, .int v2)]) hx hb dX7_freeKeys_57 rfl hl (by decide) rfl (fun ls hl => ?_)
          refine lv_iinc (v := (v2 + (1 : Int32))) (lv' := [(2, .int (v2 + (1 : Int32))), (1, .int (v1 - (0 : Int32))), (0, .ref (a 0))]) hx hb dX7_freeKeys_58 hl (k := 2) rfl rfl (by decide) rfl (fun ls hl => ?_)
          refine lv_goto (tgt := 6) hx hb dX7_freeKeys_61 (by decide) ?_
          exact ih6 (v1 - (0 : Int32)) (v2 + (1 : Int32)) _ _ _ hP hS (lv_sub hl [2, 1, 0] rfl) h
        · have h := ite_t hc h
          refine lv_aload_n hx hb dX7_freeKeys_31 rfl (lv_at hl 0 rfl) ?_
          refine x_getr hx hb hts inX7 hown hK hP tM_0 (C := RX7) (F := TX7) (N := 18) rfl 0 (by decide) q758 rfl 1 rfl dX7_freeKeys_32 ?_
          refine lv_sipush (v := (1325 : Int32)) hx hb dX7_freeKeys_35 (by decide) ?_
          refine lv_iload_n hx hb dX7_freeKeys_38 rfl (lv_at hl 2 rfl) ?_
          refine lv_iadd hx hb dX7_freeKeys_39 ?_
          obtain ⟨hz, h⟩ := ite_n h
          refine x_ald hx hb hK hP tM_1 hz dX7_freeKeys_40 ?_
          refine lv_aload_n hx hb dX7_freeKeys_41 rfl (lv_at hl 0 rfl) ?_
          refine x_getr hx hb hts inX7 hown hK hP tM_0 (C := RX7) (F := TX7) (N := 18) rfl 0 (by decide) q758 rfl 1 rfl dX7_freeKeys_42 ?_
          refine lv_sipush (v := (1265 : Int32)) hx hb dX7_freeKeys_45 (by decide) ?_
          refine lv_iload_n hx hb dX7_freeKeys_48 rfl (lv_at hl 2 rfl) ?_
          refine lv_iadd hx hb dX7_freeKeys_49 ?_
          obtain ⟨hz, h⟩ := ite_n h
          refine x_ald hx hb hK hP tM_1 hz dX7_freeKeys_50 ?_
          refine lv_isub hx hb dX7_freeKeys_51 ?_
          refine lv_goto (tgt := 56) hx hb dX7_freeKeys_52 (by decide) ?_
          refine lv_isub hx hb dX7_freeKeys_56 ?_
          refine lv_istore_n (lv' := [(1, .int (v1 - ((g.1 1 ((1325 : Int32) + v2).toNatClampNeg) - (g.1 1 ((1265 : Int32) + v2).toNatClampNeg)))), (0, .ref (a 0)), (2, .int v2)]) hx hb dX7_freeKeys_57 rfl hl (by decide) rfl (fun ls hl => ?_)
          refine lv_iinc (v := (v2 + (1 : Int32))) (lv' := [(2, .int (v2 + (1 : Int32))), (1, .int (v1 - ((g.1 1 ((1325 : Int32) + v2).toNatClampNeg) - (g.1 1 ((1265 : Int32) + v2).toNatClampNeg)))), (0, .ref (a 0))]) hx hb dX7_freeKeys_58 hl (k := 2) rfl rfl (by decide) rfl (fun ls hl => ?_)
          refine lv_goto (tgt := 6) hx hb dX7_freeKeys_61 (by decide) ?_
          exact ih6 (v1 - ((g.1 1 ((1325 : Int32) + v2).toNatClampNeg) - (g.1 1 ((1265 : Int32) + v2).toNatClampNeg))) (v2 + (1 : Int32)) _ _ _ hP hS (lv_sub hl [2, 1, 0] rfl) h
  exact K6 fuelN (1000 : Int32) (0 : Int32) _ _ _ hP hS (lv_sub hl [2, 1, 0] rfl) h
set_option maxHeartbeats 4000000 in
set_option maxRecDepth 100000 in
theorem ct_X7_useDefault (l : Launch) (D : va_G) (a : Nat → Nat) (cA cT : ClassId) (hI : WI a TM) (g : MG) (x0 : Int32)  (r : Int32) (g' : MG) (h : m_X7_useDefault g x0 = some (r, g')) :
    CtI l D a cA cT TM yX7_useDefault (Cond.code yX7_useDefault cX7_useDefault 2 (some .int) :: lw_all) (rmm 1 23) [.ref (a 0), .int x0] g r g' := by
  refine CtI.of (by decide +kernel) (Nat.le_of_ble_eq_true rfl) ?_
  intro p e s m args below meth c Q ls hx hb hml hown hts hK hP hS hl hend
  have hl : lv_has ls 2 [(0, .ref (a 0)), (1, .int x0)] := hl
  unfold m_X7_useDefault at h
  refine lv_aload_n hx hb dX7_useDefault_0 rfl (lv_at hl 0 rfl) ?_
  refine x_getr hx hb hts inX7 hown hK hP tM_0 (C := RX7) (F := TX7) (N := 18) rfl 0 (by decide) q758 rfl 1 rfl dX7_useDefault_1 ?_
  refine lv_iconst (v := (2 : Int32)) hx hb dX7_useDefault_4 (by decide) ?_
  obtain ⟨hz, h⟩ := ite_n h
  refine x_ald hx hb hK hP tM_1 hz dX7_useDefault_5 ?_
  refine lv_iconst (v := (1 : Int32)) hx hb dX7_useDefault_6 (by decide) ?_
  refine lv_icmp_ne (tgt := 14) hx hb dX7_useDefault_7 (by decide) (fun hc => ?_) (fun hc => ?_)
  · have h := ite_f hc h
    refine lv_iconst (v := (0 : Int32)) hx hb dX7_useDefault_14 (by decide) ?_
    refine lv_iload_n hx hb dX7_useDefault_15 rfl (lv_at hl 1 rfl) ?_
    refine lv_icmp_ne (tgt := 23) hx hb dX7_useDefault_16 (by decide) (fun hc => ?_) (fun hc => ?_)
    · have h := ite_f hc h
      refine lv_iload_n hx hb dX7_useDefault_23 rfl (lv_at hl 1 rfl) ?_
      refine lv_if_ne (tgt := 40) hx hb dX7_useDefault_24 (by decide) (fun hc => ?_) (fun hc => ?_)
      · have h := ite_f hc h
        refine lv_aload_n hx hb dX7_useDefault_40 rfl (lv_at hl 0 rfl) ?_
        obtain ⟨g41, hcal, h⟩ := bnd_s h
        refine x_VV (As := []) hx hb hml hown hts hK hP hS (ct_X7_record l D a cA cT hI g g41 hcal) tM_0 (C := RX7) (F := TX7) (N := 18) rfl (g_V q816 q817 q39 q77 q818) yd_X7_record ⟨Nat.le_of_ble_eq_true rfl, Nat.le_of_ble_eq_true rfl⟩ [] rfl (Nat.le_of_ble_eq_true rfl) hl.1 ⟨Nat.le_refl _, Nat.le_refl _⟩ dX7_useDefault_41 (fun H locs hP hS => ?_)
        refine lv_aload_n hx hb dX7_useDefault_44 rfl (lv_at hl 0 rfl) ?_
        refine x_getr hx hb hts inX7 hown hK hP tM_0 (C := RX7) (F := TX7) (N := 18) rfl 0 (by decide) q758 rfl 1 rfl dX7_useDefault_45 ?_
        refine lv_iconst (v := (2 : Int32)) hx hb dX7_useDefault_48 (by decide) ?_
        refine lv_iload_n hx hb dX7_useDefault_49 rfl (lv_at hl 1 rfl) ?_
        refine lv_if_eq (tgt := 57) hx hb dX7_useDefault_50 (by decide) (fun hc => ?_) (fun hc => ?_)
        · have h := ite_t hc h
          refine lv_iconst (v := (0 : Int32)) hx hb dX7_useDefault_57 (by decide) ?_
          obtain ⟨hz, h⟩ := ite_n h
          refine x_ast hx hb hK hI hP hS tM_1 hz dX7_useDefault_58 (fun H locs hP hS => ?_)
          refine lv_aload_n hx hb dX7_useDefault_59 rfl (lv_at hl 0 rfl) ?_
          obtain ⟨r60, hcal, h⟩ := bnd_s h
          refine x_VI (As := []) hx hb hml hown hts hK hP hS (ct_X7_freeKeys l D a cA cT hI (g_w g41 1 (2 : Int32).toNatClampNeg (0 : Int32)) r60 hcal) tM_0 (C := RX7) (F := TX7) (N := 18) rfl (g_V q890 q891 q49 q77 q892) yd_X7_freeKeys ⟨Nat.le_of_ble_eq_true rfl, Nat.le_of_ble_eq_true rfl⟩ [] rfl (Nat.le_of_ble_eq_true rfl) hl.1 ⟨Nat.le_refl _, Nat.le_refl _⟩ dX7_useDefault_60 (fun H locs hP hS => ?_)
          obtain ⟨rfl, rfl⟩ := Prod.mk.inj (Option.some.inj h)
          exact hend _ _ _ _ dX7_useDefault_63 rfl hP hS
        · have h := ite_f hc h
          refine lv_iconst (v := (1 : Int32)) hx hb dX7_useDefault_53 (by decide) ?_
          refine lv_goto (tgt := 58) hx hb dX7_useDefault_54 (by decide) ?_
          obtain ⟨hz, h⟩ := ite_n h
          refine x_ast hx hb hK hI hP hS tM_1 hz dX7_useDefault_58 (fun H locs hP hS => ?_)
          refine lv_aload_n hx hb dX7_useDefault_59 rfl (lv_at hl 0 rfl) ?_
          obtain ⟨r60, hcal, h⟩ := bnd_s h
          refine x_VI (As := []) hx hb hml hown hts hK hP hS (ct_X7_freeKeys l D a cA cT hI (g_w g41 1 (2 : Int32).toNatClampNeg (1 : Int32)) r60 hcal) tM_0 (C := RX7) (F := TX7) (N := 18) rfl (g_V q890 q891 q49 q77 q892) yd_X7_freeKeys ⟨Nat.le_of_ble_eq_true rfl, Nat.le_of_ble_eq_true rfl⟩ [] rfl (Nat.le_of_ble_eq_true rfl) hl.1 ⟨Nat.le_refl _, Nat.le_refl _⟩ dX7_useDefault_60 (fun H locs hP hS => ?_)
          obtain ⟨rfl, rfl⟩ := Prod.mk.inj (Option.some.inj h)
          exact hend _ _ _ _ dX7_useDefault_63 rfl hP hS
      · have h := ite_t hc h
        refine lv_aload_n hx hb dX7_useDefault_27 rfl (lv_at hl 0 rfl) ?_
        refine lv_bipush (v := (60 : Int32)) hx hb dX7_useDefault_28 (by decide) ?_
        obtain ⟨r30, hcal, h⟩ := bnd_s h
        refine x_VI (As := [.int (60 : Int32)]) hx hb hml hown hts hK hP hS (ct_X7_rowsIn l D a cA cT hI g (60 : Int32) r30 hcal) tM_0 (C := RX7) (F := TX7) (N := 18) rfl (g_V q813 q814 q38 q77 q815) yd_X7_rowsIn ⟨Nat.le_of_ble_eq_true rfl, Nat.le_of_ble_eq_true rfl⟩ [] rfl (Nat.le_of_ble_eq_true rfl) hl.1 ⟨Nat.le_refl _, Nat.le_refl _⟩ dX7_useDefault_30 (fun H locs hP hS => ?_)
        refine lv_if_le (tgt := 40) hx hb dX7_useDefault_33 (by decide) (fun hc => ?_) (fun hc => ?_)
        · have h := ite_t hc h
          refine lv_aload_n hx hb dX7_useDefault_40 rfl (lv_at hl 0 rfl) ?_
          obtain ⟨g41, hcal, h⟩ := bnd_s h
          refine x_VV (As := []) hx hb hml hown hts hK hP hS (ct_X7_record l D a cA cT hI g g41 hcal) tM_0 (C := RX7) (F := TX7) (N := 18) rfl (g_V q816 q817 q39 q77 q818) yd_X7_record ⟨Nat.le_of_ble_eq_true rfl, Nat.le_of_ble_eq_true rfl⟩ [] rfl (Nat.le_of_ble_eq_true rfl) hl.1 ⟨Nat.le_refl _, Nat.le_refl _⟩ dX7_useDefault_41 (fun H locs hP hS => ?_)
          refine lv_aload_n hx hb dX7_useDefault_44 rfl (lv_at hl 0 rfl) ?_
          refine x_getr hx hb hts inX7 hown hK hP tM_0 (C := RX7) (F := TX7) (N := 18) rfl 0 (by decide) q758 rfl 1 rfl dX7_useDefault_45 ?_
          refine lv_iconst (v := (2 : Int32)) hx hb dX7_useDefault_48 (by decide) ?_
          refine lv_iload_n hx hb dX7_useDefault_49 rfl (lv_at hl 1 rfl) ?_
          refine lv_if_eq (tgt := 57) hx hb dX7_useDefault_50 (by decide) (fun hc => ?_) (fun hc => ?_)
          · have h := ite_t hc h
            refine lv_iconst (v := (0 : Int32)) hx hb dX7_useDefault_57 (by decide) ?_
            obtain ⟨hz, h⟩ := ite_n h
            refine x_ast hx hb hK hI hP hS tM_1 hz dX7_useDefault_58 (fun H locs hP hS => ?_)
            refine lv_aload_n hx hb dX7_useDefault_59 rfl (lv_at hl 0 rfl) ?_
            obtain ⟨r60, hcal, h⟩ := bnd_s h
            refine x_VI (As := []) hx hb hml hown hts hK hP hS (ct_X7_freeKeys l D a cA cT hI (g_w g41 1 (2 : Int32).toNatClampNeg (0 : Int32)) r60 hcal) tM_0 (C := RX7) (F := TX7) (N := 18) rfl (g_V q890 q891 q49 q77 q892) yd_X7_freeKeys ⟨Nat.le_of_ble_eq_true rfl, Nat.le_of_ble_eq_true rfl⟩ [] rfl (Nat.le_of_ble_eq_true rfl) hl.1 ⟨Nat.le_refl _, Nat.le_refl _⟩ dX7_useDefault_60 (fun H locs hP hS => ?_)
            obtain ⟨rfl, rfl⟩ := Prod.mk.inj (Option.some.inj h)
            exact hend _ _ _ _ dX7_useDefault_63 rfl hP hS
          · have h := ite_f hc h
            refine lv_iconst (v := (1 : Int32)) hx hb dX7_useDefault_53 (by decide) ?_
            refine lv_goto (tgt := 58) hx hb dX7_useDefault_54 (by decide) ?_
            obtain ⟨hz, h⟩ := ite_n h
            refine x_ast hx hb hK hI hP hS tM_1 hz dX7_useDefault_58 (fun H locs hP hS => ?_)
            refine lv_aload_n hx hb dX7_useDefault_59 rfl (lv_at hl 0 rfl) ?_
            obtain ⟨r60, hcal, h⟩ := bnd_s h
            refine x_VI (As := []) hx hb hml hown hts hK hP hS (ct_X7_freeKeys l D a cA cT hI (g_w g41 1 (2 : Int32).toNatClampNeg (1 : Int32)) r60 hcal) tM_0 (C := RX7) (F := TX7) (N := 18) rfl (g_V q890 q891 q49 q77 q892) yd_X7_freeKeys ⟨Nat.le_of_ble_eq_true rfl, Nat.le_of_ble_eq_true rfl⟩ [] rfl (Nat.le_of_ble_eq_true rfl) hl.1 ⟨Nat.le_refl _, Nat.le_refl _⟩ dX7_useDefault_60 (fun H locs hP hS => ?_)
            obtain ⟨rfl, rfl⟩ := Prod.mk.inj (Option.some.inj h)
            exact hend _ _ _ _ dX7_useDefault_63 rfl hP hS
        · have h := ite_f hc h
          refine lv_sipush (v := (-1004 : Int32)) hx hb dX7_useDefault_36 (by decide) ?_
          obtain ⟨rfl, rfl⟩ := Prod.mk.inj (Option.some.inj h)
          exact hend _ _ _ _ dX7_useDefault_39 rfl hP hS
    · have h := ite_t hc h
      refine lv_sipush (v := (-1005 : Int32)) hx hb dX7_useDefault_19 (by decide) ?_
      obtain ⟨rfl, rfl⟩ := Prod.mk.inj (Option.some.inj h)
      exact hend _ _ _ _ dX7_useDefault_22 rfl hP hS
  · have h := ite_t hc h
    refine lv_iconst (v := (1 : Int32)) hx hb dX7_useDefault_10 (by decide) ?_
    refine lv_goto (tgt := 15) hx hb dX7_useDefault_11 (by decide) ?_
    refine lv_iload_n hx hb dX7_useDefault_15 rfl (lv_at hl 1 rfl) ?_
    refine lv_icmp_ne (tgt := 23) hx hb dX7_useDefault_16 (by decide) (fun hc => ?_) (fun hc => ?_)
    · have h := ite_f hc h
      refine lv_iload_n hx hb dX7_useDefault_23 rfl (lv_at hl 1 rfl) ?_
      refine lv_if_ne (tgt := 40) hx hb dX7_useDefault_24 (by decide) (fun hc => ?_) (fun hc => ?_)
      · have h := ite_f hc h
        refine lv_aload_n hx hb dX7_useDefault_40 rfl (lv_at hl 0 rfl) ?_
        obtain ⟨g41, hcal, h⟩ := bnd_s h
        refine x_VV (As := []) hx hb hml hown hts hK hP hS (ct_X7_record l D a cA cT hI g g41 hcal) tM_0 (C := RX7) (F := TX7) (N := 18) rfl (g_V q816 q817 q39 q77 q818) yd_X7_record ⟨Nat.le_of_ble_eq_true rfl, Nat.le_of_ble_eq_true rfl⟩ [] rfl (Nat.le_of_ble_eq_true rfl) hl.1 ⟨Nat.le_refl _, Nat.le_refl _⟩ dX7_useDefault_41 (fun H locs hP hS => ?_)
        refine lv_aload_n hx hb dX7_useDefault_44 rfl (lv_at hl 0 rfl) ?_
        refine x_getr hx hb hts inX7 hown hK hP tM_0 (C := RX7) (F := TX7) (N := 18) rfl 0 (by decide) q758 rfl 1 rfl dX7_useDefault_45 ?_
        refine lv_iconst (v := (2 : Int32)) hx hb dX7_useDefault_48 (by decide) ?_
        refine lv_iload_n hx hb dX7_useDefault_49 rfl (lv_at hl 1 rfl) ?_
        refine lv_if_eq (tgt := 57) hx hb dX7_useDefault_50 (by decide) (fun hc => ?_) (fun hc => ?_)
        · have h := ite_t hc h
          refine lv_iconst (v := (0 : Int32)) hx hb dX7_useDefault_57 (by decide) ?_
          obtain ⟨hz, h⟩ := ite_n h
          refine x_ast hx hb hK hI hP hS tM_1 hz dX7_useDefault_58 (fun H locs hP hS => ?_)
          refine lv_aload_n hx hb dX7_useDefault_59 rfl (lv_at hl 0 rfl) ?_
          obtain ⟨r60, hcal, h⟩ := bnd_s h
          refine x_VI (As := []) hx hb hml hown hts hK hP hS (ct_X7_freeKeys l D a cA cT hI (g_w g41 1 (2 : Int32).toNatClampNeg (0 : Int32)) r60 hcal) tM_0 (C := RX7) (F := TX7) (N := 18) rfl (g_V q890 q891 q49 q77 q892) yd_X7_freeKeys ⟨Nat.le_of_ble_eq_true rfl, Nat.le_of_ble_eq_true rfl⟩ [] rfl (Nat.le_of_ble_eq_true rfl) hl.1 ⟨Nat.le_refl _, Nat.le_refl _⟩ dX7_useDefault_60 (fun H locs hP hS => ?_)
          obtain ⟨rfl, rfl⟩ := Prod.mk.inj (Option.some.inj h)
          exact hend _ _ _ _ dX7_useDefault_63 rfl hP hS
        · have h := ite_f hc h
          refine lv_iconst (v := (1 : Int32)) hx hb dX7_useDefault_53 (by decide) ?_
          refine lv_goto (tgt := 58) hx hb dX7_useDefault_54 (by decide) ?_
          obtain ⟨hz, h⟩ := ite_n h
          refine x_ast hx hb hK hI hP hS tM_1 hz dX7_useDefault_58 (fun H locs hP hS => ?_)
          refine lv_aload_n hx hb dX7_useDefault_59 rfl (lv_at hl 0 rfl) ?_
          obtain ⟨r60, hcal, h⟩ := bnd_s h
          refine x_VI (As := []) hx hb hml hown hts hK hP hS (ct_X7_freeKeys l D a cA cT hI (g_w g41 1 (2 : Int32).toNatClampNeg (1 : Int32)) r60 hcal) tM_0 (C := RX7) (F := TX7) (N := 18) rfl (g_V q890 q891 q49 q77 q892) yd_X7_freeKeys ⟨Nat.le_of_ble_eq_true rfl, Nat.le_of_ble_eq_true rfl⟩ [] rfl (Nat.le_of_ble_eq_true rfl) hl.1 ⟨Nat.le_refl _, Nat.le_refl _⟩ dX7_useDefault_60 (fun H locs hP hS => ?_)
          obtain ⟨rfl, rfl⟩ := Prod.mk.inj (Option.some.inj h)
          exact hend _ _ _ _ dX7_useDefault_63 rfl hP hS
      · have h := ite_t hc h
        refine lv_aload_n hx hb dX7_useDefault_27 rfl (lv_at hl 0 rfl) ?_
        refine lv_bipush (v := (60 : Int32)) hx hb dX7_useDefault_28 (by decide) ?_
        obtain ⟨r30, hcal, h⟩ := bnd_s h
        refine x_VI (As := [.int (60 : Int32)]) hx hb hml hown hts hK hP hS (ct_X7_rowsIn l D a cA cT hI g (60 : Int32) r30 hcal) tM_0 (C := RX7) (F := TX7) (N := 18) rfl (g_V q813 q814 q38 q77 q815) yd_X7_rowsIn ⟨Nat.le_of_ble_eq_true rfl, Nat.le_of_ble_eq_true rfl⟩ [] rfl (Nat.le_of_ble_eq_true rfl) hl.1 ⟨Nat.le_refl _, Nat.le_refl _⟩ dX7_useDefault_30 (fun H locs hP hS => ?_)
        refine lv_if_le (tgt := 40) hx hb dX7_useDefault_33 (by decide) (fun hc => ?_) (fun hc => ?_)
        · have h := ite_t hc h
          refine lv_aload_n hx hb dX7_useDefault_40 rfl (lv_at hl 0 rfl) ?_
          obtain ⟨g41, hcal, h⟩ := bnd_s h
          refine x_VV (As := []) hx hb hml hown hts hK hP hS (ct_X7_record l D a cA cT hI g g41 hcal) tM_0 (C := RX7) (F := TX7) (N := 18) rfl (g_V q816 q817 q39 q77 q818) yd_X7_record ⟨Nat.le_of_ble_eq_true rfl, Nat.le_of_ble_eq_true rfl⟩ [] rfl (Nat.le_of_ble_eq_true rfl) hl.1 ⟨Nat.le_refl _, Nat.le_refl _⟩ dX7_useDefault_41 (fun H locs hP hS => ?_)
          refine lv_aload_n hx hb dX7_useDefault_44 rfl (lv_at hl 0 rfl) ?_
          refine x_getr hx hb hts inX7 hown hK hP tM_0 (C := RX7) (F := TX7) (N := 18) rfl 0 (by decide) q758 rfl 1 rfl dX7_useDefault_45 ?_
          refine lv_iconst (v := (2 : Int32)) hx hb dX7_useDefault_48 (by decide) ?_
          refine lv_iload_n hx hb dX7_useDefault_49 rfl (lv_at hl 1 rfl) ?_
          refine lv_if_eq (tgt := 57) hx hb dX7_useDefault_50 (by decide) (fun hc => ?_) (fun hc => ?_)
          · have h := ite_t hc h
            refine lv_iconst (v := (0 : Int32)) hx hb dX7_useDefault_57 (by decide) ?_
            obtain ⟨hz, h⟩ := ite_n h
            refine x_ast hx hb hK hI hP hS tM_1 hz dX7_useDefault_58 (fun H locs hP hS => ?_)
            refine lv_aload_n hx hb dX7_useDefault_59 rfl (lv_at hl 0 rfl) ?_
            obtain ⟨r60, hcal, h⟩ := bnd_s h
            refine x_VI (As := []) hx hb hml hown hts hK hP hS (ct_X7_freeKeys l D a cA cT hI (g_w g41 1 (2 : Int32).toNatClampNeg (0 : Int32)) r60 hcal) tM_0 (C := RX7) (F := TX7) (N := 18) rfl (g_V q890 q891 q49 q77 q892) yd_X7_freeKeys ⟨Nat.le_of_ble_eq_true rfl, Nat.le_of_ble_eq_true rfl⟩ [] rfl (Nat.le_of_ble_eq_true rfl) hl.1 ⟨Nat.le_refl _, Nat.le_refl _⟩ dX7_useDefault_60 (fun H locs hP hS => ?_)
            obtain ⟨rfl, rfl⟩ := Prod.mk.inj (Option.some.inj h)
            exact hend _ _ _ _ dX7_useDefault_63 rfl hP hS
          · have h := ite_f hc h
            refine lv_iconst (v := (1 : Int32)) hx hb dX7_useDefault_53 (by decide) ?_
            refine lv_goto (tgt := 58) hx hb dX7_useDefault_54 (by decide) ?_
            obtain ⟨hz, h⟩ := ite_n h
            refine x_ast hx hb hK hI hP hS tM_1 hz dX7_useDefault_58 (fun H locs hP hS => ?_)
            refine lv_aload_n hx hb dX7_useDefault_59 rfl (lv_at hl 0 rfl) ?_
            obtain ⟨r60, hcal, h⟩ := bnd_s h
            refine x_VI (As := []) hx hb hml hown hts hK hP hS (ct_X7_freeKeys l D a cA cT hI (g_w g41 1 (2 : Int32).toNatClampNeg (1 : Int32)) r60 hcal) tM_0 (C := RX7) (F := TX7) (N := 18) rfl (g_V q890 q891 q49 q77 q892) yd_X7_freeKeys ⟨Nat.le_of_ble_eq_true rfl, Nat.le_of_ble_eq_true rfl⟩ [] rfl (Nat.le_of_ble_eq_true rfl) hl.1 ⟨Nat.le_refl _, Nat.le_refl _⟩ dX7_useDefault_60 (fun H locs hP hS => ?_)
            obtain ⟨rfl, rfl⟩ := Prod.mk.inj (Option.some.inj h)
            exact hend _ _ _ _ dX7_useDefault_63 rfl hP hS
        · have h := ite_f hc h
          refine lv_sipush (v := (-1004 : Int32)) hx hb dX7_useDefault_36 (by decide) ?_
          obtain ⟨rfl, rfl⟩ := Prod.mk.inj (Option.some.inj h)
          exact hend _ _ _ _ dX7_useDefault_39 rfl hP hS
    · have h := ite_t hc h
      refine lv_sipush (v := (-1005 : Int32)) hx hb dX7_useDefault_19 (by decide) ?_
      obtain ⟨rfl, rfl⟩ := Prod.mk.inj (Option.some.inj h)
      exact hend _ _ _ _ dX7_useDefault_22 rfl hP hS
set_option maxHeartbeats 4000000 in
set_option maxRecDepth 100000 in
theorem ct_X7_strays (l : Launch) (D : va_G) (a : Nat → Nat) (cA cT : ClassId) (hI : WI a TM) (g : MG)   (r : Int32) (h : m_X7_strays g = some r) :
    CtI l D a cA cT TM yX7_strays (Cond.code yX7_strays cX7_strays 3 (some .int) :: lw_all) (rmm 5 110) [.ref (a 0)] g r g := by
  refine CtI.of (by decide +kernel) (Nat.le_of_ble_eq_true rfl) ?_
  intro p e s m args below meth c Q ls hx hb hml hown hts hK hP hS hl hend
  have hl : lv_has ls 3 [(0, .ref (a 0))] := hl
  unfold m_X7_strays at h
  refine lv_iconst (v := (0 : Int32)) hx hb dX7_strays_0 (by decide) ?_
  refine lv_istore_n (lv' := [(1, .int (0 : Int32)), (0, .ref (a 0))]) hx hb dX7_strays_1 rfl hl (by decide) rfl (fun ls hl => ?_)
  refine lv_iconst (v := (0 : Int32)) hx hb dX7_strays_2 (by decide) ?_
  refine lv_istore_n (lv' := [(2, .int (0 : Int32)), (1, .int (0 : Int32)), (0, .ref (a 0))]) hx hb dX7_strays_3 rfl hl (by decide) rfl (fun ls hl => ?_)
  have K4 : ∀ (n4 : Nat) (v1 : Int32) (v2 : Int32) (H : Heap) (locs : List Loc) (ls : Array Slot), WP D a cA cT TM g H → va_S (AA a TM) s.heap H locs → lv_has ls 3 [(0, .ref (a 0)), (1, .int v1), (2, .int v2)] → lpo (b_X7_strays_L4 g) n4 (v1, v2) = some r → W p l e (rmm 5 110) s m args below meth c H locs 0 0 Q (F0 m 4 ls []) := by
    intro n4
    induction n4 with
    | zero => intro v1 v2 H locs ls hP hS hl h; exact (lpo_0 h).elim
    | succ n4 ih4 =>
      intro v1 v2 H locs ls hP hS hl h
      have h : m_X7_strays_L4 (lpo (b_X7_strays_L4 g) n4) g v1 v2 = some r := h
      unfold m_X7_strays_L4 at h
      refine lv_iload_n hx hb dX7_strays_4 rfl (lv_at hl 2 rfl) ?_
      refine lv_aload_n hx hb dX7_strays_5 rfl (lv_at hl 0 rfl) ?_
      refine x_getr hx hb hts inX7 hown hK hP tM_0 (C := RX7) (F := TX7) (N := 18) rfl 0 (by decide) q758 rfl 1 rfl dX7_strays_6 ?_
      refine lv_iconst (v := (0 : Int32)) hx hb dX7_strays_9 (by decide) ?_
      obtain ⟨hz, h⟩ := ite_n h
      refine x_ald hx hb hK hP tM_1 hz dX7_strays_10 ?_
      refine lv_icmp_ge (tgt := 36) hx hb dX7_strays_11 (by decide) (fun hc => ?_) (fun hc => ?_)
      · have h := ite_t hc h
        refine lv_iload_n hx hb dX7_strays_36 rfl (lv_at hl 1 rfl) ?_
        obtain rfl := Option.some.inj h
        exact hend _ _ _ _ dX7_strays_37 rfl hP hS
      · have h := ite_f hc h
        refine lv_iload_n hx hb dX7_strays_14 rfl (lv_at hl 1 rfl) ?_
        refine lv_aload_n hx hb dX7_strays_15 rfl (lv_at hl 0 rfl) ?_
        refine lv_iload_n hx hb dX7_strays_16 rfl (lv_at hl 2 rfl) ?_
        obtain ⟨r17, hcal, h⟩ := bnd_s h
        refine x_VI (As := [.int v2]) hx hb hml hown hts hK hP hS (ct_X7_isStray l D a cA cT hI g v2 r17 hcal) tM_0 (C := RX7) (F := TX7) (N := 18) rfl (g_V q900 q901 q51 q77 q902) yd_X7_isStray ⟨Nat.le_of_ble_eq_true rfl, Nat.le_of_ble_eq_true rfl⟩ [.int v1] rfl (Nat.le_of_ble_eq_true rfl) hl.1 ⟨Nat.le_refl _, Nat.le_refl _⟩ dX7_strays_17 (fun H locs hP hS => ?_)
        refine lv_if_eq (tgt := 27) hx hb dX7_strays_20 (by decide) (fun hc => ?_) (fun hc => ?_)
        · have h := ite_t hc h
          refine lv_iconst (v := (0 : Int32)) hx hb dX7_strays_27 (by decide) ?_
          refine lv_iadd hx hb dX7_strays_28 ?_
          refine lv_istore_n (lv' := [(1, .int (v1 + (0 : Int32))), (0, .ref (a 0)), (2, .int v2)]) hx hb dX7_strays_29 rfl hl (by decide) rfl (fun ls hl => ?_)
          refine lv_iinc (v := (v2 + (1 : Int32))) (lv' := [(2, .int (v2 + (1 : Int32))), (1, .int (v1 + (0 : Int32))), (0, .ref (a 0))]) hx hb dX7_strays_30 hl (k := 2) rfl rfl (by decide) rfl (fun ls hl => ?_)
          refine lv_goto (tgt := 4) hx hb dX7_strays_33 (by decide) ?_
          exact ih4 (v1 + (0 : Int32)) (v2 + (1 : Int32)) _ _ _ hP hS (lv_sub hl [2, 1, 0] rfl) h
        · have h := ite_f hc h
          refine lv_iconst (v := (1 : Int32)) hx hb dX7_strays_23 (by decide) ?_
          refine lv_goto (tgt := 28) hx hb dX7_strays_24 (by decide) ?_
          refine lv_iadd hx hb dX7_strays_28 ?_
          refine lv_istore_n (lv' := [(1, .int (v1 + (1 : Int32))), (0, .ref (a 0)), (2, .int v2)]) hx hb dX7_strays_29 rfl hl (by decide) rfl (fun ls hl => ?_)
          refine lv_iinc (v := (v2 + (1 : Int32))) (lv' := [(2, .int (v2 + (1 : Int32))), (1, .int (v1 + (1 : Int32))), (0, .ref (a 0))]) hx hb dX7_strays_30 hl (k := 2) rfl rfl (by decide) rfl (fun ls hl => ?_)
          refine lv_goto (tgt := 4) hx hb dX7_strays_33 (by decide) ?_
          exact ih4 (v1 + (1 : Int32)) (v2 + (1 : Int32)) _ _ _ hP hS (lv_sub hl [2, 1, 0] rfl) h
  exact K4 fuelN (0 : Int32) (0 : Int32) _ _ _ hP hS (lv_sub hl [2, 1, 0] rfl) h
set_option maxHeartbeats 4000000 in
set_option maxRecDepth 100000 in
theorem ct_X7_mend (l : Launch) (D : va_G) (a : Nat → Nat) (cA cT : ClassId) (hI : WI a TM) (g : MG)   (r : Int32) (g' : MG) (h : m_X7_mend g = some (r, g')) :
    CtI l D a cA cT TM yX7_mend (Cond.code yX7_mend cX7_mend 4 (some .int) :: lw_all) (rmm 6 132) [.ref (a 0)] g r g' := by
  refine CtI.of (by decide +kernel) (Nat.le_of_ble_eq_true rfl) ?_
  intro p e s m args below meth c Q ls hx hb hml hown hts hK hP hS hl hend
  have hl : lv_has ls 4 [(0, .ref (a 0))] := hl
  unfold m_X7_mend at h
  refine lv_aload_n hx hb dX7_mend_0 rfl (lv_at hl 0 rfl) ?_
  obtain ⟨r1, hcal, h⟩ := bnd_s h
  refine x_VI (As := []) hx hb hml hown hts hK hP hS (ct_X7_strays l D a cA cT hI g r1 hcal) tM_0 (C := RX7) (F := TX7) (N := 18) rfl (g_V q897 q898 q50 q77 q899) yd_X7_strays ⟨Nat.le_of_ble_eq_true rfl, Nat.le_of_ble_eq_true rfl⟩ [] rfl (Nat.le_of_ble_eq_true rfl) hl.1 ⟨Nat.le_refl _, Nat.le_refl _⟩ dX7_mend_1 (fun H locs hP hS => ?_)
  refine lv_istore_n (lv' := [(1, .int r1), (0, .ref (a 0))]) hx hb dX7_mend_4 rfl hl (by decide) rfl (fun ls hl => ?_)
  refine lv_iload_n hx hb dX7_mend_5 rfl (lv_at hl 0 rfl) ?_
  refine lv_if_ne (tgt := 13) hx hb dX7_mend_6 (by decide) (fun hc => ?_) (fun hc => ?_)
  · have h := ite_f hc h
    refine lv_iconst (v := (0 : Int32)) hx hb dX7_mend_13 (by decide) ?_
    refine lv_istore_n (lv' := [(2, .int (0 : Int32)), (1, .int r1), (0, .ref (a 0))]) hx hb dX7_mend_14 rfl hl (by decide) rfl (fun ls hl => ?_)
    have K15 : ∀ (n15 : Nat) (v2 : Int32) (H : Heap) (locs : List Loc) (ls : Array Slot), WP D a cA cT TM g H → va_S (AA a TM) s.heap H locs → lv_has ls 4 [(0, .ref (a 0)), (1, .int r1), (2, .int v2)] → lpo (b_X7_mend_L15 g r1) n15 v2 = some (r, g') → W p l e (rmm 6 132) s m args below meth c H locs 0 0 Q (F0 m 15 ls []) := by
      intro n15
      induction n15 with
      | zero => intro v2 H locs ls hP hS hl h; exact (lpo_0 h).elim
      | succ n15 ih15 =>
        intro v2 H locs ls hP hS hl h
        have h : m_X7_mend_L15 (lpo (b_X7_mend_L15 g r1) n15) g r1 v2 = some (r, g') := h
        unfold m_X7_mend_L15 at h
        refine lv_iload_n hx hb dX7_mend_15 rfl (lv_at hl 2 rfl) ?_
        refine lv_aload_n hx hb dX7_mend_16 rfl (lv_at hl 0 rfl) ?_
        refine x_getr hx hb hts inX7 hown hK hP tM_0 (C := RX7) (F := TX7) (N := 18) rfl 0 (by decide) q758 rfl 1 rfl dX7_mend_17 ?_
        refine lv_iconst (v := (0 : Int32)) hx hb dX7_mend_20 (by decide) ?_
        obtain ⟨hz, h⟩ := ite_n h
        refine x_ald hx hb hK hP tM_1 hz dX7_mend_21 ?_
        refine lv_icmp_ge (tgt := 61) hx hb dX7_mend_22 (by decide) (fun hc => ?_) (fun hc => ?_)
        · have h := ite_t hc h
          refine lv_iconst (v := (0 : Int32)) hx hb dX7_mend_61 (by decide) ?_
          refine lv_istore_n (lv' := [(2, .int (0 : Int32)), (0, .ref (a 0)), (1, .int r1)]) hx hb dX7_mend_62 rfl hl (by decide) rfl (fun ls hl => ?_)
          have K63 : ∀ (n63 : Nat) (v2 : Int32) (g63 : MG) (H : Heap) (locs : List Loc) (ls : Array Slot), WP D a cA cT TM g63 H → va_S (AA a TM) s.heap H locs → lv_has ls 4 [(0, .ref (a 0)), (1, .int r1), (2, .int v2)] → lpo (b_X7_mend_L63 r1) n63 (v2, g63) = some (r, g') → W p l e (rmm 6 132) s m args below meth c H locs 0 0 Q (F0 m 63 ls []) := by
            intro n63
            induction n63 with
            | zero => intro v2 g63 H locs ls hP hS hl h; exact (lpo_0 h).elim
            | succ n63 ih63 =>
              intro v2 g63 H locs ls hP hS hl h
              have h : m_X7_mend_L63 (lpo (b_X7_mend_L63 r1) n63) r1 v2 g63 = some (r, g') := h
              unfold m_X7_mend_L63 at h
              refine lv_iload_n hx hb dX7_mend_63 rfl (lv_at hl 2 rfl) ?_
              refine lv_bipush (v := (60 : Int32)) hx hb dX7_mend_64 (by decide) ?_
              refine lv_icmp_gt (tgt := 86) hx hb dX7_mend_66 (by decide) (fun hc => ?_) (fun hc => ?_)
              · have h := ite_t hc h
                refine lv_iconst (v := (0 : Int32)) hx hb dX7_mend_86 (by decide) ?_
                refine lv_istore_n (lv' := [(2, .int (0 : Int32)), (0, .ref (a 0)), (1, .int r1)]) hx hb dX7_mend_87 rfl hl (by decide) rfl (fun ls hl => ?_)
                have K88 : ∀ (n88 : Nat) (v2 : Int32) (g88 : MG) (H : Heap) (locs : List Loc) (ls : Array Slot), WP D a cA cT TM g88 H → va_S (AA a TM) s.heap H locs → lv_has ls 4 [(0, .ref (a 0)), (1, .int r1), (2, .int v2)] → lpo (b_X7_mend_L88 r1) n88 (v2, g88) = some (r, g') → W p l e (rmm 6 132) s m args below meth c H locs 0 0 Q (F0 m 88 ls []) := by
                  intro n88
                  induction n88 with
                  | zero => intro v2 g88 H locs ls hP hS hl h; exact (lpo_0 h).elim
                  | succ n88 ih88 =>
                    intro v2 g88 H locs ls hP hS hl h
                    have h : m_X7_mend_L88 (lpo (b_X7_mend_L88 r1) n88) r1 v2 g88 = some (r, g') := h
                    unfold m_X7_mend_L88 at h
                    refine lv_iload_n hx hb dX7_mend_88 rfl (lv_at hl 2 rfl) ?_
                    refine lv_aload_n hx hb dX7_mend_89 rfl (lv_at hl 0 rfl) ?_
                    refine x_getr hx hb hts inX7 hown hK hP tM_0 (C := RX7) (F := TX7) (N := 18) rfl 0 (by decide) q758 rfl 1 rfl dX7_mend_90 ?_
                    refine lv_iconst (v := (0 : Int32)) hx hb dX7_mend_93 (by decide) ?_
                    obtain ⟨hz, h⟩ := ite_n h
                    refine x_ald hx hb hK hP tM_1 hz dX7_mend_94 ?_
                    refine lv_icmp_ge (tgt := 169) hx hb dX7_mend_95 (by decide) (fun hc => ?_) (fun hc => ?_)
                    · have h := ite_t hc h
                      refine lv_aload_n hx hb dX7_mend_169 rfl (lv_at hl 0 rfl) ?_
                      obtain ⟨g170, hcal, h⟩ := bnd_s h
                      refine x_VV (As := []) hx hb hml hown hts hK hP hS (ct_X7_record l D a cA cT hI g88 g170 hcal) tM_0 (C := RX7) (F := TX7) (N := 18) rfl (g_V q816 q817 q39 q77 q818) yd_X7_record ⟨Nat.le_of_ble_eq_true rfl, Nat.le_of_ble_eq_true rfl⟩ [] rfl (Nat.le_of_ble_eq_true rfl) hl.1 ⟨Nat.le_refl _, Nat.le_refl _⟩ dX7_mend_170 (fun H locs hP hS => ?_)
                      refine lv_iconst (v := (0 : Int32)) hx hb dX7_mend_173 (by decide) ?_
                      refine lv_istore_n (lv' := [(2, .int (0 : Int32)), (0, .ref (a 0)), (1, .int r1)]) hx hb dX7_mend_174 rfl hl (by decide) rfl (fun ls hl => ?_)
                      have K175 : ∀ (n175 : Nat) (v2 : Int32) (g175 : MG) (H : Heap) (locs : List Loc) (ls : Array Slot), WP D a cA cT TM g175 H → va_S (AA a TM) s.heap H locs → lv_has ls 4 [(0, .ref (a 0)), (1, .int r1), (2, .int v2)] → lpo (b_X7_mend_L175 r1) n175 (v2, g175) = some (r, g') → W p l e (rmm 6 132) s m args below meth c H locs 0 0 Q (F0 m 175 ls []) := by
                        intro n175
                        induction n175 with
                        | zero => intro v2 g175 H locs ls hP hS hl h; exact (lpo_0 h).elim
                        | succ n175 ih175 =>
                          intro v2 g175 H locs ls hP hS hl h
                          have h : m_X7_mend_L175 (lpo (b_X7_mend_L175 r1) n175) r1 v2 g175 = some (r, g') := h
                          unfold m_X7_mend_L175 at h
                          refine lv_iload_n hx hb dX7_mend_175 rfl (lv_at hl 2 rfl) ?_
                          refine lv_aload_n hx hb dX7_mend_176 rfl (lv_at hl 0 rfl) ?_
                          refine x_getr hx hb hts inX7 hown hK hP tM_0 (C := RX7) (F := TX7) (N := 18) rfl 0 (by decide) q758 rfl 1 rfl dX7_mend_177 ?_
                          refine lv_iconst (v := (0 : Int32)) hx hb dX7_mend_180 (by decide) ?_
                          obtain ⟨hz, h⟩ := ite_n h
                          refine x_ald hx hb hK hP tM_1 hz dX7_mend_181 ?_
                          refine lv_icmp_ge (tgt := 221) hx hb dX7_mend_182 (by decide) (fun hc => ?_) (fun hc => ?_)
                          · have h := ite_t hc h
                            refine lv_iload_n hx hb dX7_mend_221 rfl (lv_at hl 1 rfl) ?_
                            obtain ⟨rfl, rfl⟩ := Prod.mk.inj (Option.some.inj h)
                            exact hend _ _ _ _ dX7_mend_222 rfl hP hS
                          · have h := ite_f hc h
                            refine lv_aload_n hx hb dX7_mend_185 rfl (lv_at hl 0 rfl) ?_
                            refine lv_iload_n hx hb dX7_mend_186 rfl (lv_at hl 2 rfl) ?_
                            obtain ⟨r187, hcal, h⟩ := bnd_s h
                            refine x_VI (As := [.int v2]) hx hb hml hown hts hK hP hS (ct_X7_isStray l D a cA cT hI g175 v2 r187 hcal) tM_0 (C := RX7) (F := TX7) (N := 18) rfl (g_V q900 q901 q51 q77 q902) yd_X7_isStray ⟨Nat.le_of_ble_eq_true rfl, Nat.le_of_ble_eq_true rfl⟩ [] rfl (Nat.le_of_ble_eq_true rfl) hl.1 ⟨Nat.le_refl _, Nat.le_refl _⟩ dX7_mend_187 (fun H locs hP hS => ?_)
                            refine lv_if_eq (tgt := 215) hx hb dX7_mend_190 (by decide) (fun hc => ?_) (fun hc => ?_)
                            · have h := ite_t hc h
                              refine lv_iinc (v := (v2 + (1 : Int32))) (lv' := [(2, .int (v2 + (1 : Int32))), (0, .ref (a 0)), (1, .int r1)]) hx hb dX7_mend_215 hl (k := 2) rfl rfl (by decide) rfl (fun ls hl => ?_)
                              refine lv_goto (tgt := 175) hx hb dX7_mend_218 (by decide) ?_
                              exact ih175 (v2 + (1 : Int32)) g175 _ _ _ hP hS (lv_sub hl [1, 2, 0] rfl) h
                            · have h := ite_f hc h
                              refine lv_aload_n hx hb dX7_mend_193 rfl (lv_at hl 0 rfl) ?_
                              refine x_getr hx hb hts inX7 hown hK hP tM_0 (C := RX7) (F := TX7) (N := 18) rfl 0 (by decide) q758 rfl 1 rfl dX7_mend_194 ?_
                              refine lv_sipush (v := (805 : Int32)) hx hb dX7_mend_197 (by decide) ?_
                              refine lv_iload_n hx hb dX7_mend_200 rfl (lv_at hl 2 rfl) ?_
                              refine lv_iadd hx hb dX7_mend_201 ?_
                              refine lv_aload_n hx hb dX7_mend_202 rfl (lv_at hl 0 rfl) ?_
                              refine lv_aload_n hx hb dX7_mend_203 rfl (lv_at hl 0 rfl) ?_
                              refine x_getr hx hb hts inX7 hown hK hP tM_0 (C := RX7) (F := TX7) (N := 18) rfl 0 (by decide) q758 rfl 1 rfl dX7_mend_204 ?_
                              refine lv_iconst (v := (5 : Int32)) hx hb dX7_mend_207 (by decide) ?_
                              refine lv_iload_n hx hb dX7_mend_208 rfl (lv_at hl 2 rfl) ?_
                              refine lv_iadd hx hb dX7_mend_209 ?_
                              obtain ⟨hz, h⟩ := ite_n h
                              refine x_ald hx hb hK hP tM_1 hz dX7_mend_210 ?_
                              obtain ⟨r211, hcal, h⟩ := bnd_s h
                              refine x_VI (As := [.int (g175.1 1 ((5 : Int32) + v2).toNatClampNeg)]) hx hb hml hown hts hK hP hS (ct_X7_belongsTo l D a cA cT hI g175 (g175.1 1 ((5 : Int32) + v2).toNatClampNeg) r211 hcal) tM_0 (C := RX7) (F := TX7) (N := 18) rfl (g_V q801 q802 q34 q77 q803) yd_X7_belongsTo ⟨Nat.le_of_ble_eq_true rfl, Nat.le_of_ble_eq_true rfl⟩ [.int ((805 : Int32) + v2), .ref (a 1)] rfl (Nat.le_of_ble_eq_true rfl) hl.1 ⟨Nat.le_refl _, Nat.le_refl _⟩ dX7_mend_211 (fun H locs hP hS => ?_)
                              obtain ⟨hz, h⟩ := ite_n h
                              refine x_ast hx hb hK hI hP hS tM_1 hz dX7_mend_214 (fun H locs hP hS => ?_)
                              refine lv_iinc (v := (v2 + (1 : Int32))) (lv' := [(2, .int (v2 + (1 : Int32))), (0, .ref (a 0)), (1, .int r1)]) hx hb dX7_mend_215 hl (k := 2) rfl rfl (by decide) rfl (fun ls hl => ?_)
                              refine lv_goto (tgt := 175) hx hb dX7_mend_218 (by decide) ?_
                              exact ih175 (v2 + (1 : Int32)) (g_w g175 1 ((805 : Int32) + v2).toNatClampNeg r211) _ _ _ hP hS (lv_sub hl [1, 2, 0] rfl) h
                      exact K175 fuelN (0 : Int32) g170 _ _ _ hP hS (lv_sub hl [1, 2, 0] rfl) h
                    · have h := ite_f hc h
                      refine lv_aload_n hx hb dX7_mend_98 rfl (lv_at hl 0 rfl) ?_
                      refine lv_iload_n hx hb dX7_mend_99 rfl (lv_at hl 2 rfl) ?_
                      obtain ⟨r100, hcal, h⟩ := bnd_s h
                      refine x_VI (As := [.int v2]) hx hb hml hown hts hK hP hS (ct_X7_isStray l D a cA cT hI g88 v2 r100 hcal) tM_0 (C := RX7) (F := TX7) (N := 18) rfl (g_V q900 q901 q51 q77 q902) yd_X7_isStray ⟨Nat.le_of_ble_eq_true rfl, Nat.le_of_ble_eq_true rfl⟩ [] rfl (Nat.le_of_ble_eq_true rfl) hl.1 ⟨Nat.le_refl _, Nat.le_refl _⟩ dX7_mend_100 (fun H locs hP hS => ?_)
                      refine lv_if_eq (tgt := 163) hx hb dX7_mend_103 (by decide) (fun hc => ?_) (fun hc => ?_)
                      · have h := ite_t hc h
                        refine lv_iinc (v := (v2 + (1 : Int32))) (lv' := [(2, .int (v2 + (1 : Int32))), (0, .ref (a 0)), (1, .int r1)]) hx hb dX7_mend_163 hl (k := 2) rfl rfl (by decide) rfl (fun ls hl => ?_)
                        refine lv_goto (tgt := 88) hx hb dX7_mend_166 (by decide) ?_
                        exact ih88 (v2 + (1 : Int32)) g88 _ _ _ hP hS (lv_sub hl [1, 2, 0] rfl) h
                      · have h := ite_f hc h
                        refine lv_aload_n hx hb dX7_mend_106 rfl (lv_at hl 0 rfl) ?_
                        refine lv_aload_n hx hb dX7_mend_107 rfl (lv_at hl 0 rfl) ?_
                        refine x_getr hx hb hts inX7 hown hK hP tM_0 (C := RX7) (F := TX7) (N := 18) rfl 0 (by decide) q758 rfl 1 rfl dX7_mend_108 ?_
                        refine lv_iconst (v := (5 : Int32)) hx hb dX7_mend_111 (by decide) ?_
                        refine lv_iload_n hx hb dX7_mend_112 rfl (lv_at hl 2 rfl) ?_
                        refine lv_iadd hx hb dX7_mend_113 ?_
                        obtain ⟨hz, h⟩ := ite_n h
                        refine x_ald hx hb hK hP tM_1 hz dX7_mend_114 ?_
                        obtain ⟨r115, hcal, h⟩ := bnd_s h
                        refine x_VI (As := [.int (g88.1 1 ((5 : Int32) + v2).toNatClampNeg)]) hx hb hml hown hts hK hP hS (ct_X7_belongsTo l D a cA cT hI g88 (g88.1 1 ((5 : Int32) + v2).toNatClampNeg) r115 hcal) tM_0 (C := RX7) (F := TX7) (N := 18) rfl (g_V q801 q802 q34 q77 q803) yd_X7_belongsTo ⟨Nat.le_of_ble_eq_true rfl, Nat.le_of_ble_eq_true rfl⟩ [] rfl (Nat.le_of_ble_eq_true rfl) hl.1 ⟨Nat.le_refl _, Nat.le_refl _⟩ dX7_mend_115 (fun H locs hP hS => ?_)
                        refine lv_istore_n (lv' := [(3, .int r115), (0, .ref (a 0)), (1, .int r1), (2, .int v2)]) hx hb dX7_mend_118 rfl hl (by decide) rfl (fun ls hl => ?_)
                        refine lv_aload_n hx hb dX7_mend_119 rfl (lv_at hl 1 rfl) ?_
                        refine x_getr hx hb hts inX7 hown hK hP tM_0 (C := RX7) (F := TX7) (N := 18) rfl 14 (by decide) q772 rfl 11 rfl dX7_mend_120 ?_
                        refine lv_iload_n hx hb dX7_mend_123 rfl (lv_at hl 0 rfl) ?_
                        obtain ⟨hz, h⟩ := ite_n h
                        refine x_ald hx hb hK hP tM_11 hz dX7_mend_124 ?_
                        refine lv_bipush (v := (30 : Int32)) hx hb dX7_mend_125 (by decide) ?_
                        refine lv_icmp_lt (tgt := 134) hx hb dX7_mend_127 (by decide) (fun hc => ?_) (fun hc => ?_)
                        · have h := ite_t hc h
                          refine lv_aload_n hx hb dX7_mend_134 rfl (lv_at hl 1 rfl) ?_
                          refine x_getr hx hb hts inX7 hown hK hP tM_0 (C := RX7) (F := TX7) (N := 18) rfl 14 (by decide) q772 rfl 11 rfl dX7_mend_135 ?_
                          refine lv_iload_n hx hb dX7_mend_138 rfl (lv_at hl 0 rfl) ?_
                          refine lv_dup2_11 hx hb dX7_mend_139 rfl rfl ?_
                          obtain ⟨hz, h⟩ := ite_n h
                          refine x_ald hx hb hK hP tM_11 hz dX7_mend_140 ?_
                          refine lv_iconst (v := (1 : Int32)) hx hb dX7_mend_141 (by decide) ?_
                          refine lv_iadd hx hb dX7_mend_142 ?_
                          obtain ⟨hz, h⟩ := ite_n h
                          refine x_ast hx hb hK hI hP hS tM_11 hz dX7_mend_143 (fun H locs hP hS => ?_)
                          refine lv_aload_n hx hb dX7_mend_144 rfl (lv_at hl 1 rfl) ?_
                          refine x_getr hx hb hts inX7 hown hK hP tM_0 (C := RX7) (F := TX7) (N := 18) rfl 14 (by decide) q772 rfl 11 rfl dX7_mend_145 ?_
                          refine lv_aload_n hx hb dX7_mend_148 rfl (lv_at hl 1 rfl) ?_
                          refine x_getr hx hb hts inX7 hown hK hP tM_0 (C := RX7) (F := TX7) (N := 18) rfl 0 (by decide) q758 rfl 1 rfl dX7_mend_149 ?_
                          refine lv_sipush (v := (805 : Int32)) hx hb dX7_mend_152 (by decide) ?_
                          refine lv_iload_n hx hb dX7_mend_155 rfl (lv_at hl 3 rfl) ?_
                          refine lv_iadd hx hb dX7_mend_156 ?_
                          obtain ⟨hz, h⟩ := ite_n h
                          refine x_ald hx hb hK hP tM_1 hz dX7_mend_157 ?_
                          refine lv_dup2_11 hx hb dX7_mend_158 rfl rfl ?_
                          obtain ⟨hz, h⟩ := ite_n h
                          refine x_ald hx hb hK hP tM_11 hz dX7_mend_159 ?_
                          refine lv_iconst (v := (1 : Int32)) hx hb dX7_mend_160 (by decide) ?_
                          refine lv_isub hx hb dX7_mend_161 ?_
                          obtain ⟨hz, h⟩ := ite_n h
                          refine x_ast hx hb hK hI hP hS tM_11 hz dX7_mend_162 (fun H locs hP hS => ?_)
                          refine lv_iinc (v := (v2 + (1 : Int32))) (lv' := [(2, .int (v2 + (1 : Int32))), (3, .int r115), (0, .ref (a 0)), (1, .int r1)]) hx hb dX7_mend_163 hl (k := 3) rfl rfl (by decide) rfl (fun ls hl => ?_)
                          refine lv_goto (tgt := 88) hx hb dX7_mend_166 (by decide) ?_
                          exact ih88 (v2 + (1 : Int32)) (g_w (g_w g88 11 r115.toNatClampNeg ((g88.1 11 r115.toNatClampNeg) + (1 : Int32))) 11 ((g_w g88 11 r115.toNatClampNeg ((g88.1 11 r115.toNatClampNeg) + (1 : Int32))).1 1 ((805 : Int32) + v2).toNatClampNeg).toNatClampNeg (((g_w g88 11 r115.toNatClampNeg ((g88.1 11 r115.toNatClampNeg) + (1 : Int32))).1 11 ((g_w g88 11 r115.toNatClampNeg ((g88.1 11 r115.toNatClampNeg) + (1 : Int32))).1 1 ((805 : Int32) + v2).toNatClampNeg).toNatClampNeg) - (1 : Int32))) _ _ _ hP hS (lv_sub hl [2, 3, 0] rfl) h
                        · have h := ite_f hc h
                          refine lv_sipush (v := (-1003 : Int32)) hx hb dX7_mend_130 (by decide) ?_
                          obtain ⟨rfl, rfl⟩ := Prod.mk.inj (Option.some.inj h)
                          exact hend _ _ _ _ dX7_mend_133 rfl hP hS
                exact K88 fuelN (0 : Int32) g63 _ _ _ hP hS (lv_sub hl [1, 2, 0] rfl) h
              · have h := ite_f hc h
                refine lv_aload_n hx hb dX7_mend_69 rfl (lv_at hl 0 rfl) ?_
                refine x_getr hx hb hts inX7 hown hK hP tM_0 (C := RX7) (F := TX7) (N := 18) rfl 14 (by decide) q772 rfl 11 rfl dX7_mend_70 ?_
                refine lv_iload_n hx hb dX7_mend_73 rfl (lv_at hl 2 rfl) ?_
                refine lv_aload_n hx hb dX7_mend_74 rfl (lv_at hl 0 rfl) ?_
                refine lv_iload_n hx hb dX7_mend_75 rfl (lv_at hl 2 rfl) ?_
                obtain ⟨r76, hcal, h⟩ := bnd_s h
                refine x_VI (As := [.int v2]) hx hb hml hown hts hK hP hS (ct_X7_rowsIn l D a cA cT hI g63 v2 r76 hcal) tM_0 (C := RX7) (F := TX7) (N := 18) rfl (g_V q813 q814 q38 q77 q815) yd_X7_rowsIn ⟨Nat.le_of_ble_eq_true rfl, Nat.le_of_ble_eq_true rfl⟩ [.int v2, .ref (a 11)] rfl (Nat.le_of_ble_eq_true rfl) hl.1 ⟨Nat.le_refl _, Nat.le_refl _⟩ dX7_mend_76 (fun H locs hP hS => ?_)
                obtain ⟨hz, h⟩ := ite_n h
                refine x_ast hx hb hK hI hP hS tM_11 hz dX7_mend_79 (fun H locs hP hS => ?_)
                refine lv_iinc (v := (v2 + (1 : Int32))) (lv' := [(2, .int (v2 + (1 : Int32))), (0, .ref (a 0)), (1, .int r1)]) hx hb dX7_mend_80 hl (k := 2) rfl rfl (by decide) rfl (fun ls hl => ?_)
                refine lv_goto (tgt := 63) hx hb dX7_mend_83 (by decide) ?_
                exact ih63 (v2 + (1 : Int32)) (g_w g63 11 v2.toNatClampNeg r76) _ _ _ hP hS (lv_sub hl [1, 2, 0] rfl) h
          exact K63 fuelN (0 : Int32) g _ _ _ hP hS (lv_sub hl [1, 2, 0] rfl) h
        · have h := ite_f hc h
          refine lv_aload_n hx hb dX7_mend_25 rfl (lv_at hl 0 rfl) ?_
          refine lv_iload_n hx hb dX7_mend_26 rfl (lv_at hl 2 rfl) ?_
          obtain ⟨r27, hcal, h⟩ := bnd_s h
          refine x_VI (As := [.int v2]) hx hb hml hown hts hK hP hS (ct_X7_isStray l D a cA cT hI g v2 r27 hcal) tM_0 (C := RX7) (F := TX7) (N := 18) rfl (g_V q900 q901 q51 q77 q902) yd_X7_isStray ⟨Nat.le_of_ble_eq_true rfl, Nat.le_of_ble_eq_true rfl⟩ [] rfl (Nat.le_of_ble_eq_true rfl) hl.1 ⟨Nat.le_refl _, Nat.le_refl _⟩ dX7_mend_27 (fun H locs hP hS => ?_)
          refine lv_if_eq (tgt := 55) hx hb dX7_mend_30 (by decide) (fun hc => ?_) (fun hc => ?_)
          · have h := ite_t hc h
            refine lv_iinc (v := (v2 + (1 : Int32))) (lv' := [(2, .int (v2 + (1 : Int32))), (0, .ref (a 0)), (1, .int r1)]) hx hb dX7_mend_55 hl (k := 2) rfl rfl (by decide) rfl (fun ls hl => ?_)
            refine lv_goto (tgt := 15) hx hb dX7_mend_58 (by decide) ?_
            exact ih15 (v2 + (1 : Int32)) _ _ _ hP hS (lv_sub hl [1, 2, 0] rfl) h
          · have h := ite_f hc h
            refine lv_aload_n hx hb dX7_mend_33 rfl (lv_at hl 0 rfl) ?_
            refine lv_aload_n hx hb dX7_mend_34 rfl (lv_at hl 0 rfl) ?_
            refine x_getr hx hb hts inX7 hown hK hP tM_0 (C := RX7) (F := TX7) (N := 18) rfl 0 (by decide) q758 rfl 1 rfl dX7_mend_35 ?_
            refine lv_iconst (v := (5 : Int32)) hx hb dX7_mend_38 (by decide) ?_
            refine lv_iload_n hx hb dX7_mend_39 rfl (lv_at hl 2 rfl) ?_
            refine lv_iadd hx hb dX7_mend_40 ?_
            obtain ⟨hz, h⟩ := ite_n h
            refine x_ald hx hb hK hP tM_1 hz dX7_mend_41 ?_
            obtain ⟨r42, hcal, h⟩ := bnd_s h
            refine x_VI (As := [.int (g.1 1 ((5 : Int32) + v2).toNatClampNeg)]) hx hb hml hown hts hK hP hS (ct_X7_belongsTo l D a cA cT hI g (g.1 1 ((5 : Int32) + v2).toNatClampNeg) r42 hcal) tM_0 (C := RX7) (F := TX7) (N := 18) rfl (g_V q801 q802 q34 q77 q803) yd_X7_belongsTo ⟨Nat.le_of_ble_eq_true rfl, Nat.le_of_ble_eq_true rfl⟩ [] rfl (Nat.le_of_ble_eq_true rfl) hl.1 ⟨Nat.le_refl _, Nat.le_refl _⟩ dX7_mend_42 (fun H locs hP hS => ?_)
            refine lv_sipush (v := (-1005 : Int32)) hx hb dX7_mend_45 (by decide) ?_
            refine lv_icmp_ne (tgt := 55) hx hb dX7_mend_48 (by decide) (fun hc => ?_) (fun hc => ?_)
            · have h := ite_f hc h
              refine lv_iinc (v := (v2 + (1 : Int32))) (lv' := [(2, .int (v2 + (1 : Int32))), (0, .ref (a 0)), (1, .int r1)]) hx hb dX7_mend_55 hl (k := 2) rfl rfl (by decide) rfl (fun ls hl => ?_)
              refine lv_goto (tgt := 15) hx hb dX7_mend_58 (by decide) ?_
              exact ih15 (v2 + (1 : Int32)) _ _ _ hP hS (lv_sub hl [1, 2, 0] rfl) h
            · have h := ite_t hc h
              refine lv_sipush (v := (-1004 : Int32)) hx hb dX7_mend_51 (by decide) ?_
              obtain ⟨rfl, rfl⟩ := Prod.mk.inj (Option.some.inj h)
              exact hend _ _ _ _ dX7_mend_54 rfl hP hS
    exact K15 fuelN (0 : Int32) _ _ _ hP hS (lv_sub hl [2, 1, 0] rfl) h
  · have h := ite_t hc h
    refine lv_sipush (v := (-1005 : Int32)) hx hb dX7_mend_9 (by decide) ?_
    obtain ⟨rfl, rfl⟩ := Prod.mk.inj (Option.some.inj h)
    exact hend _ _ _ _ dX7_mend_12 rfl hP hS
set_option maxHeartbeats 4000000 in
set_option maxRecDepth 100000 in
theorem ct_X7_set (l : Launch) (D : va_G) (a : Nat → Nat) (cA cT : ClassId) (hI : WI a TM) (g : MG) (x0 : Int32) (x1 : Int32)  (r : Int32) (g' : MG) (h : m_X7_set g x0 x1 = some (r, g')) :
    CtI l D a cA cT TM yX7_set (Cond.code yX7_set cX7_set 4 (some .int) :: lw_all) (rmm 1 22) [.ref (a 0), .int x0, .int x1] g r g' := by
  refine CtI.of (by decide +kernel) (Nat.le_of_ble_eq_true rfl) ?_
  intro p e s m args below meth c Q ls hx hb hml hown hts hK hP hS hl hend
  have hl : lv_has ls 4 [(0, .ref (a 0)), (1, .int x0), (2, .int x1)] := hl
  unfold m_X7_set at h
  refine lv_iload_n hx hb dX7_set_0 rfl (lv_at hl 1 rfl) ?_
  refine lv_iconst (v := (0 : Int32)) hx hb dX7_set_1 (by decide) ?_
  refine lv_iconst (v := (1 : Int32)) hx hb dX7_set_2 (by decide) ?_
  obtain ⟨r3, hcal, h⟩ := bnd_s h
  refine x_SI (As := [.int x0, .int (0 : Int32), .int (1 : Int32)]) hx hb hml hown hts hK hP hS (ct_X7_in l D a cA cT hI g x0 (0 : Int32) (1 : Int32) r3 hcal) (g_S q798 q799 q77 q800) yd_X7_in ⟨Nat.le_of_ble_eq_true rfl, Nat.le_of_ble_eq_true rfl⟩ [] rfl (Nat.le_of_ble_eq_true rfl) hl.1 ⟨Nat.le_refl _, Nat.le_refl _⟩ dX7_set_3 (fun H locs hP hS => ?_)
  refine lv_if_eq (tgt := 20) hx hb dX7_set_6 (by decide) (fun hc => ?_) (fun hc => ?_)
  · have h := ite_t hc h
    refine lv_sipush (v := (-1002 : Int32)) hx hb dX7_set_20 (by decide) ?_
    obtain ⟨rfl, rfl⟩ := Prod.mk.inj (Option.some.inj h)
    exact hend _ _ _ _ dX7_set_23 rfl hP hS
  · have h := ite_f hc h
    refine lv_iload_n hx hb dX7_set_9 rfl (lv_at hl 2 rfl) ?_
    refine lv_iconst (v := (0 : Int32)) hx hb dX7_set_10 (by decide) ?_
    refine lv_iconst (v := (2 : Int32)) hx hb dX7_set_11 (by decide) ?_
    refine lv_iload_n hx hb dX7_set_12 rfl (lv_at hl 1 rfl) ?_
    refine lv_isub hx hb dX7_set_13 ?_
    obtain ⟨r14, hcal, h⟩ := bnd_s h
    refine x_SI (As := [.int x1, .int (0 : Int32), .int ((2 : Int32) - x0)]) hx hb hml hown hts hK hP hS (ct_X7_in l D a cA cT hI g x1 (0 : Int32) ((2 : Int32) - x0) r14 hcal) (g_S q798 q799 q77 q800) yd_X7_in ⟨Nat.le_of_ble_eq_true rfl, Nat.le_of_ble_eq_true rfl⟩ [] rfl (Nat.le_of_ble_eq_true rfl) hl.1 ⟨Nat.le_refl _, Nat.le_refl _⟩ dX7_set_14 (fun H locs hP hS => ?_)
    refine lv_if_ne (tgt := 24) hx hb dX7_set_17 (by decide) (fun hc => ?_) (fun hc => ?_)
    · have h := ite_f hc h
      refine lv_aload_n hx hb dX7_set_24 rfl (lv_at hl 0 rfl) ?_
      refine x_getr hx hb hts inX7 hown hK hP tM_0 (C := RX7) (F := TX7) (N := 18) rfl 0 (by decide) q758 rfl 1 rfl dX7_set_25 ?_
      refine lv_iconst (v := (3 : Int32)) hx hb dX7_set_28 (by decide) ?_
      refine lv_iload_n hx hb dX7_set_29 rfl (lv_at hl 1 rfl) ?_
      refine lv_iadd hx hb dX7_set_30 ?_
      obtain ⟨hz, h⟩ := ite_n h
      refine x_ald hx hb hK hP tM_1 hz dX7_set_31 ?_
      refine lv_istore_n (lv' := [(3, .int (g.1 1 ((3 : Int32) + x0).toNatClampNeg)), (0, .ref (a 0)), (1, .int x0), (2, .int x1)]) hx hb dX7_set_32 rfl hl (by decide) rfl (fun ls hl => ?_)
      refine lv_iload_n hx hb dX7_set_33 rfl (lv_at hl 0 rfl) ?_
      refine lv_iload_n hx hb dX7_set_34 rfl (lv_at hl 3 rfl) ?_
      refine lv_icmp_ne (tgt := 42) hx hb dX7_set_35 (by decide) (fun hc => ?_) (fun hc => ?_)
      · have h := ite_f hc h
        refine lv_aload_n hx hb dX7_set_42 rfl (lv_at hl 1 rfl) ?_
        obtain ⟨g43, hcal, h⟩ := bnd_s h
        refine x_VV (As := []) hx hb hml hown hts hK hP hS (ct_X7_record l D a cA cT hI g g43 hcal) tM_0 (C := RX7) (F := TX7) (N := 18) rfl (g_V q816 q817 q39 q77 q818) yd_X7_record ⟨Nat.le_of_ble_eq_true rfl, Nat.le_of_ble_eq_true rfl⟩ [] rfl (Nat.le_of_ble_eq_true rfl) hl.1 ⟨Nat.le_refl _, Nat.le_refl _⟩ dX7_set_43 (fun H locs hP hS => ?_)
        refine lv_aload_n hx hb dX7_set_46 rfl (lv_at hl 1 rfl) ?_
        refine x_getr hx hb hts inX7 hown hK hP tM_0 (C := RX7) (F := TX7) (N := 18) rfl 0 (by decide) q758 rfl 1 rfl dX7_set_47 ?_
        refine lv_iconst (v := (3 : Int32)) hx hb dX7_set_50 (by decide) ?_
        refine lv_iload_n hx hb dX7_set_51 rfl (lv_at hl 2 rfl) ?_
        refine lv_iadd hx hb dX7_set_52 ?_
        refine lv_iload_n hx hb dX7_set_53 rfl (lv_at hl 3 rfl) ?_
        obtain ⟨hz, h⟩ := ite_n h
        refine x_ast hx hb hK hI hP hS tM_1 hz dX7_set_54 (fun H locs hP hS => ?_)
        refine lv_iload_n hx hb dX7_set_55 rfl (lv_at hl 0 rfl) ?_
        obtain ⟨rfl, rfl⟩ := Prod.mk.inj (Option.some.inj h)
        exact hend _ _ _ _ dX7_set_56 rfl hP hS
      · have h := ite_t hc h
        refine lv_sipush (v := (-1005 : Int32)) hx hb dX7_set_38 (by decide) ?_
        obtain ⟨rfl, rfl⟩ := Prod.mk.inj (Option.some.inj h)
        exact hend _ _ _ _ dX7_set_41 rfl hP hS
    · have h := ite_t hc h
      refine lv_sipush (v := (-1002 : Int32)) hx hb dX7_set_20 (by decide) ?_
      obtain ⟨rfl, rfl⟩ := Prod.mk.inj (Option.some.inj h)
      exact hend _ _ _ _ dX7_set_23 rfl hP hS
set_option maxHeartbeats 4000000 in
set_option maxRecDepth 100000 in
theorem ct_X7_type (l : Launch) (D : va_G) (a : Nat → Nat) (cA cT : ClassId) (hI : WI a TM) (g : MG) (x0 : Int32)  (r : Int32) (g' : MG) (h : m_X7_type g x0 = some (r, g')) :
    CtI l D a cA cT TM yX7_type (Cond.code yX7_type cX7_type 2 (some .int) :: lw_all) (rmm 0 0) [.ref (a 0), .int x0] g r g' := by
  refine CtI.of (by decide +kernel) (Nat.le_of_ble_eq_true rfl) ?_
  intro p e s m args below meth c Q ls hx hb hml hown hts hK hP hS hl hend
  have hl : lv_has ls 2 [(0, .ref (a 0)), (1, .int x0)] := hl
  unfold m_X7_type at h
  refine lv_aload_n hx hb dX7_type_0 rfl (lv_at hl 0 rfl) ?_
  refine x_get hx hb hts inX7 hown hK hP tM_0 (C := RX7) (F := TX7) (N := 18) rfl 16 (by decide) q774 rfl rfl dX7_type_1 ?_
  refine lv_bipush (v := (60 : Int32)) hx hb dX7_type_4 (by decide) ?_
  refine lv_icmp_ne (tgt := 13) hx hb dX7_type_6 (by decide) (fun hc => ?_) (fun hc => ?_)
  · have h := ite_f hc h
    refine lv_aload_n hx hb dX7_type_13 rfl (lv_at hl 0 rfl) ?_
    refine x_getr hx hb hts inX7 hown hK hP tM_0 (C := RX7) (F := TX7) (N := 18) rfl 3 (by decide) q761 rfl 4 rfl dX7_type_14 ?_
    refine lv_aload_n hx hb dX7_type_17 rfl (lv_at hl 0 rfl) ?_
    refine x_get hx hb hts inX7 hown hK hP tM_0 (C := RX7) (F := TX7) (N := 18) rfl 16 (by decide) q774 rfl rfl dX7_type_18 ?_
    refine lv_iload_n hx hb dX7_type_21 rfl (lv_at hl 1 rfl) ?_
    obtain ⟨hz, h⟩ := ite_n h
    refine x_ast hx hb hK hI hP hS tM_4 hz dX7_type_22 (fun H locs hP hS => ?_)
    refine lv_aload_n hx hb dX7_type_23 rfl (lv_at hl 0 rfl) ?_
    refine lv_dup hx hb dX7_type_24 rfl ?_
    refine x_get hx hb hts inX7 hown hK hP tM_0 (C := RX7) (F := TX7) (N := 18) rfl 16 (by decide) q774 rfl rfl dX7_type_25 ?_
    refine lv_iconst (v := (1 : Int32)) hx hb dX7_type_28 (by decide) ?_
    refine lv_iadd hx hb dX7_type_29 ?_
    refine x_put hx hb hts inX7 tyX7 tyX7_ok nmX7 hown hK hI hP hS tM_0 (C := RX7) (F := TX7) (N := 18) rfl 16 (by decide) q774 rfl rfl rfl rfl rfl dX7_type_30 (fun H locs hP hS => ?_)
    refine lv_aload_n hx hb dX7_type_33 rfl (lv_at hl 0 rfl) ?_
    refine x_get hx hb hts inX7 hown hK hP tM_0 (C := RX7) (F := TX7) (N := 18) rfl 16 (by decide) q774 rfl rfl dX7_type_34 ?_
    obtain ⟨rfl, rfl⟩ := Prod.mk.inj (Option.some.inj h)
    exact hend _ _ _ _ dX7_type_37 rfl hP hS
  · have h := ite_t hc h
    refine lv_sipush (v := (-1003 : Int32)) hx hb dX7_type_9 (by decide) ?_
    obtain ⟨rfl, rfl⟩ := Prod.mk.inj (Option.some.inj h)
    exact hend _ _ _ _ dX7_type_12 rfl hP hS
set_option maxHeartbeats 4000000 in
set_option maxRecDepth 100000 in
theorem ct_X7_clearText (l : Launch) (D : va_G) (a : Nat → Nat) (cA cT : ClassId) (hI : WI a TM) (g : MG)   (r : Int32) (g' : MG) (h : m_X7_clearText g = some (r, g')) :
    CtI l D a cA cT TM yX7_clearText (Cond.code yX7_clearText cX7_clearText 2 (some .int) :: lw_all) (rmm 0 0) [.ref (a 0)] g r g' := by
  refine CtI.of (by decide +kernel) (Nat.le_of_ble_eq_true rfl) ?_
  intro p e s m args below meth c Q ls hx hb hml hown hts hK hP hS hl hend
  have hl : lv_has ls 2 [(0, .ref (a 0))] := hl
  unfold m_X7_clearText at h
  refine lv_aload_n hx hb dX7_clearText_0 rfl (lv_at hl 0 rfl) ?_
  refine x_get hx hb hts inX7 hown hK hP tM_0 (C := RX7) (F := TX7) (N := 18) rfl 16 (by decide) q774 rfl rfl dX7_clearText_1 ?_
  refine lv_istore_n (lv' := [(1, .int (g.1 0 16)), (0, .ref (a 0))]) hx hb dX7_clearText_4 rfl hl (by decide) rfl (fun ls hl => ?_)
  refine lv_aload_n hx hb dX7_clearText_5 rfl (lv_at hl 1 rfl) ?_
  refine lv_iconst (v := (0 : Int32)) hx hb dX7_clearText_6 (by decide) ?_
  refine x_put hx hb hts inX7 tyX7 tyX7_ok nmX7 hown hK hI hP hS tM_0 (C := RX7) (F := TX7) (N := 18) rfl 16 (by decide) q774 rfl rfl rfl rfl rfl dX7_clearText_7 (fun H locs hP hS => ?_)
  refine lv_iload_n hx hb dX7_clearText_10 rfl (lv_at hl 0 rfl) ?_
  obtain ⟨rfl, rfl⟩ := Prod.mk.inj (Option.some.inj h)
  exact hend _ _ _ _ dX7_clearText_11 rfl hP hS
