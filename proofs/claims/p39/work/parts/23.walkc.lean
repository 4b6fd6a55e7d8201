set_option maxHeartbeats 4000000 in
set_option maxRecDepth 100000 in
theorem ct_X6_addSlice (l : Launch) (D : va_G) (a : Nat → Nat) (cA cT : ClassId) (hI : WI a TC) (g : MG) (x0 : Int32) (x1 : Int32)  (r : Int32) (g' : MG) (h : m_X6_addSlice g x0 x1 = some (r, g')) :
    CtI l D a cA cT TC yX6_addSlice (Cond.code yX6_addSlice cX6_addSlice 5 (some .int) :: lw_all) (rmm 5 111) [.ref (a 0), .int x0, .int x1] g r g' := by
  refine CtI.of (by decide +kernel) (Nat.le_of_ble_eq_true rfl) ?_
  intro p e s m args below meth c Q ls hx hb hml hown hts hK hP hS hl hend
  have hl : lv_has ls 5 [(0, .ref (a 0)), (1, .int x0), (2, .int x1)] := hl
  unfold m_X6_addSlice at h
  refine lv_iload_n hx hb dX6_addSlice_0 rfl (lv_at hl 1 rfl) ?_
  refine lv_iload_n hx hb dX6_addSlice_1 rfl (lv_at hl 2 rfl) ?_
  obtain ⟨r2, hcal, h⟩ := bnd_s h
  refine x_SI (As := [.int x0, .int x1]) hx hb hml hown hts hK hP hS (ct_X6_areBounds l D a cA cT hI g x0 x1 r2 hcal) (g_S q435 q436 q35 q437) yd_X6_areBounds ⟨Nat.le_of_ble_eq_true rfl, Nat.le_of_ble_eq_true rfl⟩ [] rfl (Nat.le_of_ble_eq_true rfl) hl.1 ⟨Nat.le_refl _, Nat.le_refl _⟩ dX6_addSlice_2 (fun H locs hP hS => ?_)
  refine lv_if_ne (tgt := 12) hx hb dX6_addSlice_5 (by decide) (fun hc => ?_) (fun hc => ?_)
  · have h := ite_f hc h
    refine lv_aload_n hx hb dX6_addSlice_12 rfl (lv_at hl 0 rfl) ?_
    refine x_getr hx hb hts inX6 hown hK hP tF_0 (C := RX6) (F := TX6) (N := 5) rfl 0 (by decide) q168 rfl (20 + 15 * 0) rfl dX6_addSlice_13 ?_
    refine x_getr hx hb hts inX5 hown hK hP (tT_20 hz0) (C := RX5) (F := TX5) (N := 5) rfl 0 (by decide) q101 rfl (21 + 15 * 0) rfl dX6_addSlice_16 ?_
    refine lv_bipush (v := (60 : Int32)) hx hb dX6_addSlice_19 (by decide) ?_
    refine lv_iload_n hx hb dX6_addSlice_21 rfl (lv_at hl 1 rfl) ?_
    refine lv_iload_n hx hb dX6_addSlice_22 rfl (lv_at hl 2 rfl) ?_
    obtain ⟨r23, hcal, h⟩ := bnd_s h
    refine x_VI (As := [.int (60 : Int32), .int x0, .int x1]) hx hb hml hown hts hK hP hS (ct_X3_amountWithKeys l D a cA cT hI g 0 (60 : Int32) x0 x1 hz0 r23 hcal) (tT_21 hz0) (C := RX3) (F := TX3) (N := 4) rfl (g_V q438 q237 q238 q37 q239) yd_X3_amountWithKeys ⟨Nat.le_of_ble_eq_true rfl, Nat.le_of_ble_eq_true rfl⟩ [] rfl (Nat.le_of_ble_eq_true rfl) hl.1 ⟨Nat.le_refl _, Nat.le_refl _⟩ dX6_addSlice_23 (fun H locs hP hS => ?_)
    refine lv_if_le (tgt := 33) hx hb dX6_addSlice_26 (by decide) (fun hc => ?_) (fun hc => ?_)
    · have h := ite_t hc h
      refine lv_iconst (v := (0 : Int32)) hx hb dX6_addSlice_33 (by decide) ?_
      refine lv_istore_n (lv' := [(3, .int (0 : Int32)), (0, .ref (a 0)), (1, .int x0), (2, .int x1)]) hx hb dX6_addSlice_34 rfl hl (by decide) rfl (fun ls hl => ?_)
      refine lv_aload_n hx hb dX6_addSlice_35 rfl (lv_at hl 1 rfl) ?_
      refine x_getr hx hb hts inX6 hown hK hP tF_0 (C := RX6) (F := TX6) (N := 5) rfl 0 (by decide) q168 rfl (20 + 15 * 0) rfl dX6_addSlice_36 ?_
      refine x_getr hx hb hts inX5 hown hK hP (tT_20 hz0) (C := RX5) (F := TX5) (N := 5) rfl 1 (by decide) q103 rfl (22 + 15 * 0) rfl dX6_addSlice_39 ?_
      refine lv_iload_n hx hb dX6_addSlice_42 rfl (lv_at hl 2 rfl) ?_
      refine lv_iload_n hx hb dX6_addSlice_43 rfl (lv_at hl 3 rfl) ?_
      obtain ⟨r44, hcal, h⟩ := bnd_s h
      refine x_VI (As := [.int x0, .int x1]) hx hb hml hown hts hK hP hS (ct_X4_overlap l D a cA cT hI g 0 x0 x1 hz0 r44 hcal) (tT_22 hz0) (C := RX4) (F := TX4) (N := 5) rfl (g_V q439 q440 q441 q39 q442) yd_X4_overlap ⟨Nat.le_of_ble_eq_true rfl, Nat.le_of_ble_eq_true rfl⟩ [] rfl (Nat.le_of_ble_eq_true rfl) hl.1 ⟨Nat.le_refl _, Nat.le_refl _⟩ dX6_addSlice_44 (fun H locs hP hS => ?_)
      refine lv_if_ne (tgt := 64) hx hb dX6_addSlice_47 (by decide) (fun hc => ?_) (fun hc => ?_)
      · have h := ite_f hc h
        refine lv_sipush (v := (-1004 : Int32)) hx hb dX6_addSlice_64 (by decide) ?_
        obtain ⟨rfl, rfl⟩ := Prod.mk.inj (Option.some.inj h)
        exact hend _ _ _ _ dX6_addSlice_67 rfl hP hS
      · have h := ite_t hc h
        refine lv_iload_n hx hb dX6_addSlice_50 rfl (lv_at hl 0 rfl) ?_
        refine lv_if_eq (tgt := 68) hx hb dX6_addSlice_51 (by decide) (fun hc => ?_) (fun hc => ?_)
        · have h := ite_t hc h
          refine lv_aload_n hx hb dX6_addSlice_68 rfl (lv_at hl 1 rfl) ?_
          refine x_getr hx hb hts inX6 hown hK hP tF_0 (C := RX6) (F := TX6) (N := 5) rfl 0 (by decide) q168 rfl (20 + 15 * 0) rfl dX6_addSlice_69 ?_
          refine x_getr hx hb hts inX5 hown hK hP (tT_20 hz0) (C := RX5) (F := TX5) (N := 5) rfl 1 (by decide) q103 rfl (22 + 15 * 0) rfl dX6_addSlice_72 ?_
          obtain ⟨r75, hcal, h⟩ := bnd_s h
          refine x_VI (As := []) hx hb hml hown hts hK hP hS (ct_X4_isFull l D a cA cT hI g 0 hz0 r75 hcal) (tT_22 hz0) (C := RX4) (F := TX4) (N := 5) rfl (g_V q443 q444 q445 q39 q446) yd_X4_isFull ⟨Nat.le_of_ble_eq_true rfl, Nat.le_of_ble_eq_true rfl⟩ [] rfl (Nat.le_of_ble_eq_true rfl) hl.1 ⟨Nat.le_refl _, Nat.le_refl _⟩ dX6_addSlice_75 (fun H locs hP hS => ?_)
          refine lv_if_eq (tgt := 85) hx hb dX6_addSlice_78 (by decide) (fun hc => ?_) (fun hc => ?_)
          · have h := ite_t hc h
            refine lv_aload_n hx hb dX6_addSlice_85 rfl (lv_at hl 1 rfl) ?_
            refine x_getr hx hb hts inX6 hown hK hP tF_0 (C := RX6) (F := TX6) (N := 5) rfl 1 (by decide) q169 rfl 1 rfl dX6_addSlice_86 ?_
            refine lv_aload_n hx hb dX6_addSlice_89 rfl (lv_at hl 1 rfl) ?_
            refine x_getr hx hb hts inX6 hown hK hP tF_0 (C := RX6) (F := TX6) (N := 5) rfl 0 (by decide) q168 rfl (20 + 15 * 0) rfl dX6_addSlice_90 ?_
            obtain ⟨g93, hcal, h⟩ := bnd_s h
            refine x_VV (As := [.ref (a (20 + 15 * 0))]) hx hb hml hown hts hK hP hS (ct_X1_record l D a cA cT hI g 0 hz0 g93 hcal) tF_1 (C := RX1) (F := TX1) (N := 4) rfl (g_V q412 q413 q414 q40 q415) yd_X1_record ⟨Nat.le_of_ble_eq_true rfl, Nat.le_of_ble_eq_true rfl⟩ [] rfl (Nat.le_of_ble_eq_true rfl) hl.1 ⟨Nat.le_refl _, Nat.le_refl _⟩ dX6_addSlice_93 (fun H locs hP hS => ?_)
            refine lv_aload_n hx hb dX6_addSlice_96 rfl (lv_at hl 1 rfl) ?_
            refine x_getr hx hb hts inX6 hown hK hP tF_0 (C := RX6) (F := TX6) (N := 5) rfl 0 (by decide) q168 rfl (20 + 15 * 0) rfl dX6_addSlice_97 ?_
            refine x_getr hx hb hts inX5 hown hK hP (tT_20 hz0) (C := RX5) (F := TX5) (N := 5) rfl 1 (by decide) q103 rfl (22 + 15 * 0) rfl dX6_addSlice_100 ?_
            refine lv_iload_n hx hb dX6_addSlice_103 rfl (lv_at hl 2 rfl) ?_
            refine lv_iload_n hx hb dX6_addSlice_104 rfl (lv_at hl 3 rfl) ?_
            obtain ⟨r105, g105, hcal, h⟩ := bnd2_s h
            refine x_VI (As := [.int x0, .int x1]) hx hb hml hown hts hK hP hS (ct_X4_append l D a cA cT hI g93 0 x0 x1 hz0 r105 g105 hcal) (tT_22 hz0) (C := RX4) (F := TX4) (N := 5) rfl (g_V q447 q448 q449 q39 q450) yd_X4_append ⟨Nat.le_of_ble_eq_true rfl, Nat.le_of_ble_eq_true rfl⟩ [] rfl (Nat.le_of_ble_eq_true rfl) hl.1 ⟨Nat.le_refl _, Nat.le_refl _⟩ dX6_addSlice_105 (fun H locs hP hS => ?_)
            refine lv_istore (lv' := [(4, .int r105), (3, .int (0 : Int32)), (0, .ref (a 0)), (1, .int x0), (2, .int x1)]) hx hb dX6_addSlice_108 hl (by decide) rfl (fun ls hl => ?_)
            refine lv_aload_n hx hb dX6_addSlice_110 rfl (lv_at hl 2 rfl) ?_
            refine x_getr hx hb hts inX6 hown hK hP tF_0 (C := RX6) (F := TX6) (N := 5) rfl 0 (by decide) q168 rfl (20 + 15 * 0) rfl dX6_addSlice_111 ?_
            refine x_getr hx hb hts inX5 hown hK hP (tT_20 hz0) (C := RX5) (F := TX5) (N := 5) rfl 0 (by decide) q101 rfl (21 + 15 * 0) rfl dX6_addSlice_114 ?_
            refine lv_bipush (v := (60 : Int32)) hx hb dX6_addSlice_117 (by decide) ?_
            refine lv_iload hx hb dX6_addSlice_119 (lv_at hl 0 rfl) ?_
            refine lv_iload_n hx hb dX6_addSlice_121 rfl (lv_at hl 3 rfl) ?_
            refine lv_iload_n hx hb dX6_addSlice_122 rfl (lv_at hl 4 rfl) ?_
            obtain ⟨g123, hcal, h⟩ := bnd_s h
            refine x_VV (As := [.int (60 : Int32), .int r105, .int x0, .int x1]) hx hb hml hown hts hK hP hS (ct_X3_moveKeys l D a cA cT hI g105 0 (60 : Int32) r105 x0 x1 hz0 g123 hcal) (tT_21 hz0) (C := RX3) (F := TX3) (N := 4) rfl (g_V q459 q460 q461 q37 q462) yd_X3_moveKeys ⟨Nat.le_of_ble_eq_true rfl, Nat.le_of_ble_eq_true rfl⟩ [] rfl (Nat.le_of_ble_eq_true rfl) hl.1 ⟨Nat.le_refl _, Nat.le_refl _⟩ dX6_addSlice_123 (fun H locs hP hS => ?_)
            refine lv_iload hx hb dX6_addSlice_126 (lv_at hl 0 rfl) ?_
            obtain ⟨rfl, rfl⟩ := Prod.mk.inj (Option.some.inj h)
            exact hend _ _ _ _ dX6_addSlice_128 rfl hP hS
          · have h := ite_f hc h
            refine lv_sipush (v := (-1003 : Int32)) hx hb dX6_addSlice_81 (by decide) ?_
            obtain ⟨rfl, rfl⟩ := Prod.mk.inj (Option.some.inj h)
            exact hend _ _ _ _ dX6_addSlice_84 rfl hP hS
        · have h := ite_f hc h
          refine lv_aload_n hx hb dX6_addSlice_54 rfl (lv_at hl 1 rfl) ?_
          refine x_getr hx hb hts inX6 hown hK hP tF_0 (C := RX6) (F := TX6) (N := 5) rfl 0 (by decide) q168 rfl (20 + 15 * 0) rfl dX6_addSlice_55 ?_
          refine x_get hx hb hts inX5 hown hK hP (tT_20 hz0) (C := RX5) (F := TX5) (N := 5) rfl 4 (by decide) q109 rfl rfl dX6_addSlice_58 ?_
          refine lv_if_ne (tgt := 68) hx hb dX6_addSlice_61 (by decide) (fun hc => ?_) (fun hc => ?_)
          · have h := ite_f hc h
            refine lv_aload_n hx hb dX6_addSlice_68 rfl (lv_at hl 1 rfl) ?_
            refine x_getr hx hb hts inX6 hown hK hP tF_0 (C := RX6) (F := TX6) (N := 5) rfl 0 (by decide) q168 rfl (20 + 15 * 0) rfl dX6_addSlice_69 ?_
            refine x_getr hx hb hts inX5 hown hK hP (tT_20 hz0) (C := RX5) (F := TX5) (N := 5) rfl 1 (by decide) q103 rfl (22 + 15 * 0) rfl dX6_addSlice_72 ?_
            obtain ⟨r75, hcal, h⟩ := bnd_s h
            refine x_VI (As := []) hx hb hml hown hts hK hP hS (ct_X4_isFull l D a cA cT hI g 0 hz0 r75 hcal) (tT_22 hz0) (C := RX4) (F := TX4) (N := 5) rfl (g_V q443 q444 q445 q39 q446) yd_X4_isFull ⟨Nat.le_of_ble_eq_true rfl, Nat.le_of_ble_eq_true rfl⟩ [] rfl (Nat.le_of_ble_eq_true rfl) hl.1 ⟨Nat.le_refl _, Nat.le_refl _⟩ dX6_addSlice_75 (fun H locs hP hS => ?_)
            refine lv_if_eq (tgt := 85) hx hb dX6_addSlice_78 (by decide) (fun hc => ?_) (fun hc => ?_)
            · have h := ite_t hc h
              refine lv_aload_n hx hb dX6_addSlice_85 rfl (lv_at hl 1 rfl) ?_
              refine x_getr hx hb hts inX6 hown hK hP tF_0 (C := RX6) (F := TX6) (N := 5) rfl 1 (by decide) q169 rfl 1 rfl dX6_addSlice_86 ?_
              refine lv_aload_n hx hb dX6_addSlice_89 rfl (lv_at hl 1 rfl) ?_
              refine x_getr hx hb hts inX6 hown hK hP tF_0 (C := RX6) (F := TX6) (N := 5) rfl 0 (by decide) q168 rfl (20 + 15 * 0) rfl dX6_addSlice_90 ?_
              obtain ⟨g93, hcal, h⟩ := bnd_s h
              refine x_VV (As := [.ref (a (20 + 15 * 0))]) hx hb hml hown hts hK hP hS (ct_X1_record l D a cA cT hI g 0 hz0 g93 hcal) tF_1 (C := RX1) (F := TX1) (N := 4) rfl (g_V q412 q413 q414 q40 q415) yd_X1_record ⟨Nat.le_of_ble_eq_true rfl, Nat.le_of_ble_eq_true rfl⟩ [] rfl (Nat.le_of_ble_eq_true rfl) hl.1 ⟨Nat.le_refl _, Nat.le_refl _⟩ dX6_addSlice_93 (fun H locs hP hS => ?_)
              refine lv_aload_n hx hb dX6_addSlice_96 rfl (lv_at hl 1 rfl) ?_
              refine x_getr hx hb hts inX6 hown hK hP tF_0 (C := RX6) (F := TX6) (N := 5) rfl 0 (by decide) q168 rfl (20 + 15 * 0) rfl dX6_addSlice_97 ?_
              refine x_getr hx hb hts inX5 hown hK hP (tT_20 hz0) (C := RX5) (F := TX5) (N := 5) rfl 1 (by decide) q103 rfl (22 + 15 * 0) rfl dX6_addSlice_100 ?_
              refine lv_iload_n hx hb dX6_addSlice_103 rfl (lv_at hl 2 rfl) ?_
              refine lv_iload_n hx hb dX6_addSlice_104 rfl (lv_at hl 3 rfl) ?_
              obtain ⟨r105, g105, hcal, h⟩ := bnd2_s h
              refine x_VI (As := [.int x0, .int x1]) hx hb hml hown hts hK hP hS (ct_X4_append l D a cA cT hI g93 0 x0 x1 hz0 r105 g105 hcal) (tT_22 hz0) (C := RX4) (F := TX4) (N := 5) rfl (g_V q447 q448 q449 q39 q450) yd_X4_append ⟨Nat.le_of_ble_eq_true rfl, Nat.le_of_ble_eq_true rfl⟩ [] rfl (Nat.le_of_ble_eq_true rfl) hl.1 ⟨Nat.le_refl _, Nat.le_refl _⟩ dX6_addSlice_105 (fun H locs hP hS => ?_)
              refine lv_istore (lv' := [(4, .int r105), (3, .int (0 : Int32)), (0, .ref (a 0)), (1, .int x0), (2, .int x1)]) hx hb dX6_addSlice_108 hl (by decide) rfl (fun ls hl => ?_)
              refine lv_aload_n hx hb dX6_addSlice_110 rfl (lv_at hl 2 rfl) ?_
              refine x_getr hx hb hts inX6 hown hK hP tF_0 (C := RX6) (F := TX6) (N := 5) rfl 0 (by decide) q168 rfl (20 + 15 * 0) rfl dX6_addSlice_111 ?_
              refine x_getr hx hb hts inX5 hown hK hP (tT_20 hz0) (C := RX5) (F := TX5) (N := 5) rfl 0 (by decide) q101 rfl (21 + 15 * 0) rfl dX6_addSlice_114 ?_
              refine lv_bipush (v := (60 : Int32)) hx hb dX6_addSlice_117 (by decide) ?_
              refine lv_iload hx hb dX6_addSlice_119 (lv_at hl 0 rfl) ?_
              refine lv_iload_n hx hb dX6_addSlice_121 rfl (lv_at hl 3 rfl) ?_
              refine lv_iload_n hx hb dX6_addSlice_122 rfl (lv_at hl 4 rfl) ?_
              obtain ⟨g123, hcal, h⟩ := bnd_s h
              refine x_VV (As := [.int (60 : Int32), .int r105, .int x0, .int x1]) hx hb hml hown hts hK hP hS (ct_X3_moveKeys l D a cA cT hI g105 0 (60 : Int32) r105 x0 x1 hz0 g123 hcal) (tT_21 hz0) (C := RX3) (F := TX3) (N := 4) rfl (g_V q459 q460 q461 q37 q462) yd_X3_moveKeys ⟨Nat.le_of_ble_eq_true rfl, Nat.le_of_ble_eq_true rfl⟩ [] rfl (Nat.le_of_ble_eq_true rfl) hl.1 ⟨Nat.le_refl _, Nat.le_refl _⟩ dX6_addSlice_123 (fun H locs hP hS => ?_)
              refine lv_iload hx hb dX6_addSlice_126 (lv_at hl 0 rfl) ?_
              obtain ⟨rfl, rfl⟩ := Prod.mk.inj (Option.some.inj h)
              exact hend _ _ _ _ dX6_addSlice_128 rfl hP hS
            · have h := ite_f hc h
              refine lv_sipush (v := (-1003 : Int32)) hx hb dX6_addSlice_81 (by decide) ?_
              obtain ⟨rfl, rfl⟩ := Prod.mk.inj (Option.some.inj h)
              exact hend _ _ _ _ dX6_addSlice_84 rfl hP hS
          · have h := ite_t hc h
            refine lv_sipush (v := (-1004 : Int32)) hx hb dX6_addSlice_64 (by decide) ?_
            obtain ⟨rfl, rfl⟩ := Prod.mk.inj (Option.some.inj h)
            exact hend _ _ _ _ dX6_addSlice_67 rfl hP hS
    · have h := ite_f hc h
      refine lv_iconst (v := (1 : Int32)) hx hb dX6_addSlice_29 (by decide) ?_
      refine lv_goto (tgt := 34) hx hb dX6_addSlice_30 (by decide) ?_
      refine lv_istore_n (lv' := [(3, .int (1 : Int32)), (0, .ref (a 0)), (1, .int x0), (2, .int x1)]) hx hb dX6_addSlice_34 rfl hl (by decide) rfl (fun ls hl => ?_)
      refine lv_aload_n hx hb dX6_addSlice_35 rfl (lv_at hl 1 rfl) ?_
      refine x_getr hx hb hts inX6 hown hK hP tF_0 (C := RX6) (F := TX6) (N := 5) rfl 0 (by decide) q168 rfl (20 + 15 * 0) rfl dX6_addSlice_36 ?_
      refine x_getr hx hb hts inX5 hown hK hP (tT_20 hz0) (C := RX5) (F := TX5) (N := 5) rfl 1 (by decide) q103 rfl (22 + 15 * 0) rfl dX6_addSlice_39 ?_
      refine lv_iload_n hx hb dX6_addSlice_42 rfl (lv_at hl 2 rfl) ?_
      refine lv_iload_n hx hb dX6_addSlice_43 rfl (lv_at hl 3 rfl) ?_
      obtain ⟨r44, hcal, h⟩ := bnd_s h
      refine x_VI (As := [.int x0, .int x1]) hx hb hml hown hts hK hP hS (ct_X4_overlap l D a cA cT hI g 0 x0 x1 hz0 r44 hcal) (tT_22 hz0) (C := RX4) (F := TX4) (N := 5) rfl (g_V q439 q440 q441 q39 q442) yd_X4_overlap ⟨Nat.le_of_ble_eq_true rfl, Nat.le_of_ble_eq_true rfl⟩ [] rfl (Nat.le_of_ble_eq_true rfl) hl.1 ⟨Nat.le_refl _, Nat.le_refl _⟩ dX6_addSlice_44 (fun H locs hP hS => ?_)
      refine lv_if_ne (tgt := 64) hx hb dX6_addSlice_47 (by decide) (fun hc => ?_) (fun hc => ?_)
      · have h := ite_f hc h
        refine lv_sipush (v := (-1004 : Int32)) hx hb dX6_addSlice_64 (by decide) ?_
        obtain ⟨rfl, rfl⟩ := Prod.mk.inj (Option.some.inj h)
        exact hend _ _ _ _ dX6_addSlice_67 rfl hP hS
      · have h := ite_t hc h
        refine lv_iload_n hx hb dX6_addSlice_50 rfl (lv_at hl 0 rfl) ?_
        refine lv_if_eq (tgt := 68) hx hb dX6_addSlice_51 (by decide) (fun hc => ?_) (fun hc => ?_)
        · have h := ite_t hc h
          refine lv_aload_n hx hb dX6_addSlice_68 rfl (lv_at hl 1 rfl) ?_
          refine x_getr hx hb hts inX6 hown hK hP tF_0 (C := RX6) (F := TX6) (N := 5) rfl 0 (by decide) q168 rfl (20 + 15 * 0) rfl dX6_addSlice_69 ?_
          refine x_getr hx hb hts inX5 hown hK hP (tT_20 hz0) (C := RX5) (F := TX5) (N := 5) rfl 1 (by decide) q103 rfl (22 + 15 * 0) rfl dX6_addSlice_72 ?_
          obtain ⟨r75, hcal, h⟩ := bnd_s h
          refine x_VI (As := []) hx hb hml hown hts hK hP hS (ct_X4_isFull l D a cA cT hI g 0 hz0 r75 hcal) (tT_22 hz0) (C := RX4) (F := TX4) (N := 5) rfl (g_V q443 q444 q445 q39 q446) yd_X4_isFull ⟨Nat.le_of_ble_eq_true rfl, Nat.le_of_ble_eq_true rfl⟩ [] rfl (Nat.le_of_ble_eq_true rfl) hl.1 ⟨Nat.le_refl _, Nat.le_refl _⟩ dX6_addSlice_75 (fun H locs hP hS => ?_)
          refine lv_if_eq (tgt := 85) hx hb dX6_addSlice_78 (by decide) (fun hc => ?_) (fun hc => ?_)
          · have h := ite_t hc h
            refine lv_aload_n hx hb dX6_addSlice_85 rfl (lv_at hl 1 rfl) ?_
            refine x_getr hx hb hts inX6 hown hK hP tF_0 (C := RX6) (F := TX6) (N := 5) rfl 1 (by decide) q169 rfl 1 rfl dX6_addSlice_86 ?_
            refine lv_aload_n hx hb dX6_addSlice_89 rfl (lv_at hl 1 rfl) ?_
            refine x_getr hx hb hts inX6 hown hK hP tF_0 (C := RX6) (F := TX6) (N := 5) rfl 0 (by decide) q168 rfl (20 + 15 * 0) rfl dX6_addSlice_90 ?_
            obtain ⟨g93, hcal, h⟩ := bnd_s h
            refine x_VV (As := [.ref (a (20 + 15 * 0))]) hx hb hml hown hts hK hP hS (ct_X1_record l D a cA cT hI g 0 hz0 g93 hcal) tF_1 (C := RX1) (F := TX1) (N := 4) rfl (g_V q412 q413 q414 q40 q415) yd_X1_record ⟨Nat.le_of_ble_eq_true rfl, Nat.le_of_ble_eq_true rfl⟩ [] rfl (Nat.le_of_ble_eq_true rfl) hl.1 ⟨Nat.le_refl _, Nat.le_refl _⟩ dX6_addSlice_93 (fun H locs hP hS => ?_)
            refine lv_aload_n hx hb dX6_addSlice_96 rfl (lv_at hl 1 rfl) ?_
            refine x_getr hx hb hts inX6 hown hK hP tF_0 (C := RX6) (F := TX6) (N := 5) rfl 0 (by decide) q168 rfl (20 + 15 * 0) rfl dX6_addSlice_97 ?_
            refine x_getr hx hb hts inX5 hown hK hP (tT_20 hz0) (C := RX5) (F := TX5) (N := 5) rfl 1 (by decide) q103 rfl (22 + 15 * 0) rfl dX6_addSlice_100 ?_
            refine lv_iload_n hx hb dX6_addSlice_103 rfl (lv_at hl 2 rfl) ?_
            refine lv_iload_n hx hb dX6_addSlice_104 rfl (lv_at hl 3 rfl) ?_
            obtain ⟨r105, g105, hcal, h⟩ := bnd2_s h
            refine x_VI (As := [.int x0, .int x1]) hx hb hml hown hts hK hP hS (ct_X4_append l D a cA cT hI g93 0 x0 x1 hz0 r105 g105 hcal) (tT_22 hz0) (C := RX4) (F := TX4) (N := 5) rfl (g_V q447 q448 q449 q39 q450) yd_X4_append ⟨Nat.le_of_ble_eq_true rfl, Nat.le_of_ble_eq_true rfl⟩ [] rfl (Nat.le_of_ble_eq_true rfl) hl.1 ⟨Nat.le_refl _, Nat.le_refl _⟩ dX6_addSlice_105 (fun H locs hP hS => ?_)
            refine lv_istore (lv' := [(4, .int r105), (3, .int (1 : Int32)), (0, .ref (a 0)), (1, .int x0), (2, .int x1)]) hx hb dX6_addSlice_108 hl (by decide) rfl (fun ls hl => ?_)
            refine lv_aload_n hx hb dX6_addSlice_110 rfl (lv_at hl 2 rfl) ?_
            refine x_getr hx hb hts inX6 hown hK hP tF_0 (C := RX6) (F := TX6) (N := 5) rfl 0 (by decide) q168 rfl (20 + 15 * 0) rfl dX6_addSlice_111 ?_
            refine x_getr hx hb hts inX5 hown hK hP (tT_20 hz0) (C := RX5) (F := TX5) (N := 5) rfl 0 (by decide) q101 rfl (21 + 15 * 0) rfl dX6_addSlice_114 ?_
            refine lv_bipush (v := (60 : Int32)) hx hb dX6_addSlice_117 (by decide) ?_
            refine lv_iload hx hb dX6_addSlice_119 (lv_at hl 0 rfl) ?_
            refine lv_iload_n hx hb dX6_addSlice_121 rfl (lv_at hl 3 rfl) ?_
            refine lv_iload_n hx hb dX6_addSlice_122 rfl (lv_at hl 4 rfl) ?_
            obtain ⟨g123, hcal, h⟩ := bnd_s h
            refine x_VV (As := [.int (60 : Int32), .int r105, .int x0, .int x1]) hx hb hml hown hts hK hP hS (ct_X3_moveKeys l D a cA cT hI g105 0 (60 : Int32) r105 x0 x1 hz0 g123 hcal) (tT_21 hz0) (C := RX3) (F := TX3) (N := 4) rfl (g_V q459 q460 q461 q37 q462) yd_X3_moveKeys ⟨Nat.le_of_ble_eq_true rfl, Nat.le_of_ble_eq_true rfl⟩ [] rfl (Nat.le_of_ble_eq_true rfl) hl.1 ⟨Nat.le_refl _, Nat.le_refl _⟩ dX6_addSlice_123 (fun H locs hP hS => ?_)
            refine lv_iload hx hb dX6_addSlice_126 (lv_at hl 0 rfl) ?_
            obtain ⟨rfl, rfl⟩ := Prod.mk.inj (Option.some.inj h)
            exact hend _ _ _ _ dX6_addSlice_128 rfl hP hS
          · have h := ite_f hc h
            refine lv_sipush (v := (-1003 : Int32)) hx hb dX6_addSlice_81 (by decide) ?_
            obtain ⟨rfl, rfl⟩ := Prod.mk.inj (Option.some.inj h)
            exact hend _ _ _ _ dX6_addSlice_84 rfl hP hS
        · have h := ite_f hc h
          refine lv_aload_n hx hb dX6_addSlice_54 rfl (lv_at hl 1 rfl) ?_
          refine x_getr hx hb hts inX6 hown hK hP tF_0 (C := RX6) (F := TX6) (N := 5) rfl 0 (by decide) q168 rfl (20 + 15 * 0) rfl dX6_addSlice_55 ?_
          refine x_get hx hb hts inX5 hown hK hP (tT_20 hz0) (C := RX5) (F := TX5) (N := 5) rfl 4 (by decide) q109 rfl rfl dX6_addSlice_58 ?_
          refine lv_if_ne (tgt := 68) hx hb dX6_addSlice_61 (by decide) (fun hc => ?_) (fun hc => ?_)
          · have h := ite_f hc h
            refine lv_aload_n hx hb dX6_addSlice_68 rfl (lv_at hl 1 rfl) ?_
            refine x_getr hx hb hts inX6 hown hK hP tF_0 (C := RX6) (F := TX6) (N := 5) rfl 0 (by decide) q168 rfl (20 + 15 * 0) rfl dX6_addSlice_69 ?_
            refine x_getr hx hb hts inX5 hown hK hP (tT_20 hz0) (C := RX5) (F := TX5) (N := 5) rfl 1 (by decide) q103 rfl (22 + 15 * 0) rfl dX6_addSlice_72 ?_
            obtain ⟨r75, hcal, h⟩ := bnd_s h
            refine x_VI (As := []) hx hb hml hown hts hK hP hS (ct_X4_isFull l D a cA cT hI g 0 hz0 r75 hcal) (tT_22 hz0) (C := RX4) (F := TX4) (N := 5) rfl (g_V q443 q444 q445 q39 q446) yd_X4_isFull ⟨Nat.le_of_ble_eq_true rfl, Nat.le_of_ble_eq_true rfl⟩ [] rfl (Nat.le_of_ble_eq_true rfl) hl.1 ⟨Nat.le_refl _, Nat.le_refl _⟩ dX6_addSlice_75 (fun H locs hP hS => ?_)
            refine lv_if_eq (tgt := 85) hx hb dX6_addSlice_78 (by decide) (fun hc => ?_) (fun hc => ?_)
            · have h := ite_t hc h
              refine lv_aload_n hx hb dX6_addSlice_85 rfl (lv_at hl 1 rfl) ?_
              refine x_getr hx hb hts inX6 hown hK hP tF_0 (C := RX6) (F := TX6) (N := 5) rfl 1 (by decide) q169 rfl 1 rfl dX6_addSlice_86 ?_
              refine lv_aload_n hx hb dX6_addSlice_89 rfl (lv_at hl 1 rfl) ?_
              refine x_getr hx hb hts inX6 hown hK hP tF_0 (C := RX6) (F := TX6) (N := 5) rfl 0 (by decide) q168 rfl (20 + 15 * 0) rfl dX6_addSlice_90 ?_
              obtain ⟨g93, hcal, h⟩ := bnd_s h
              refine x_VV (As := [.ref (a (20 + 15 * 0))]) hx hb hml hown hts hK hP hS (ct_X1_record l D a cA cT hI g 0 hz0 g93 hcal) tF_1 (C := RX1) (F := TX1) (N := 4) rfl (g_V q412 q413 q414 q40 q415) yd_X1_record ⟨Nat.le_of_ble_eq_true rfl, Nat.le_of_ble_eq_true rfl⟩ [] rfl (Nat.le_of_ble_eq_true rfl) hl.1 ⟨Nat.le_refl _, Nat.le_refl _⟩ dX6_addSlice_93 (fun H locs hP hS => ?_)
              refine lv_aload_n hx hb dX6_addSlice_96 rfl (lv_at hl 1 rfl) ?_
              refine x_getr hx hb hts inX6 hown hK hP tF_0 (C := RX6) (F := TX6) (N := 5) rfl 0 (by decide) q168 rfl (20 + 15 * 0) rfl dX6_addSlice_97 ?_
              refine x_getr hx hb hts inX5 hown hK hP (tT_20 hz0) (C := RX5) (F := TX5) (N := 5) rfl 1 (by decide) q103 rfl (22 + 15 * 0) rfl dX6_addSlice_100 ?_
              refine lv_iload_n hx hb dX6_addSlice_103 rfl (lv_at hl 2 rfl) ?_
              refine lv_iload_n hx hb dX6_addSlice_104 rfl (lv_at hl 3 rfl) ?_
              obtain ⟨r105, g105, hcal, h⟩ := bnd2_s h
              refine x_VI (As := [.int x0, .int x1]) hx hb hml hown hts hK hP hS (ct_X4_append l D a cA cT hI g93 0 x0 x1 hz0 r105 g105 hcal) (tT_22 hz0) (C := RX4) (F := TX4) (N := 5) rfl (g_V q447 q448 q449 q39 q450) yd_X4_append ⟨Nat.le_of_ble_eq_true rfl, Nat.le_of_ble_eq_true rfl⟩ [] rfl (Nat.le_of_ble_eq_true rfl) hl.1 ⟨Nat.le_refl _, Nat.le_refl _⟩ dX6_addSlice_105 (fun H locs hP hS => ?_)
              refine lv_istore (lv' := [(4, .int r105), (3, .int (1 : Int32)), (0, .ref (a 0)), (1, .int x0), (2, .int x1)]) hx hb dX6_addSlice_108 hl (by decide) rfl (fun ls hl => ?_)
              refine lv_aload_n hx hb dX6_addSlice_110 rfl (lv_at hl 2 rfl) ?_
              refine x_getr hx hb hts inX6 hown hK hP tF_0 (C := RX6) (F := TX6) (N := 5) rfl 0 (by decide) q168 rfl (20 + 15 * 0) rfl dX6_addSlice_111 ?_
              refine x_getr hx hb hts inX5 hown hK hP (tT_20 hz0) (C := RX5) (F := TX5) (N := 5) rfl 0 (by decide) q101 rfl (21 + 15 * 0) rfl dX6_addSlice_114 ?_
              refine lv_bipush (v := (60 : Int32)) hx hb dX6_addSlice_117 (by decide) ?_
              refine lv_iload hx hb dX6_addSlice_119 (lv_at hl 0 rfl) ?_
              refine lv_iload_n hx hb dX6_addSlice_121 rfl (lv_at hl 3 rfl) ?_
              refine lv_iload_n hx hb dX6_addSlice_122 rfl (lv_at hl 4 rfl) ?_
              obtain ⟨g123, hcal, h⟩ := bnd_s h
              refine x_VV (As := [.int (60 : Int32), .int r105, .int x0, .int x1]) hx hb hml hown hts hK hP hS (ct_X3_moveKeys l D a cA cT hI g105 0 (60 : Int32) r105 x0 x1 hz0 g123 hcal) (tT_21 hz0) (C := RX3) (F := TX3) (N := 4) rfl (g_V q459 q460 q461 q37 q462) yd_X3_moveKeys ⟨Nat.le_of_ble_eq_true rfl, Nat.le_of_ble_eq_true rfl⟩ [] rfl (Nat.le_of_ble_eq_true rfl) hl.1 ⟨Nat.le_refl _, Nat.le_refl _⟩ dX6_addSlice_123 (fun H locs hP hS => ?_)
              refine lv_iload hx hb dX6_addSlice_126 (lv_at hl 0 rfl) ?_
              obtain ⟨rfl, rfl⟩ := Prod.mk.inj (Option.some.inj h)
              exact hend _ _ _ _ dX6_addSlice_128 rfl hP hS
            · have h := ite_f hc h
              refine lv_sipush (v := (-1003 : Int32)) hx hb dX6_addSlice_81 (by decide) ?_
              obtain ⟨rfl, rfl⟩ := Prod.mk.inj (Option.some.inj h)
              exact hend _ _ _ _ dX6_addSlice_84 rfl hP hS
          · have h := ite_t hc h
            refine lv_sipush (v := (-1004 : Int32)) hx hb dX6_addSlice_64 (by decide) ?_
            obtain ⟨rfl, rfl⟩ := Prod.mk.inj (Option.some.inj h)
            exact hend _ _ _ _ dX6_addSlice_67 rfl hP hS
  · have h := ite_t hc h
    refine lv_sipush (v := (-1002 : Int32)) hx hb dX6_addSlice_8 (by decide) ?_
    obtain ⟨rfl, rfl⟩ := Prod.mk.inj (Option.some.inj h)
    exact hend _ _ _ _ dX6_addSlice_11 rfl hP hS
set_option maxHeartbeats 4000000 in
set_option maxRecDepth 100000 in
theorem ct_X6_dropSlice (l : Launch) (D : va_G) (a : Nat → Nat) (cA cT : ClassId) (hI : WI a TC) (g : MG) (x0 : Int32)  (r : Int32) (g' : MG) (h : m_X6_dropSlice g x0 = some (r, g')) :
    CtI l D a cA cT TC yX6_dropSlice (Cond.code yX6_dropSlice cX6_dropSlice 3 (some .int) :: lw_all) (rmm 5 113) [.ref (a 0), .int x0] g r g' := by
  refine CtI.of (by decide +kernel) (Nat.le_of_ble_eq_true rfl) ?_
  intro p e s m args below meth c Q ls hx hb hml hown hts hK hP hS hl hend
  have hl : lv_has ls 3 [(0, .ref (a 0)), (1, .int x0)] := hl
  unfold m_X6_dropSlice at h
  refine lv_aload_n hx hb dX6_dropSlice_0 rfl (lv_at hl 0 rfl) ?_
  refine x_getr hx hb hts inX6 hown hK hP tF_0 (C := RX6) (F := TX6) (N := 5) rfl 0 (by decide) q168 rfl (20 + 15 * 0) rfl dX6_dropSlice_1 ?_
  refine x_getr hx hb hts inX5 hown hK hP (tT_20 hz0) (C := RX5) (F := TX5) (N := 5) rfl 1 (by decide) q103 rfl (22 + 15 * 0) rfl dX6_dropSlice_4 ?_
  refine lv_iload_n hx hb dX6_dropSlice_7 rfl (lv_at hl 1 rfl) ?_
  obtain ⟨r8, hcal, h⟩ := bnd_s h
  refine x_VI (As := [.int x0]) hx hb hml hown hts hK hP hS (ct_X4_has l D a cA cT hI g 0 x0 hz0 r8 hcal) (tT_22 hz0) (C := RX4) (F := TX4) (N := 5) rfl (g_V q335 q336 q337 q39 q338) yd_X4_has ⟨Nat.le_of_ble_eq_true rfl, Nat.le_of_ble_eq_true rfl⟩ [] rfl (Nat.le_of_ble_eq_true rfl) hl.1 ⟨Nat.le_refl _, Nat.le_refl _⟩ dX6_dropSlice_8 (fun H locs hP hS => ?_)
  refine lv_if_ne (tgt := 18) hx hb dX6_dropSlice_11 (by decide) (fun hc => ?_) (fun hc => ?_)
  · have h := ite_f hc h
    refine lv_aload_n hx hb dX6_dropSlice_18 rfl (lv_at hl 0 rfl) ?_
    refine x_getr hx hb hts inX6 hown hK hP tF_0 (C := RX6) (F := TX6) (N := 5) rfl 0 (by decide) q168 rfl (20 + 15 * 0) rfl dX6_dropSlice_19 ?_
    refine x_getr hx hb hts inX5 hown hK hP (tT_20 hz0) (C := RX5) (F := TX5) (N := 5) rfl 0 (by decide) q101 rfl (21 + 15 * 0) rfl dX6_dropSlice_22 ?_
    refine lv_iload_n hx hb dX6_dropSlice_25 rfl (lv_at hl 1 rfl) ?_
    obtain ⟨r26, hcal, h⟩ := bnd_s h
    refine x_VI (As := [.int x0]) hx hb hml hown hts hK hP hS (ct_X3_amountAt l D a cA cT hI g 0 x0 hz0 r26 hcal) (tT_21 hz0) (C := RX3) (F := TX3) (N := 4) rfl (g_V q232 q233 q234 q37 q235) yd_X3_amountAt ⟨Nat.le_of_ble_eq_true rfl, Nat.le_of_ble_eq_true rfl⟩ [] rfl (Nat.le_of_ble_eq_true rfl) hl.1 ⟨Nat.le_refl _, Nat.le_refl _⟩ dX6_dropSlice_26 (fun H locs hP hS => ?_)
    refine lv_istore_n (lv' := [(2, .int r26), (0, .ref (a 0)), (1, .int x0)]) hx hb dX6_dropSlice_29 rfl hl (by decide) rfl (fun ls hl => ?_)
    refine lv_aload_n hx hb dX6_dropSlice_30 rfl (lv_at hl 1 rfl) ?_
    refine x_getr hx hb hts inX6 hown hK hP tF_0 (C := RX6) (F := TX6) (N := 5) rfl 1 (by decide) q169 rfl 1 rfl dX6_dropSlice_31 ?_
    refine lv_aload_n hx hb dX6_dropSlice_34 rfl (lv_at hl 1 rfl) ?_
    refine x_getr hx hb hts inX6 hown hK hP tF_0 (C := RX6) (F := TX6) (N := 5) rfl 0 (by decide) q168 rfl (20 + 15 * 0) rfl dX6_dropSlice_35 ?_
    obtain ⟨g38, hcal, h⟩ := bnd_s h
    refine x_VV (As := [.ref (a (20 + 15 * 0))]) hx hb hml hown hts hK hP hS (ct_X1_record l D a cA cT hI g 0 hz0 g38 hcal) tF_1 (C := RX1) (F := TX1) (N := 4) rfl (g_V q412 q413 q414 q40 q415) yd_X1_record ⟨Nat.le_of_ble_eq_true rfl, Nat.le_of_ble_eq_true rfl⟩ [] rfl (Nat.le_of_ble_eq_true rfl) hl.1 ⟨Nat.le_refl _, Nat.le_refl _⟩ dX6_dropSlice_38 (fun H locs hP hS => ?_)
    refine lv_aload_n hx hb dX6_dropSlice_41 rfl (lv_at hl 1 rfl) ?_
    refine x_getr hx hb hts inX6 hown hK hP tF_0 (C := RX6) (F := TX6) (N := 5) rfl 0 (by decide) q168 rfl (20 + 15 * 0) rfl dX6_dropSlice_42 ?_
    refine x_getr hx hb hts inX5 hown hK hP (tT_20 hz0) (C := RX5) (F := TX5) (N := 5) rfl 0 (by decide) q101 rfl (21 + 15 * 0) rfl dX6_dropSlice_45 ?_
    refine lv_iload_n hx hb dX6_dropSlice_48 rfl (lv_at hl 2 rfl) ?_
    refine lv_iconst (v := (-1 : Int32)) hx hb dX6_dropSlice_49 (by decide) ?_
    obtain ⟨g50, hcal, h⟩ := bnd_s h
    refine x_VV (As := [.int x0, .int (-1 : Int32)]) hx hb hml hown hts hK hP hS (ct_X3_moveAll l D a cA cT hI g38 0 x0 (-1 : Int32) hz0 g50 hcal) (tT_21 hz0) (C := RX3) (F := TX3) (N := 4) rfl (g_V q493 q494 q495 q37 q496) yd_X3_moveAll ⟨Nat.le_of_ble_eq_true rfl, Nat.le_of_ble_eq_true rfl⟩ [] rfl (Nat.le_of_ble_eq_true rfl) hl.1 ⟨Nat.le_refl _, Nat.le_refl _⟩ dX6_dropSlice_50 (fun H locs hP hS => ?_)
    refine lv_aload_n hx hb dX6_dropSlice_53 rfl (lv_at hl 1 rfl) ?_
    refine x_getr hx hb hts inX6 hown hK hP tF_0 (C := RX6) (F := TX6) (N := 5) rfl 0 (by decide) q168 rfl (20 + 15 * 0) rfl dX6_dropSlice_54 ?_
    refine x_getr hx hb hts inX5 hown hK hP (tT_20 hz0) (C := RX5) (F := TX5) (N := 5) rfl 1 (by decide) q103 rfl (22 + 15 * 0) rfl dX6_dropSlice_57 ?_
    refine lv_iload_n hx hb dX6_dropSlice_60 rfl (lv_at hl 2 rfl) ?_
    obtain ⟨g61, hcal, h⟩ := bnd_s h
    refine x_VV (As := [.int x0]) hx hb hml hown hts hK hP hS (ct_X4_remove l D a cA cT hI g50 0 x0 hz0 g61 hcal) (tT_22 hz0) (C := RX4) (F := TX4) (N := 5) rfl (g_V q514 q507 q508 q39 q509) yd_X4_remove ⟨Nat.le_of_ble_eq_true rfl, Nat.le_of_ble_eq_true rfl⟩ [] rfl (Nat.le_of_ble_eq_true rfl) hl.1 ⟨Nat.le_refl _, Nat.le_refl _⟩ dX6_dropSlice_61 (fun H locs hP hS => ?_)
    refine lv_iload_n hx hb dX6_dropSlice_64 rfl (lv_at hl 0 rfl) ?_
    obtain ⟨rfl, rfl⟩ := Prod.mk.inj (Option.some.inj h)
    exact hend _ _ _ _ dX6_dropSlice_65 rfl hP hS
  · have h := ite_t hc h
    refine lv_sipush (v := (-1001 : Int32)) hx hb dX6_dropSlice_14 (by decide) ?_
    obtain ⟨rfl, rfl⟩ := Prod.mk.inj (Option.some.inj h)
    exact hend _ _ _ _ dX6_dropSlice_17 rfl hP hS
set_option maxHeartbeats 4000000 in
set_option maxRecDepth 100000 in
theorem ct_X6_detach (l : Launch) (D : va_G) (a : Nat → Nat) (cA cT : ClassId) (hI : WI a TC) (g : MG) (x0 : Int32)  (r : Int32) (g' : MG) (h : m_X6_detach g x0 = some (r, g')) :
    CtI l D a cA cT TC yX6_detach (Cond.code yX6_detach cX6_detach 3 (some .int) :: lw_all) (rmm 5 113) [.ref (a 0), .int x0] g r g' := by
  refine CtI.of (by decide +kernel) (Nat.le_of_ble_eq_true rfl) ?_
  intro p e s m args below meth c Q ls hx hb hml hown hts hK hP hS hl hend
  have hl : lv_has ls 3 [(0, .ref (a 0)), (1, .int x0)] := hl
  unfold m_X6_detach at h
  refine lv_aload_n hx hb dX6_detach_0 rfl (lv_at hl 0 rfl) ?_
  refine x_getr hx hb hts inX6 hown hK hP tF_0 (C := RX6) (F := TX6) (N := 5) rfl 0 (by decide) q168 rfl (20 + 15 * 0) rfl dX6_detach_1 ?_
  refine x_getr hx hb hts inX5 hown hK hP (tT_20 hz0) (C := RX5) (F := TX5) (N := 5) rfl 1 (by decide) q103 rfl (22 + 15 * 0) rfl dX6_detach_4 ?_
  refine lv_iload_n hx hb dX6_detach_7 rfl (lv_at hl 1 rfl) ?_
  obtain ⟨r8, hcal, h⟩ := bnd_s h
  refine x_VI (As := [.int x0]) hx hb hml hown hts hK hP hS (ct_X4_has l D a cA cT hI g 0 x0 hz0 r8 hcal) (tT_22 hz0) (C := RX4) (F := TX4) (N := 5) rfl (g_V q335 q336 q337 q39 q338) yd_X4_has ⟨Nat.le_of_ble_eq_true rfl, Nat.le_of_ble_eq_true rfl⟩ [] rfl (Nat.le_of_ble_eq_true rfl) hl.1 ⟨Nat.le_refl _, Nat.le_refl _⟩ dX6_detach_8 (fun H locs hP hS => ?_)
  refine lv_if_ne (tgt := 18) hx hb dX6_detach_11 (by decide) (fun hc => ?_) (fun hc => ?_)
  · have h := ite_f hc h
    refine lv_aload_n hx hb dX6_detach_18 rfl (lv_at hl 0 rfl) ?_
    refine x_getr hx hb hts inX6 hown hK hP tF_0 (C := RX6) (F := TX6) (N := 5) rfl 0 (by decide) q168 rfl (20 + 15 * 0) rfl dX6_detach_19 ?_
    refine x_getr hx hb hts inX5 hown hK hP (tT_20 hz0) (C := RX5) (F := TX5) (N := 5) rfl 0 (by decide) q101 rfl (21 + 15 * 0) rfl dX6_detach_22 ?_
    refine lv_bipush (v := (61 : Int32)) hx hb dX6_detach_25 (by decide) ?_
    obtain ⟨r27, hcal, h⟩ := bnd_s h
    refine x_VI (As := [.int (61 : Int32)]) hx hb hml hown hts hK hP hS (ct_X3_amountAt l D a cA cT hI g 0 (61 : Int32) hz0 r27 hcal) (tT_21 hz0) (C := RX3) (F := TX3) (N := 4) rfl (g_V q232 q233 q234 q37 q235) yd_X3_amountAt ⟨Nat.le_of_ble_eq_true rfl, Nat.le_of_ble_eq_true rfl⟩ [] rfl (Nat.le_of_ble_eq_true rfl) hl.1 ⟨Nat.le_refl _, Nat.le_refl _⟩ dX6_detach_27 (fun H locs hP hS => ?_)
    refine lv_if_le (tgt := 37) hx hb dX6_detach_30 (by decide) (fun hc => ?_) (fun hc => ?_)
    · have h := ite_t hc h
      refine lv_aload_n hx hb dX6_detach_37 rfl (lv_at hl 0 rfl) ?_
      refine x_getr hx hb hts inX6 hown hK hP tF_0 (C := RX6) (F := TX6) (N := 5) rfl 0 (by decide) q168 rfl (20 + 15 * 0) rfl dX6_detach_38 ?_
      refine x_getr hx hb hts inX5 hown hK hP (tT_20 hz0) (C := RX5) (F := TX5) (N := 5) rfl 0 (by decide) q101 rfl (21 + 15 * 0) rfl dX6_detach_41 ?_
      refine lv_iload_n hx hb dX6_detach_44 rfl (lv_at hl 1 rfl) ?_
      obtain ⟨r45, hcal, h⟩ := bnd_s h
      refine x_VI (As := [.int x0]) hx hb hml hown hts hK hP hS (ct_X3_amountAt l D a cA cT hI g 0 x0 hz0 r45 hcal) (tT_21 hz0) (C := RX3) (F := TX3) (N := 4) rfl (g_V q232 q233 q234 q37 q235) yd_X3_amountAt ⟨Nat.le_of_ble_eq_true rfl, Nat.le_of_ble_eq_true rfl⟩ [] rfl (Nat.le_of_ble_eq_true rfl) hl.1 ⟨Nat.le_refl _, Nat.le_refl _⟩ dX6_detach_45 (fun H locs hP hS => ?_)
      refine lv_istore_n (lv' := [(2, .int r45), (0, .ref (a 0)), (1, .int x0)]) hx hb dX6_detach_48 rfl hl (by decide) rfl (fun ls hl => ?_)
      refine lv_iload_n hx hb dX6_detach_49 rfl (lv_at hl 0 rfl) ?_
      refine lv_bipush (v := (20 : Int32)) hx hb dX6_detach_50 (by decide) ?_
      refine lv_icmp_le (tgt := 59) hx hb dX6_detach_52 (by decide) (fun hc => ?_) (fun hc => ?_)
      · have h := ite_t hc h
        refine lv_aload_n hx hb dX6_detach_59 rfl (lv_at hl 1 rfl) ?_
        refine x_getr hx hb hts inX6 hown hK hP tF_0 (C := RX6) (F := TX6) (N := 5) rfl 1 (by decide) q169 rfl 1 rfl dX6_detach_60 ?_
        refine lv_aload_n hx hb dX6_detach_63 rfl (lv_at hl 1 rfl) ?_
        refine x_getr hx hb hts inX6 hown hK hP tF_0 (C := RX6) (F := TX6) (N := 5) rfl 0 (by decide) q168 rfl (20 + 15 * 0) rfl dX6_detach_64 ?_
        obtain ⟨g67, hcal, h⟩ := bnd_s h
        refine x_VV (As := [.ref (a (20 + 15 * 0))]) hx hb hml hown hts hK hP hS (ct_X1_record l D a cA cT hI g 0 hz0 g67 hcal) tF_1 (C := RX1) (F := TX1) (N := 4) rfl (g_V q412 q413 q414 q40 q415) yd_X1_record ⟨Nat.le_of_ble_eq_true rfl, Nat.le_of_ble_eq_true rfl⟩ [] rfl (Nat.le_of_ble_eq_true rfl) hl.1 ⟨Nat.le_refl _, Nat.le_refl _⟩ dX6_detach_67 (fun H locs hP hS => ?_)
        refine lv_aload_n hx hb dX6_detach_70 rfl (lv_at hl 1 rfl) ?_
        refine x_getr hx hb hts inX6 hown hK hP tF_0 (C := RX6) (F := TX6) (N := 5) rfl 0 (by decide) q168 rfl (20 + 15 * 0) rfl dX6_detach_71 ?_
        refine x_getr hx hb hts inX5 hown hK hP (tT_20 hz0) (C := RX5) (F := TX5) (N := 5) rfl 0 (by decide) q101 rfl (21 + 15 * 0) rfl dX6_detach_74 ?_
        refine lv_iload_n hx hb dX6_detach_77 rfl (lv_at hl 2 rfl) ?_
        refine lv_bipush (v := (61 : Int32)) hx hb dX6_detach_78 (by decide) ?_
        obtain ⟨g80, hcal, h⟩ := bnd_s h
        refine x_VV (As := [.int x0, .int (61 : Int32)]) hx hb hml hown hts hK hP hS (ct_X3_moveAll l D a cA cT hI g67 0 x0 (61 : Int32) hz0 g80 hcal) (tT_21 hz0) (C := RX3) (F := TX3) (N := 4) rfl (g_V q493 q494 q495 q37 q496) yd_X3_moveAll ⟨Nat.le_of_ble_eq_true rfl, Nat.le_of_ble_eq_true rfl⟩ [] rfl (Nat.le_of_ble_eq_true rfl) hl.1 ⟨Nat.le_refl _, Nat.le_refl _⟩ dX6_detach_80 (fun H locs hP hS => ?_)
        refine lv_aload_n hx hb dX6_detach_83 rfl (lv_at hl 1 rfl) ?_
        refine x_getr hx hb hts inX6 hown hK hP tF_0 (C := RX6) (F := TX6) (N := 5) rfl 0 (by decide) q168 rfl (20 + 15 * 0) rfl dX6_detach_84 ?_
        refine x_getr hx hb hts inX5 hown hK hP (tT_20 hz0) (C := RX5) (F := TX5) (N := 5) rfl 1 (by decide) q103 rfl (22 + 15 * 0) rfl dX6_detach_87 ?_
        refine lv_iload_n hx hb dX6_detach_90 rfl (lv_at hl 2 rfl) ?_
        obtain ⟨g91, hcal, h⟩ := bnd_s h
        refine x_VV (As := [.int x0]) hx hb hml hown hts hK hP hS (ct_X4_remove l D a cA cT hI g80 0 x0 hz0 g91 hcal) (tT_22 hz0) (C := RX4) (F := TX4) (N := 5) rfl (g_V q514 q507 q508 q39 q509) yd_X4_remove ⟨Nat.le_of_ble_eq_true rfl, Nat.le_of_ble_eq_true rfl⟩ [] rfl (Nat.le_of_ble_eq_true rfl) hl.1 ⟨Nat.le_refl _, Nat.le_refl _⟩ dX6_detach_91 (fun H locs hP hS => ?_)
        refine lv_iload_n hx hb dX6_detach_94 rfl (lv_at hl 0 rfl) ?_
        obtain ⟨rfl, rfl⟩ := Prod.mk.inj (Option.some.inj h)
        exact hend _ _ _ _ dX6_detach_95 rfl hP hS
      · have h := ite_f hc h
        refine lv_sipush (v := (-1003 : Int32)) hx hb dX6_detach_55 (by decide) ?_
        obtain ⟨rfl, rfl⟩ := Prod.mk.inj (Option.some.inj h)
        exact hend _ _ _ _ dX6_detach_58 rfl hP hS
    · have h := ite_f hc h
      refine lv_sipush (v := (-1004 : Int32)) hx hb dX6_detach_33 (by decide) ?_
      obtain ⟨rfl, rfl⟩ := Prod.mk.inj (Option.some.inj h)
      exact hend _ _ _ _ dX6_detach_36 rfl hP hS
  · have h := ite_t hc h
    refine lv_sipush (v := (-1001 : Int32)) hx hb dX6_detach_14 (by decide) ?_
    obtain ⟨rfl, rfl⟩ := Prod.mk.inj (Option.some.inj h)
    exact hend _ _ _ _ dX6_detach_17 rfl hP hS
set_option maxHeartbeats 4000000 in
set_option maxRecDepth 100000 in
theorem ct_X6_attach (l : Launch) (D : va_G) (a : Nat → Nat) (cA cT : ClassId) (hI : WI a TC) (g : MG) (x0 : Int32) (x1 : Int32)  (r : Int32) (g' : MG) (h : m_X6_attach g x0 x1 = some (r, g')) :
    CtI l D a cA cT TC yX6_attach (Cond.code yX6_attach cX6_attach 4 (some .int) :: lw_all) (rmm 6 134) [.ref (a 0), .int x0, .int x1] g r g' := by
  refine CtI.of (by decide +kernel) (Nat.le_of_ble_eq_true rfl) ?_
  intro p e s m args below meth c Q ls hx hb hml hown hts hK hP hS hl hend
  have hl : lv_has ls 4 [(0, .ref (a 0)), (1, .int x0), (2, .int x1)] := hl
  unfold m_X6_attach at h
  refine lv_iload_n hx hb dX6_attach_0 rfl (lv_at hl 1 rfl) ?_
  refine lv_iload_n hx hb dX6_attach_1 rfl (lv_at hl 2 rfl) ?_
  obtain ⟨r2, hcal, h⟩ := bnd_s h
  refine x_SI (As := [.int x0, .int x1]) hx hb hml hown hts hK hP hS (ct_X6_areBounds l D a cA cT hI g x0 x1 r2 hcal) (g_S q435 q436 q35 q437) yd_X6_areBounds ⟨Nat.le_of_ble_eq_true rfl, Nat.le_of_ble_eq_true rfl⟩ [] rfl (Nat.le_of_ble_eq_true rfl) hl.1 ⟨Nat.le_refl _, Nat.le_refl _⟩ dX6_attach_2 (fun H locs hP hS => ?_)
  refine lv_if_ne (tgt := 12) hx hb dX6_attach_5 (by decide) (fun hc => ?_) (fun hc => ?_)
  · have h := ite_f hc h
    refine lv_aload_n hx hb dX6_attach_12 rfl (lv_at hl 0 rfl) ?_
    refine x_getr hx hb hts inX6 hown hK hP tF_0 (C := RX6) (F := TX6) (N := 5) rfl 0 (by decide) q168 rfl (20 + 15 * 0) rfl dX6_attach_13 ?_
    refine x_getr hx hb hts inX5 hown hK hP (tT_20 hz0) (C := RX5) (F := TX5) (N := 5) rfl 1 (by decide) q103 rfl (22 + 15 * 0) rfl dX6_attach_16 ?_
    refine lv_iload_n hx hb dX6_attach_19 rfl (lv_at hl 1 rfl) ?_
    refine lv_iload_n hx hb dX6_attach_20 rfl (lv_at hl 2 rfl) ?_
    obtain ⟨r21, hcal, h⟩ := bnd_s h
    refine x_VI (As := [.int x0, .int x1]) hx hb hml hown hts hK hP hS (ct_X4_overlap l D a cA cT hI g 0 x0 x1 hz0 r21 hcal) (tT_22 hz0) (C := RX4) (F := TX4) (N := 5) rfl (g_V q439 q440 q441 q39 q442) yd_X4_overlap ⟨Nat.le_of_ble_eq_true rfl, Nat.le_of_ble_eq_true rfl⟩ [] rfl (Nat.le_of_ble_eq_true rfl) hl.1 ⟨Nat.le_refl _, Nat.le_refl _⟩ dX6_attach_21 (fun H locs hP hS => ?_)
    refine lv_if_ne (tgt := 56) hx hb dX6_attach_24 (by decide) (fun hc => ?_) (fun hc => ?_)
    · have h := ite_f hc h
      refine lv_sipush (v := (-1004 : Int32)) hx hb dX6_attach_56 (by decide) ?_
      obtain ⟨rfl, rfl⟩ := Prod.mk.inj (Option.some.inj h)
      exact hend _ _ _ _ dX6_attach_59 rfl hP hS
    · have h := ite_t hc h
      refine lv_aload_n hx hb dX6_attach_27 rfl (lv_at hl 0 rfl) ?_
      refine x_getr hx hb hts inX6 hown hK hP tF_0 (C := RX6) (F := TX6) (N := 5) rfl 0 (by decide) q168 rfl (20 + 15 * 0) rfl dX6_attach_28 ?_
      refine lv_iload_n hx hb dX6_attach_31 rfl (lv_at hl 1 rfl) ?_
      refine lv_iload_n hx hb dX6_attach_32 rfl (lv_at hl 2 rfl) ?_
      obtain ⟨r33, hcal, h⟩ := bnd_s h
      refine x_VI (As := [.int x0, .int x1]) hx hb hml hown hts hK hP hS (ct_X5_unfitRows l D a cA cT hI g 0 x0 x1 hz0 r33 hcal) (tT_20 hz0) (C := RX5) (F := TX5) (N := 5) rfl (g_V q519 q520 q521 q36 q522) yd_X5_unfitRows ⟨Nat.le_of_ble_eq_true rfl, Nat.le_of_ble_eq_true rfl⟩ [] rfl (Nat.le_of_ble_eq_true rfl) hl.1 ⟨Nat.le_refl _, Nat.le_refl _⟩ dX6_attach_33 (fun H locs hP hS => ?_)
      refine lv_if_gt (tgt := 56) hx hb dX6_attach_36 (by decide) (fun hc => ?_) (fun hc => ?_)
      · have h := ite_t hc h
        refine lv_sipush (v := (-1004 : Int32)) hx hb dX6_attach_56 (by decide) ?_
        obtain ⟨rfl, rfl⟩ := Prod.mk.inj (Option.some.inj h)
        exact hend _ _ _ _ dX6_attach_59 rfl hP hS
      · have h := ite_f hc h
        refine lv_aload_n hx hb dX6_attach_39 rfl (lv_at hl 0 rfl) ?_
        refine x_getr hx hb hts inX6 hown hK hP tF_0 (C := RX6) (F := TX6) (N := 5) rfl 0 (by decide) q168 rfl (20 + 15 * 0) rfl dX6_attach_40 ?_
        refine x_getr hx hb hts inX5 hown hK hP (tT_20 hz0) (C := RX5) (F := TX5) (N := 5) rfl 0 (by decide) q101 rfl (21 + 15 * 0) rfl dX6_attach_43 ?_
        refine lv_bipush (v := (60 : Int32)) hx hb dX6_attach_46 (by decide) ?_
        refine lv_iload_n hx hb dX6_attach_48 rfl (lv_at hl 1 rfl) ?_
        refine lv_iload_n hx hb dX6_attach_49 rfl (lv_at hl 2 rfl) ?_
        obtain ⟨r50, hcal, h⟩ := bnd_s h
        refine x_VI (As := [.int (60 : Int32), .int x0, .int x1]) hx hb hml hown hts hK hP hS (ct_X3_amountWithKeys l D a cA cT hI g 0 (60 : Int32) x0 x1 hz0 r50 hcal) (tT_21 hz0) (C := RX3) (F := TX3) (N := 4) rfl (g_V q438 q237 q238 q37 q239) yd_X3_amountWithKeys ⟨Nat.le_of_ble_eq_true rfl, Nat.le_of_ble_eq_true rfl⟩ [] rfl (Nat.le_of_ble_eq_true rfl) hl.1 ⟨Nat.le_refl _, Nat.le_refl _⟩ dX6_attach_50 (fun H locs hP hS => ?_)
        refine lv_if_le (tgt := 60) hx hb dX6_attach_53 (by decide) (fun hc => ?_) (fun hc => ?_)
        · have h := ite_t hc h
          refine lv_aload_n hx hb dX6_attach_60 rfl (lv_at hl 0 rfl) ?_
          refine x_getr hx hb hts inX6 hown hK hP tF_0 (C := RX6) (F := TX6) (N := 5) rfl 0 (by decide) q168 rfl (20 + 15 * 0) rfl dX6_attach_61 ?_
          refine x_getr hx hb hts inX5 hown hK hP (tT_20 hz0) (C := RX5) (F := TX5) (N := 5) rfl 1 (by decide) q103 rfl (22 + 15 * 0) rfl dX6_attach_64 ?_
          obtain ⟨r67, hcal, h⟩ := bnd_s h
          refine x_VI (As := []) hx hb hml hown hts hK hP hS (ct_X4_isFull l D a cA cT hI g 0 hz0 r67 hcal) (tT_22 hz0) (C := RX4) (F := TX4) (N := 5) rfl (g_V q443 q444 q445 q39 q446) yd_X4_isFull ⟨Nat.le_of_ble_eq_true rfl, Nat.le_of_ble_eq_true rfl⟩ [] rfl (Nat.le_of_ble_eq_true rfl) hl.1 ⟨Nat.le_refl _, Nat.le_refl _⟩ dX6_attach_67 (fun H locs hP hS => ?_)
          refine lv_if_eq (tgt := 77) hx hb dX6_attach_70 (by decide) (fun hc => ?_) (fun hc => ?_)
          · have h := ite_t hc h
            refine lv_aload_n hx hb dX6_attach_77 rfl (lv_at hl 0 rfl) ?_
            refine x_getr hx hb hts inX6 hown hK hP tF_0 (C := RX6) (F := TX6) (N := 5) rfl 1 (by decide) q169 rfl 1 rfl dX6_attach_78 ?_
            refine lv_aload_n hx hb dX6_attach_81 rfl (lv_at hl 0 rfl) ?_
            refine x_getr hx hb hts inX6 hown hK hP tF_0 (C := RX6) (F := TX6) (N := 5) rfl 0 (by decide) q168 rfl (20 + 15 * 0) rfl dX6_attach_82 ?_
            obtain ⟨g85, hcal, h⟩ := bnd_s h
            refine x_VV (As := [.ref (a (20 + 15 * 0))]) hx hb hml hown hts hK hP hS (ct_X1_record l D a cA cT hI g 0 hz0 g85 hcal) tF_1 (C := RX1) (F := TX1) (N := 4) rfl (g_V q412 q413 q414 q40 q415) yd_X1_record ⟨Nat.le_of_ble_eq_true rfl, Nat.le_of_ble_eq_true rfl⟩ [] rfl (Nat.le_of_ble_eq_true rfl) hl.1 ⟨Nat.le_refl _, Nat.le_refl _⟩ dX6_attach_85 (fun H locs hP hS => ?_)
            refine lv_aload_n hx hb dX6_attach_88 rfl (lv_at hl 0 rfl) ?_
            refine x_getr hx hb hts inX6 hown hK hP tF_0 (C := RX6) (F := TX6) (N := 5) rfl 0 (by decide) q168 rfl (20 + 15 * 0) rfl dX6_attach_89 ?_
            refine x_getr hx hb hts inX5 hown hK hP (tT_20 hz0) (C := RX5) (F := TX5) (N := 5) rfl 1 (by decide) q103 rfl (22 + 15 * 0) rfl dX6_attach_92 ?_
            refine lv_iload_n hx hb dX6_attach_95 rfl (lv_at hl 1 rfl) ?_
            refine lv_iload_n hx hb dX6_attach_96 rfl (lv_at hl 2 rfl) ?_
            obtain ⟨r97, g97, hcal, h⟩ := bnd2_s h
            refine x_VI (As := [.int x0, .int x1]) hx hb hml hown hts hK hP hS (ct_X4_append l D a cA cT hI g85 0 x0 x1 hz0 r97 g97 hcal) (tT_22 hz0) (C := RX4) (F := TX4) (N := 5) rfl (g_V q447 q448 q449 q39 q450) yd_X4_append ⟨Nat.le_of_ble_eq_true rfl, Nat.le_of_ble_eq_true rfl⟩ [] rfl (Nat.le_of_ble_eq_true rfl) hl.1 ⟨Nat.le_refl _, Nat.le_refl _⟩ dX6_attach_97 (fun H locs hP hS => ?_)
            refine lv_istore_n (lv' := [(3, .int r97), (0, .ref (a 0)), (1, .int x0), (2, .int x1)]) hx hb dX6_attach_100 rfl hl (by decide) rfl (fun ls hl => ?_)
            refine lv_aload_n hx hb dX6_attach_101 rfl (lv_at hl 1 rfl) ?_
            refine x_getr hx hb hts inX6 hown hK hP tF_0 (C := RX6) (F := TX6) (N := 5) rfl 0 (by decide) q168 rfl (20 + 15 * 0) rfl dX6_attach_102 ?_
            refine x_getr hx hb hts inX5 hown hK hP (tT_20 hz0) (C := RX5) (F := TX5) (N := 5) rfl 0 (by decide) q101 rfl (21 + 15 * 0) rfl dX6_attach_105 ?_
            refine lv_bipush (v := (61 : Int32)) hx hb dX6_attach_108 (by decide) ?_
            refine lv_iload_n hx hb dX6_attach_110 rfl (lv_at hl 0 rfl) ?_
            obtain ⟨g111, hcal, h⟩ := bnd_s h
            refine x_VV (As := [.int (61 : Int32), .int r97]) hx hb hml hown hts hK hP hS (ct_X3_moveAll l D a cA cT hI g97 0 (61 : Int32) r97 hz0 g111 hcal) (tT_21 hz0) (C := RX3) (F := TX3) (N := 4) rfl (g_V q493 q494 q495 q37 q496) yd_X3_moveAll ⟨Nat.le_of_ble_eq_true rfl, Nat.le_of_ble_eq_true rfl⟩ [] rfl (Nat.le_of_ble_eq_true rfl) hl.1 ⟨Nat.le_refl _, Nat.le_refl _⟩ dX6_attach_111 (fun H locs hP hS => ?_)
            refine lv_iload_n hx hb dX6_attach_114 rfl (lv_at hl 0 rfl) ?_
            obtain ⟨rfl, rfl⟩ := Prod.mk.inj (Option.some.inj h)
            exact hend _ _ _ _ dX6_attach_115 rfl hP hS
          · have h := ite_f hc h
            refine lv_sipush (v := (-1003 : Int32)) hx hb dX6_attach_73 (by decide) ?_
            obtain ⟨rfl, rfl⟩ := Prod.mk.inj (Option.some.inj h)
            exact hend _ _ _ _ dX6_attach_76 rfl hP hS
        · have h := ite_f hc h
          refine lv_sipush (v := (-1004 : Int32)) hx hb dX6_attach_56 (by decide) ?_
          obtain ⟨rfl, rfl⟩ := Prod.mk.inj (Option.some.inj h)
          exact hend _ _ _ _ dX6_attach_59 rfl hP hS
  · have h := ite_t hc h
    refine lv_sipush (v := (-1002 : Int32)) hx hb dX6_attach_8 (by decide) ?_
    obtain ⟨rfl, rfl⟩ := Prod.mk.inj (Option.some.inj h)
    exact hend _ _ _ _ dX6_attach_11 rfl hP hS
set_option maxHeartbeats 4000000 in
set_option maxRecDepth 100000 in
theorem ct_X6_swap (l : Launch) (D : va_G) (a : Nat → Nat) (cA cT : ClassId) (hI : WI a TC) (g : MG) (x0 : Int32) (x1 : Int32)  (r : Int32) (g' : MG) (h : m_X6_swap g x0 x1 = some (r, g')) :
    CtI l D a cA cT TC yX6_swap (Cond.code yX6_swap cX6_swap 4 (some .int) :: lw_all) (rmm 6 134) [.ref (a 0), .int x0, .int x1] g r g' := by
  refine CtI.of (by decide +kernel) (Nat.le_of_ble_eq_true rfl) ?_
  intro p e s m args below meth c Q ls hx hb hml hown hts hK hP hS hl hend
  have hl : lv_has ls 4 [(0, .ref (a 0)), (1, .int x0), (2, .int x1)] := hl
  unfold m_X6_swap at h
  refine lv_aload_n hx hb dX6_swap_0 rfl (lv_at hl 0 rfl) ?_
  refine x_getr hx hb hts inX6 hown hK hP tF_0 (C := RX6) (F := TX6) (N := 5) rfl 0 (by decide) q168 rfl (20 + 15 * 0) rfl dX6_swap_1 ?_
  refine x_getr hx hb hts inX5 hown hK hP (tT_20 hz0) (C := RX5) (F := TX5) (N := 5) rfl 1 (by decide) q103 rfl (22 + 15 * 0) rfl dX6_swap_4 ?_
  refine lv_iload_n hx hb dX6_swap_7 rfl (lv_at hl 1 rfl) ?_
  obtain ⟨r8, hcal, h⟩ := bnd_s h
  refine x_VI (As := [.int x0]) hx hb hml hown hts hK hP hS (ct_X4_positionOf l D a cA cT hI g 0 x0 hz0 r8 hcal) (tT_22 hz0) (C := RX4) (F := TX4) (N := 5) rfl (g_V q343 q340 q341 q39 q342) yd_X4_positionOf ⟨Nat.le_of_ble_eq_true rfl, Nat.le_of_ble_eq_true rfl⟩ [] rfl (Nat.le_of_ble_eq_true rfl) hl.1 ⟨Nat.le_refl _, Nat.le_refl _⟩ dX6_swap_8 (fun H locs hP hS => ?_)
  refine lv_istore_n (lv' := [(3, .int r8), (0, .ref (a 0)), (1, .int x0), (2, .int x1)]) hx hb dX6_swap_11 rfl hl (by decide) rfl (fun ls hl => ?_)
  refine lv_iload_n hx hb dX6_swap_12 rfl (lv_at hl 0 rfl) ?_
  refine lv_sipush (v := (-1005 : Int32)) hx hb dX6_swap_13 (by decide) ?_
  refine lv_icmp_ne (tgt := 23) hx hb dX6_swap_16 (by decide) (fun hc => ?_) (fun hc => ?_)
  · have h := ite_f hc h
    refine lv_iload_n hx hb dX6_swap_23 rfl (lv_at hl 3 rfl) ?_
    refine lv_if_eq (tgt := 63) hx hb dX6_swap_24 (by decide) (fun hc => ?_) (fun hc => ?_)
    · have h := ite_t hc h
      refine lv_aload_n hx hb dX6_swap_63 rfl (lv_at hl 1 rfl) ?_
      refine x_getr hx hb hts inX6 hown hK hP tF_0 (C := RX6) (F := TX6) (N := 5) rfl 0 (by decide) q168 rfl (20 + 15 * 0) rfl dX6_swap_64 ?_
      refine x_getr hx hb hts inX5 hown hK hP (tT_20 hz0) (C := RX5) (F := TX5) (N := 5) rfl 0 (by decide) q101 rfl (21 + 15 * 0) rfl dX6_swap_67 ?_
      refine lv_iload_n hx hb dX6_swap_70 rfl (lv_at hl 2 rfl) ?_
      obtain ⟨r71, hcal, h⟩ := bnd_s h
      refine x_VI (As := [.int x0]) hx hb hml hown hts hK hP hS (ct_X3_amountAt l D a cA cT hI g 0 x0 hz0 r71 hcal) (tT_21 hz0) (C := RX3) (F := TX3) (N := 4) rfl (g_V q232 q233 q234 q37 q235) yd_X3_amountAt ⟨Nat.le_of_ble_eq_true rfl, Nat.le_of_ble_eq_true rfl⟩ [] rfl (Nat.le_of_ble_eq_true rfl) hl.1 ⟨Nat.le_refl _, Nat.le_refl _⟩ dX6_swap_71 (fun H locs hP hS => ?_)
      refine lv_bipush (v := (20 : Int32)) hx hb dX6_swap_74 (by decide) ?_
      refine lv_icmp_le (tgt := 83) hx hb dX6_swap_76 (by decide) (fun hc => ?_) (fun hc => ?_)
      · have h := ite_t hc h
        refine lv_aload_n hx hb dX6_swap_83 rfl (lv_at hl 1 rfl) ?_
        refine x_getr hx hb hts inX6 hown hK hP tF_0 (C := RX6) (F := TX6) (N := 5) rfl 1 (by decide) q169 rfl 1 rfl dX6_swap_84 ?_
        refine lv_aload_n hx hb dX6_swap_87 rfl (lv_at hl 1 rfl) ?_
        refine x_getr hx hb hts inX6 hown hK hP tF_0 (C := RX6) (F := TX6) (N := 5) rfl 0 (by decide) q168 rfl (20 + 15 * 0) rfl dX6_swap_88 ?_
        obtain ⟨g91, hcal, h⟩ := bnd_s h
        refine x_VV (As := [.ref (a (20 + 15 * 0))]) hx hb hml hown hts hK hP hS (ct_X1_record l D a cA cT hI g 0 hz0 g91 hcal) tF_1 (C := RX1) (F := TX1) (N := 4) rfl (g_V q412 q413 q414 q40 q415) yd_X1_record ⟨Nat.le_of_ble_eq_true rfl, Nat.le_of_ble_eq_true rfl⟩ [] rfl (Nat.le_of_ble_eq_true rfl) hl.1 ⟨Nat.le_refl _, Nat.le_refl _⟩ dX6_swap_91 (fun H locs hP hS => ?_)
        refine lv_aload_n hx hb dX6_swap_94 rfl (lv_at hl 1 rfl) ?_
        refine x_getr hx hb hts inX6 hown hK hP tF_0 (C := RX6) (F := TX6) (N := 5) rfl 0 (by decide) q168 rfl (20 + 15 * 0) rfl dX6_swap_95 ?_
        refine x_getr hx hb hts inX5 hown hK hP (tT_20 hz0) (C := RX5) (F := TX5) (N := 5) rfl 0 (by decide) q101 rfl (21 + 15 * 0) rfl dX6_swap_98 ?_
        refine lv_iload_n hx hb dX6_swap_101 rfl (lv_at hl 2 rfl) ?_
        refine lv_bipush (v := (61 : Int32)) hx hb dX6_swap_102 (by decide) ?_
        obtain ⟨g104, hcal, h⟩ := bnd_s h
        refine x_VV (As := [.int x0, .int (61 : Int32)]) hx hb hml hown hts hK hP hS (ct_X3_exchange l D a cA cT hI g91 0 x0 (61 : Int32) hz0 g104 hcal) (tT_21 hz0) (C := RX3) (F := TX3) (N := 4) rfl (g_V q529 q530 q531 q37 q532) yd_X3_exchange ⟨Nat.le_of_ble_eq_true rfl, Nat.le_of_ble_eq_true rfl⟩ [] rfl (Nat.le_of_ble_eq_true rfl) hl.1 ⟨Nat.le_refl _, Nat.le_refl _⟩ dX6_swap_104 (fun H locs hP hS => ?_)
        refine lv_aload_n hx hb dX6_swap_107 rfl (lv_at hl 1 rfl) ?_
        refine x_getr hx hb hts inX6 hown hK hP tF_0 (C := RX6) (F := TX6) (N := 5) rfl 0 (by decide) q168 rfl (20 + 15 * 0) rfl dX6_swap_108 ?_
        refine x_getr hx hb hts inX5 hown hK hP (tT_20 hz0) (C := RX5) (F := TX5) (N := 5) rfl 0 (by decide) q101 rfl (21 + 15 * 0) rfl dX6_swap_111 ?_
        refine lv_iload_n hx hb dX6_swap_114 rfl (lv_at hl 2 rfl) ?_
        obtain ⟨r115, hcal, h⟩ := bnd_s h
        refine x_VI (As := [.int x0]) hx hb hml hown hts hK hP hS (ct_X3_amountAt l D a cA cT hI g104 0 x0 hz0 r115 hcal) (tT_21 hz0) (C := RX3) (F := TX3) (N := 4) rfl (g_V q232 q233 q234 q37 q235) yd_X3_amountAt ⟨Nat.le_of_ble_eq_true rfl, Nat.le_of_ble_eq_true rfl⟩ [] rfl (Nat.le_of_ble_eq_true rfl) hl.1 ⟨Nat.le_refl _, Nat.le_refl _⟩ dX6_swap_115 (fun H locs hP hS => ?_)
        obtain ⟨rfl, rfl⟩ := Prod.mk.inj (Option.some.inj h)
        exact hend _ _ _ _ dX6_swap_118 rfl hP hS
      · have h := ite_f hc h
        refine lv_sipush (v := (-1003 : Int32)) hx hb dX6_swap_79 (by decide) ?_
        obtain ⟨rfl, rfl⟩ := Prod.mk.inj (Option.some.inj h)
        exact hend _ _ _ _ dX6_swap_82 rfl hP hS
    · have h := ite_f hc h
      refine lv_aload_n hx hb dX6_swap_27 rfl (lv_at hl 1 rfl) ?_
      refine x_getr hx hb hts inX6 hown hK hP tF_0 (C := RX6) (F := TX6) (N := 5) rfl 0 (by decide) q168 rfl (20 + 15 * 0) rfl dX6_swap_28 ?_
      refine lv_aload_n hx hb dX6_swap_31 rfl (lv_at hl 1 rfl) ?_
      refine x_getr hx hb hts inX6 hown hK hP tF_0 (C := RX6) (F := TX6) (N := 5) rfl 0 (by decide) q168 rfl (20 + 15 * 0) rfl dX6_swap_32 ?_
      refine x_getr hx hb hts inX5 hown hK hP (tT_20 hz0) (C := RX5) (F := TX5) (N := 5) rfl 1 (by decide) q103 rfl (22 + 15 * 0) rfl dX6_swap_35 ?_
      refine lv_iload_n hx hb dX6_swap_38 rfl (lv_at hl 0 rfl) ?_
      obtain ⟨r39, hcal, h⟩ := bnd_s h
      refine x_VI (As := [.int r8]) hx hb hml hown hts hK hP hS (ct_X4_lowAt l D a cA cT hI g 0 r8 hz0 r39 hcal) (tT_22 hz0) (C := RX4) (F := TX4) (N := 5) rfl (g_V q344 q266 q267 q39 q268) yd_X4_lowAt ⟨Nat.le_of_ble_eq_true rfl, Nat.le_of_ble_eq_true rfl⟩ [.ref (a (20 + 15 * 0))] rfl (Nat.le_of_ble_eq_true rfl) hl.1 ⟨Nat.le_refl _, Nat.le_refl _⟩ dX6_swap_39 (fun H locs hP hS => ?_)
      refine lv_aload_n hx hb dX6_swap_42 rfl (lv_at hl 1 rfl) ?_
      refine x_getr hx hb hts inX6 hown hK hP tF_0 (C := RX6) (F := TX6) (N := 5) rfl 0 (by decide) q168 rfl (20 + 15 * 0) rfl dX6_swap_43 ?_
      refine x_getr hx hb hts inX5 hown hK hP (tT_20 hz0) (C := RX5) (F := TX5) (N := 5) rfl 1 (by decide) q103 rfl (22 + 15 * 0) rfl dX6_swap_46 ?_
      refine lv_iload_n hx hb dX6_swap_49 rfl (lv_at hl 0 rfl) ?_
      obtain ⟨r50, hcal, h⟩ := bnd_s h
      refine x_VI (As := [.int r8]) hx hb hml hown hts hK hP hS (ct_X4_highAt l D a cA cT hI g 0 r8 hz0 r50 hcal) (tT_22 hz0) (C := RX4) (F := TX4) (N := 5) rfl (g_V q345 q271 q272 q39 q273) yd_X4_highAt ⟨Nat.le_of_ble_eq_true rfl, Nat.le_of_ble_eq_true rfl⟩ [.int r39, .ref (a (20 + 15 * 0))] rfl (Nat.le_of_ble_eq_true rfl) hl.1 ⟨Nat.le_refl _, Nat.le_refl _⟩ dX6_swap_50 (fun H locs hP hS => ?_)
      obtain ⟨r53, hcal, h⟩ := bnd_s h
      refine x_VI (As := [.int r39, .int r50]) hx hb hml hown hts hK hP hS (ct_X5_unfitRows l D a cA cT hI g 0 r39 r50 hz0 r53 hcal) (tT_20 hz0) (C := RX5) (F := TX5) (N := 5) rfl (g_V q519 q520 q521 q36 q522) yd_X5_unfitRows ⟨Nat.le_of_ble_eq_true rfl, Nat.le_of_ble_eq_true rfl⟩ [] rfl (Nat.le_of_ble_eq_true rfl) hl.1 ⟨Nat.le_refl _, Nat.le_refl _⟩ dX6_swap_53 (fun H locs hP hS => ?_)
      refine lv_if_le (tgt := 63) hx hb dX6_swap_56 (by decide) (fun hc => ?_) (fun hc => ?_)
      · have h := ite_t hc h
        refine lv_aload_n hx hb dX6_swap_63 rfl (lv_at hl 1 rfl) ?_
        refine x_getr hx hb hts inX6 hown hK hP tF_0 (C := RX6) (F := TX6) (N := 5) rfl 0 (by decide) q168 rfl (20 + 15 * 0) rfl dX6_swap_64 ?_
        refine x_getr hx hb hts inX5 hown hK hP (tT_20 hz0) (C := RX5) (F := TX5) (N := 5) rfl 0 (by decide) q101 rfl (21 + 15 * 0) rfl dX6_swap_67 ?_
        refine lv_iload_n hx hb dX6_swap_70 rfl (lv_at hl 2 rfl) ?_
        obtain ⟨r71, hcal, h⟩ := bnd_s h
        refine x_VI (As := [.int x0]) hx hb hml hown hts hK hP hS (ct_X3_amountAt l D a cA cT hI g 0 x0 hz0 r71 hcal) (tT_21 hz0) (C := RX3) (F := TX3) (N := 4) rfl (g_V q232 q233 q234 q37 q235) yd_X3_amountAt ⟨Nat.le_of_ble_eq_true rfl, Nat.le_of_ble_eq_true rfl⟩ [] rfl (Nat.le_of_ble_eq_true rfl) hl.1 ⟨Nat.le_refl _, Nat.le_refl _⟩ dX6_swap_71 (fun H locs hP hS => ?_)
        refine lv_bipush (v := (20 : Int32)) hx hb dX6_swap_74 (by decide) ?_
        refine lv_icmp_le (tgt := 83) hx hb dX6_swap_76 (by decide) (fun hc => ?_) (fun hc => ?_)
        · have h := ite_t hc h
          refine lv_aload_n hx hb dX6_swap_83 rfl (lv_at hl 1 rfl) ?_
          refine x_getr hx hb hts inX6 hown hK hP tF_0 (C := RX6) (F := TX6) (N := 5) rfl 1 (by decide) q169 rfl 1 rfl dX6_swap_84 ?_
          refine lv_aload_n hx hb dX6_swap_87 rfl (lv_at hl 1 rfl) ?_
          refine x_getr hx hb hts inX6 hown hK hP tF_0 (C := RX6) (F := TX6) (N := 5) rfl 0 (by decide) q168 rfl (20 + 15 * 0) rfl dX6_swap_88 ?_
          obtain ⟨g91, hcal, h⟩ := bnd_s h
          refine x_VV (As := [.ref (a (20 + 15 * 0))]) hx hb hml hown hts hK hP hS (ct_X1_record l D a cA cT hI g 0 hz0 g91 hcal) tF_1 (C := RX1) (F := TX1) (N := 4) rfl (g_V q412 q413 q414 q40 q415) yd_X1_record ⟨Nat.le_of_ble_eq_true rfl, Nat.le_of_ble_eq_true rfl⟩ [] rfl (Nat.le_of_ble_eq_true rfl) hl.1 ⟨Nat.le_refl _, Nat.le_refl _⟩ dX6_swap_91 (fun H locs hP hS => ?_)
          refine lv_aload_n hx hb dX6_swap_94 rfl (lv_at hl 1 rfl) ?_
          refine x_getr hx hb hts inX6 hown hK hP tF_0 (C := RX6) (F := TX6) (N := 5) rfl 0 (by decide) q168 rfl (20 + 15 * 0) rfl dX6_swap_95 ?_
          refine x_getr hx hb hts inX5 hown hK hP (tT_20 hz0) (C := RX5) (F := TX5) (N := 5) rfl 0 (by decide) q101 rfl (21 + 15 * 0) rfl dX6_swap_98 ?_
          refine lv_iload_n hx hb dX6_swap_101 rfl (lv_at hl 2 rfl) ?_
          refine lv_bipush (v := (61 : Int32)) hx hb dX6_swap_102 (by decide) ?_
          obtain ⟨g104, hcal, h⟩ := bnd_s h
          refine x_VV (As := [.int x0, .int (61 : Int32)]) hx hb hml hown hts hK hP hS (ct_X3_exchange l D a cA cT hI g91 0 x0 (61 : Int32) hz0 g104 hcal) (tT_21 hz0) (C := RX3) (F := TX3) (N := 4) rfl (g_V q529 q530 q531 q37 q532) yd_X3_exchange ⟨Nat.le_of_ble_eq_true rfl, Nat.le_of_ble_eq_true rfl⟩ [] rfl (Nat.le_of_ble_eq_true rfl) hl.1 ⟨Nat.le_refl _, Nat.le_refl _⟩ dX6_swap_104 (fun H locs hP hS => ?_)
          refine lv_aload_n hx hb dX6_swap_107 rfl (lv_at hl 1 rfl) ?_
          refine x_getr hx hb hts inX6 hown hK hP tF_0 (C := RX6) (F := TX6) (N := 5) rfl 0 (by decide) q168 rfl (20 + 15 * 0) rfl dX6_swap_108 ?_
          refine x_getr hx hb hts inX5 hown hK hP (tT_20 hz0) (C := RX5) (F := TX5) (N := 5) rfl 0 (by decide) q101 rfl (21 + 15 * 0) rfl dX6_swap_111 ?_
          refine lv_iload_n hx hb dX6_swap_114 rfl (lv_at hl 2 rfl) ?_
          obtain ⟨r115, hcal, h⟩ := bnd_s h
          refine x_VI (As := [.int x0]) hx hb hml hown hts hK hP hS (ct_X3_amountAt l D a cA cT hI g104 0 x0 hz0 r115 hcal) (tT_21 hz0) (C := RX3) (F := TX3) (N := 4) rfl (g_V q232 q233 q234 q37 q235) yd_X3_amountAt ⟨Nat.le_of_ble_eq_true rfl, Nat.le_of_ble_eq_true rfl⟩ [] rfl (Nat.le_of_ble_eq_true rfl) hl.1 ⟨Nat.le_refl _, Nat.le_refl _⟩ dX6_swap_115 (fun H locs hP hS => ?_)
          obtain ⟨rfl, rfl⟩ := Prod.mk.inj (Option.some.inj h)
          exact hend _ _ _ _ dX6_swap_118 rfl hP hS
        · have h := ite_f hc h
          refine lv_sipush (v := (-1003 : Int32)) hx hb dX6_swap_79 (by decide) ?_
          obtain ⟨rfl, rfl⟩ := Prod.mk.inj (Option.some.inj h)
          exact hend _ _ _ _ dX6_swap_82 rfl hP hS
      · have h := ite_f hc h
        refine lv_sipush (v := (-1004 : Int32)) hx hb dX6_swap_59 (by decide) ?_
        obtain ⟨rfl, rfl⟩ := Prod.mk.inj (Option.some.inj h)
        exact hend _ _ _ _ dX6_swap_62 rfl hP hS
  · have h := ite_t hc h
    refine lv_sipush (v := (-1001 : Int32)) hx hb dX6_swap_19 (by decide) ?_
    obtain ⟨rfl, rfl⟩ := Prod.mk.inj (Option.some.inj h)
    exact hend _ _ _ _ dX6_swap_22 rfl hP hS
set_option maxHeartbeats 4000000 in
set_option maxRecDepth 100000 in
theorem ct_X6_split (l : Launch) (D : va_G) (a : Nat → Nat) (cA cT : ClassId) (hI : WI a TC) (g : MG) (x0 : Int32) (x1 : Int32)  (r : Int32) (g' : MG) (h : m_X6_split g x0 x1 = some (r, g')) :
    CtI l D a cA cT TC yX6_split (Cond.code yX6_split cX6_split 7 (some .int) :: lw_all) (rmm 5 111) [.ref (a 0), .int x0, .int x1] g r g' := by
  refine CtI.of (by decide +kernel) (Nat.le_of_ble_eq_true rfl) ?_
  intro p e s m args below meth c Q ls hx hb hml hown hts hK hP hS hl hend
  have hl : lv_has ls 7 [(0, .ref (a 0)), (1, .int x0), (2, .int x1)] := hl
  unfold m_X6_split at h
  refine lv_aload_n hx hb dX6_split_0 rfl (lv_at hl 0 rfl) ?_
  refine x_getr hx hb hts inX6 hown hK hP tF_0 (C := RX6) (F := TX6) (N := 5) rfl 0 (by decide) q168 rfl (20 + 15 * 0) rfl dX6_split_1 ?_
  refine x_getr hx hb hts inX5 hown hK hP (tT_20 hz0) (C := RX5) (F := TX5) (N := 5) rfl 1 (by decide) q103 rfl (22 + 15 * 0) rfl dX6_split_4 ?_
  refine lv_iload_n hx hb dX6_split_7 rfl (lv_at hl 1 rfl) ?_
  obtain ⟨r8, hcal, h⟩ := bnd_s h
  refine x_VI (As := [.int x0]) hx hb hml hown hts hK hP hS (ct_X4_positionOf l D a cA cT hI g 0 x0 hz0 r8 hcal) (tT_22 hz0) (C := RX4) (F := TX4) (N := 5) rfl (g_V q343 q340 q341 q39 q342) yd_X4_positionOf ⟨Nat.le_of_ble_eq_true rfl, Nat.le_of_ble_eq_true rfl⟩ [] rfl (Nat.le_of_ble_eq_true rfl) hl.1 ⟨Nat.le_refl _, Nat.le_refl _⟩ dX6_split_8 (fun H locs hP hS => ?_)
  refine lv_istore_n (lv' := [(3, .int r8), (0, .ref (a 0)), (1, .int x0), (2, .int x1)]) hx hb dX6_split_11 rfl hl (by decide) rfl (fun ls hl => ?_)
  refine lv_iload_n hx hb dX6_split_12 rfl (lv_at hl 0 rfl) ?_
  refine lv_sipush (v := (-1005 : Int32)) hx hb dX6_split_13 (by decide) ?_
  refine lv_icmp_ne (tgt := 23) hx hb dX6_split_16 (by decide) (fun hc => ?_) (fun hc => ?_)
  · have h := ite_f hc h
    refine lv_aload_n hx hb dX6_split_23 rfl (lv_at hl 1 rfl) ?_
    refine x_getr hx hb hts inX6 hown hK hP tF_0 (C := RX6) (F := TX6) (N := 5) rfl 0 (by decide) q168 rfl (20 + 15 * 0) rfl dX6_split_24 ?_
    refine x_getr hx hb hts inX5 hown hK hP (tT_20 hz0) (C := RX5) (F := TX5) (N := 5) rfl 1 (by decide) q103 rfl (22 + 15 * 0) rfl dX6_split_27 ?_
    refine lv_iload_n hx hb dX6_split_30 rfl (lv_at hl 0 rfl) ?_
    obtain ⟨r31, hcal, h⟩ := bnd_s h
    refine x_VI (As := [.int r8]) hx hb hml hown hts hK hP hS (ct_X4_lowAt l D a cA cT hI g 0 r8 hz0 r31 hcal) (tT_22 hz0) (C := RX4) (F := TX4) (N := 5) rfl (g_V q344 q266 q267 q39 q268) yd_X4_lowAt ⟨Nat.le_of_ble_eq_true rfl, Nat.le_of_ble_eq_true rfl⟩ [] rfl (Nat.le_of_ble_eq_true rfl) hl.1 ⟨Nat.le_refl _, Nat.le_refl _⟩ dX6_split_31 (fun H locs hP hS => ?_)
    refine lv_istore (lv' := [(4, .int r31), (3, .int r8), (0, .ref (a 0)), (1, .int x0), (2, .int x1)]) hx hb dX6_split_34 hl (by decide) rfl (fun ls hl => ?_)
    refine lv_aload_n hx hb dX6_split_36 rfl (lv_at hl 2 rfl) ?_
    refine x_getr hx hb hts inX6 hown hK hP tF_0 (C := RX6) (F := TX6) (N := 5) rfl 0 (by decide) q168 rfl (20 + 15 * 0) rfl dX6_split_37 ?_
    refine x_getr hx hb hts inX5 hown hK hP (tT_20 hz0) (C := RX5) (F := TX5) (N := 5) rfl 1 (by decide) q103 rfl (22 + 15 * 0) rfl dX6_split_40 ?_
    refine lv_iload_n hx hb dX6_split_43 rfl (lv_at hl 1 rfl) ?_
    obtain ⟨r44, hcal, h⟩ := bnd_s h
    refine x_VI (As := [.int r8]) hx hb hml hown hts hK hP hS (ct_X4_highAt l D a cA cT hI g 0 r8 hz0 r44 hcal) (tT_22 hz0) (C := RX4) (F := TX4) (N := 5) rfl (g_V q345 q271 q272 q39 q273) yd_X4_highAt ⟨Nat.le_of_ble_eq_true rfl, Nat.le_of_ble_eq_true rfl⟩ [] rfl (Nat.le_of_ble_eq_true rfl) hl.1 ⟨Nat.le_refl _, Nat.le_refl _⟩ dX6_split_44 (fun H locs hP hS => ?_)
    refine lv_istore (lv' := [(5, .int r44), (4, .int r31), (3, .int r8), (0, .ref (a 0)), (1, .int x0), (2, .int x1)]) hx hb dX6_split_47 hl (by decide) rfl (fun ls hl => ?_)
    refine lv_iload_n hx hb dX6_split_49 rfl (lv_at hl 5 rfl) ?_
    refine lv_iload hx hb dX6_split_50 (lv_at hl 1 rfl) ?_
    refine lv_icmp_le (tgt := 61) hx hb dX6_split_52 (by decide) (fun hc => ?_) (fun hc => ?_)
    · have h := ite_t hc h
      refine lv_sipush (v := (-1002 : Int32)) hx hb dX6_split_61 (by decide) ?_
      obtain ⟨rfl, rfl⟩ := Prod.mk.inj (Option.some.inj h)
      exact hend _ _ _ _ dX6_split_64 rfl hP hS
    · have h := ite_f hc h
      refine lv_iload_n hx hb dX6_split_55 rfl (lv_at hl 5 rfl) ?_
      refine lv_iload hx hb dX6_split_56 (lv_at hl 0 rfl) ?_
      refine lv_icmp_lt (tgt := 65) hx hb dX6_split_58 (by decide) (fun hc => ?_) (fun hc => ?_)
      · have h := ite_t hc h
        refine lv_aload_n hx hb dX6_split_65 rfl (lv_at hl 3 rfl) ?_
        refine x_getr hx hb hts inX6 hown hK hP tF_0 (C := RX6) (F := TX6) (N := 5) rfl 0 (by decide) q168 rfl (20 + 15 * 0) rfl dX6_split_66 ?_
        refine x_getr hx hb hts inX5 hown hK hP (tT_20 hz0) (C := RX5) (F := TX5) (N := 5) rfl 1 (by decide) q103 rfl (22 + 15 * 0) rfl dX6_split_69 ?_
        obtain ⟨r72, hcal, h⟩ := bnd_s h
        refine x_VI (As := []) hx hb hml hown hts hK hP hS (ct_X4_isFull l D a cA cT hI g 0 hz0 r72 hcal) (tT_22 hz0) (C := RX4) (F := TX4) (N := 5) rfl (g_V q443 q444 q445 q39 q446) yd_X4_isFull ⟨Nat.le_of_ble_eq_true rfl, Nat.le_of_ble_eq_true rfl⟩ [] rfl (Nat.le_of_ble_eq_true rfl) hl.1 ⟨Nat.le_refl _, Nat.le_refl _⟩ dX6_split_72 (fun H locs hP hS => ?_)
        refine lv_if_eq (tgt := 82) hx hb dX6_split_75 (by decide) (fun hc => ?_) (fun hc => ?_)
        · have h := ite_t hc h
          refine lv_aload_n hx hb dX6_split_82 rfl (lv_at hl 3 rfl) ?_
          refine x_getr hx hb hts inX6 hown hK hP tF_0 (C := RX6) (F := TX6) (N := 5) rfl 1 (by decide) q169 rfl 1 rfl dX6_split_83 ?_
          refine lv_aload_n hx hb dX6_split_86 rfl (lv_at hl 3 rfl) ?_
          refine x_getr hx hb hts inX6 hown hK hP tF_0 (C := RX6) (F := TX6) (N := 5) rfl 0 (by decide) q168 rfl (20 + 15 * 0) rfl dX6_split_87 ?_
          obtain ⟨g90, hcal, h⟩ := bnd_s h
          refine x_VV (As := [.ref (a (20 + 15 * 0))]) hx hb hml hown hts hK hP hS (ct_X1_record l D a cA cT hI g 0 hz0 g90 hcal) tF_1 (C := RX1) (F := TX1) (N := 4) rfl (g_V q412 q413 q414 q40 q415) yd_X1_record ⟨Nat.le_of_ble_eq_true rfl, Nat.le_of_ble_eq_true rfl⟩ [] rfl (Nat.le_of_ble_eq_true rfl) hl.1 ⟨Nat.le_refl _, Nat.le_refl _⟩ dX6_split_90 (fun H locs hP hS => ?_)
          refine lv_aload_n hx hb dX6_split_93 rfl (lv_at hl 3 rfl) ?_
          refine x_getr hx hb hts inX6 hown hK hP tF_0 (C := RX6) (F := TX6) (N := 5) rfl 0 (by decide) q168 rfl (20 + 15 * 0) rfl dX6_split_94 ?_
          refine x_getr hx hb hts inX5 hown hK hP (tT_20 hz0) (C := RX5) (F := TX5) (N := 5) rfl 1 (by decide) q103 rfl (22 + 15 * 0) rfl dX6_split_97 ?_
          refine lv_iload_n hx hb dX6_split_100 rfl (lv_at hl 2 rfl) ?_
          refine lv_iload hx hb dX6_split_101 (lv_at hl 1 rfl) ?_
          refine lv_iload_n hx hb dX6_split_103 rfl (lv_at hl 5 rfl) ?_
          obtain ⟨g104, hcal, h⟩ := bnd_s h
          refine x_VV (As := [.int r8, .int r31, .int x1]) hx hb hml hown hts hK hP hS (ct_X4_changeBounds l D a cA cT hI g90 0 r8 r31 x1 hz0 g104 hcal) (tT_22 hz0) (C := RX4) (F := TX4) (N := 5) rfl (g_V q484 q456 q457 q39 q458) yd_X4_changeBounds ⟨Nat.le_of_ble_eq_true rfl, Nat.le_of_ble_eq_true rfl⟩ [] rfl (Nat.le_of_ble_eq_true rfl) hl.1 ⟨Nat.le_refl _, Nat.le_refl _⟩ dX6_split_104 (fun H locs hP hS => ?_)
          refine lv_aload_n hx hb dX6_split_107 rfl (lv_at hl 3 rfl) ?_
          refine x_getr hx hb hts inX6 hown hK hP tF_0 (C := RX6) (F := TX6) (N := 5) rfl 0 (by decide) q168 rfl (20 + 15 * 0) rfl dX6_split_108 ?_
          refine x_getr hx hb hts inX5 hown hK hP (tT_20 hz0) (C := RX5) (F := TX5) (N := 5) rfl 1 (by decide) q103 rfl (22 + 15 * 0) rfl dX6_split_111 ?_
          refine lv_iload_n hx hb dX6_split_114 rfl (lv_at hl 5 rfl) ?_
          refine lv_iload hx hb dX6_split_115 (lv_at hl 0 rfl) ?_
          obtain ⟨r117, g117, hcal, h⟩ := bnd2_s h
          refine x_VI (As := [.int x1, .int r44]) hx hb hml hown hts hK hP hS (ct_X4_append l D a cA cT hI g104 0 x1 r44 hz0 r117 g117 hcal) (tT_22 hz0) (C := RX4) (F := TX4) (N := 5) rfl (g_V q447 q448 q449 q39 q450) yd_X4_append ⟨Nat.le_of_ble_eq_true rfl, Nat.le_of_ble_eq_true rfl⟩ [] rfl (Nat.le_of_ble_eq_true rfl) hl.1 ⟨Nat.le_refl _, Nat.le_refl _⟩ dX6_split_117 (fun H locs hP hS => ?_)
          refine lv_istore (lv' := [(6, .int r117), (5, .int r44), (4, .int r31), (3, .int r8), (0, .ref (a 0)), (1, .int x0), (2, .int x1)]) hx hb dX6_split_120 hl (by decide) rfl (fun ls hl => ?_)
          refine lv_aload_n hx hb dX6_split_122 rfl (lv_at hl 4 rfl) ?_
          refine x_getr hx hb hts inX6 hown hK hP tF_0 (C := RX6) (F := TX6) (N := 5) rfl 0 (by decide) q168 rfl (20 + 15 * 0) rfl dX6_split_123 ?_
          refine x_getr hx hb hts inX5 hown hK hP (tT_20 hz0) (C := RX5) (F := TX5) (N := 5) rfl 0 (by decide) q101 rfl (21 + 15 * 0) rfl dX6_split_126 ?_
          refine lv_iload_n hx hb dX6_split_129 rfl (lv_at hl 5 rfl) ?_
          refine lv_iload hx hb dX6_split_130 (lv_at hl 0 rfl) ?_
          refine lv_iload_n hx hb dX6_split_132 rfl (lv_at hl 6 rfl) ?_
          refine lv_iload hx hb dX6_split_133 (lv_at hl 1 rfl) ?_
          obtain ⟨g135, hcal, h⟩ := bnd_s h
          refine x_VV (As := [.int x0, .int r117, .int x1, .int r44]) hx hb hml hown hts hK hP hS (ct_X3_moveKeys l D a cA cT hI g117 0 x0 r117 x1 r44 hz0 g135 hcal) (tT_21 hz0) (C := RX3) (F := TX3) (N := 4) rfl (g_V q459 q460 q461 q37 q462) yd_X3_moveKeys ⟨Nat.le_of_ble_eq_true rfl, Nat.le_of_ble_eq_true rfl⟩ [] rfl (Nat.le_of_ble_eq_true rfl) hl.1 ⟨Nat.le_refl _, Nat.le_refl _⟩ dX6_split_135 (fun H locs hP hS => ?_)
          refine lv_iload hx hb dX6_split_138 (lv_at hl 0 rfl) ?_
          obtain ⟨rfl, rfl⟩ := Prod.mk.inj (Option.some.inj h)
          exact hend _ _ _ _ dX6_split_140 rfl hP hS
        · have h := ite_f hc h
          refine lv_sipush (v := (-1003 : Int32)) hx hb dX6_split_78 (by decide) ?_
          obtain ⟨rfl, rfl⟩ := Prod.mk.inj (Option.some.inj h)
          exact hend _ _ _ _ dX6_split_81 rfl hP hS
      · have h := ite_f hc h
        refine lv_sipush (v := (-1002 : Int32)) hx hb dX6_split_61 (by decide) ?_
        obtain ⟨rfl, rfl⟩ := Prod.mk.inj (Option.some.inj h)
        exact hend _ _ _ _ dX6_split_64 rfl hP hS
  · have h := ite_t hc h
    refine lv_sipush (v := (-1001 : Int32)) hx hb dX6_split_19 (by decide) ?_
    obtain ⟨rfl, rfl⟩ := Prod.mk.inj (Option.some.inj h)
    exact hend _ _ _ _ dX6_split_22 rfl hP hS
set_option maxHeartbeats 4000000 in
set_option maxRecDepth 100000 in
theorem ct_X6_merge (l : Launch) (D : va_G) (a : Nat → Nat) (cA cT : ClassId) (hI : WI a TC) (g : MG) (x0 : Int32) (x1 : Int32)  (r : Int32) (g' : MG) (h : m_X6_merge g x0 x1 = some (r, g')) :
    CtI l D a cA cT TC yX6_merge (Cond.code yX6_merge cX6_merge 6 (some .int) :: lw_all) (rmm 5 114) [.ref (a 0), .int x0, .int x1] g r g' := by
  refine CtI.of (by decide +kernel) (Nat.le_of_ble_eq_true rfl) ?_
  intro p e s m args below meth c Q ls hx hb hml hown hts hK hP hS hl hend
  have hl : lv_has ls 6 [(0, .ref (a 0)), (1, .int x0), (2, .int x1)] := hl
  unfold m_X6_merge at h
  refine lv_aload_n hx hb dX6_merge_0 rfl (lv_at hl 0 rfl) ?_
  refine x_getr hx hb hts inX6 hown hK hP tF_0 (C := RX6) (F := TX6) (N := 5) rfl 0 (by decide) q168 rfl (20 + 15 * 0) rfl dX6_merge_1 ?_
  refine x_getr hx hb hts inX5 hown hK hP (tT_20 hz0) (C := RX5) (F := TX5) (N := 5) rfl 1 (by decide) q103 rfl (22 + 15 * 0) rfl dX6_merge_4 ?_
  refine lv_iload_n hx hb dX6_merge_7 rfl (lv_at hl 1 rfl) ?_
  obtain ⟨r8, hcal, h⟩ := bnd_s h
  refine x_VI (As := [.int x0]) hx hb hml hown hts hK hP hS (ct_X4_positionOf l D a cA cT hI g 0 x0 hz0 r8 hcal) (tT_22 hz0) (C := RX4) (F := TX4) (N := 5) rfl (g_V q343 q340 q341 q39 q342) yd_X4_positionOf ⟨Nat.le_of_ble_eq_true rfl, Nat.le_of_ble_eq_true rfl⟩ [] rfl (Nat.le_of_ble_eq_true rfl) hl.1 ⟨Nat.le_refl _, Nat.le_refl _⟩ dX6_merge_8 (fun H locs hP hS => ?_)
  refine lv_istore_n (lv' := [(3, .int r8), (0, .ref (a 0)), (1, .int x0), (2, .int x1)]) hx hb dX6_merge_11 rfl hl (by decide) rfl (fun ls hl => ?_)
  refine lv_aload_n hx hb dX6_merge_12 rfl (lv_at hl 1 rfl) ?_
  refine x_getr hx hb hts inX6 hown hK hP tF_0 (C := RX6) (F := TX6) (N := 5) rfl 0 (by decide) q168 rfl (20 + 15 * 0) rfl dX6_merge_13 ?_
  refine x_getr hx hb hts inX5 hown hK hP (tT_20 hz0) (C := RX5) (F := TX5) (N := 5) rfl 1 (by decide) q103 rfl (22 + 15 * 0) rfl dX6_merge_16 ?_
  refine lv_iload_n hx hb dX6_merge_19 rfl (lv_at hl 3 rfl) ?_
  obtain ⟨r20, hcal, h⟩ := bnd_s h
  refine x_VI (As := [.int x1]) hx hb hml hown hts hK hP hS (ct_X4_positionOf l D a cA cT hI g 0 x1 hz0 r20 hcal) (tT_22 hz0) (C := RX4) (F := TX4) (N := 5) rfl (g_V q343 q340 q341 q39 q342) yd_X4_positionOf ⟨Nat.le_of_ble_eq_true rfl, Nat.le_of_ble_eq_true rfl⟩ [] rfl (Nat.le_of_ble_eq_true rfl) hl.1 ⟨Nat.le_refl _, Nat.le_refl _⟩ dX6_merge_20 (fun H locs hP hS => ?_)
  refine lv_istore (lv' := [(4, .int r20), (3, .int r8), (0, .ref (a 0)), (1, .int x0), (2, .int x1)]) hx hb dX6_merge_23 hl (by decide) rfl (fun ls hl => ?_)
  refine lv_iload_n hx hb dX6_merge_25 rfl (lv_at hl 1 rfl) ?_
  refine lv_sipush (v := (-1005 : Int32)) hx hb dX6_merge_26 (by decide) ?_
  refine lv_icmp_eq (tgt := 40) hx hb dX6_merge_29 (by decide) (fun hc => ?_) (fun hc => ?_)
  · have h := ite_t hc h
    refine lv_sipush (v := (-1001 : Int32)) hx hb dX6_merge_40 (by decide) ?_
    obtain ⟨rfl, rfl⟩ := Prod.mk.inj (Option.some.inj h)
    exact hend _ _ _ _ dX6_merge_43 rfl hP hS
  · have h := ite_f hc h
    refine lv_iload hx hb dX6_merge_32 (lv_at hl 0 rfl) ?_
    refine lv_sipush (v := (-1005 : Int32)) hx hb dX6_merge_34 (by decide) ?_
    refine lv_icmp_ne (tgt := 44) hx hb dX6_merge_37 (by decide) (fun hc => ?_) (fun hc => ?_)
    · have h := ite_f hc h
      refine lv_aload_n hx hb dX6_merge_44 rfl (lv_at hl 2 rfl) ?_
      refine x_getr hx hb hts inX6 hown hK hP tF_0 (C := RX6) (F := TX6) (N := 5) rfl 0 (by decide) q168 rfl (20 + 15 * 0) rfl dX6_merge_45 ?_
      refine x_getr hx hb hts inX5 hown hK hP (tT_20 hz0) (C := RX5) (F := TX5) (N := 5) rfl 1 (by decide) q103 rfl (22 + 15 * 0) rfl dX6_merge_48 ?_
      refine lv_iload_n hx hb dX6_merge_51 rfl (lv_at hl 1 rfl) ?_
      refine lv_iload hx hb dX6_merge_52 (lv_at hl 0 rfl) ?_
      obtain ⟨r54, hcal, h⟩ := bnd_s h
      refine x_VI (As := [.int r8, .int r20]) hx hb hml hown hts hK hP hS (ct_X4_areBeside l D a cA cT hI g 0 r8 r20 hz0 r54 hcal) (tT_22 hz0) (C := RX4) (F := TX4) (N := 5) rfl (g_V q489 q490 q491 q39 q492) yd_X4_areBeside ⟨Nat.le_of_ble_eq_true rfl, Nat.le_of_ble_eq_true rfl⟩ [] rfl (Nat.le_of_ble_eq_true rfl) hl.1 ⟨Nat.le_refl _, Nat.le_refl _⟩ dX6_merge_54 (fun H locs hP hS => ?_)
      refine lv_if_ne (tgt := 64) hx hb dX6_merge_57 (by decide) (fun hc => ?_) (fun hc => ?_)
      · have h := ite_f hc h
        refine lv_aload_n hx hb dX6_merge_64 rfl (lv_at hl 2 rfl) ?_
        refine x_getr hx hb hts inX6 hown hK hP tF_0 (C := RX6) (F := TX6) (N := 5) rfl 0 (by decide) q168 rfl (20 + 15 * 0) rfl dX6_merge_65 ?_
        refine x_getr hx hb hts inX5 hown hK hP (tT_20 hz0) (C := RX5) (F := TX5) (N := 5) rfl 0 (by decide) q101 rfl (21 + 15 * 0) rfl dX6_merge_68 ?_
        refine lv_iload_n hx hb dX6_merge_71 rfl (lv_at hl 3 rfl) ?_
        obtain ⟨r72, hcal, h⟩ := bnd_s h
        refine x_VI (As := [.int x0]) hx hb hml hown hts hK hP hS (ct_X3_amountAt l D a cA cT hI g 0 x0 hz0 r72 hcal) (tT_21 hz0) (C := RX3) (F := TX3) (N := 4) rfl (g_V q232 q233 q234 q37 q235) yd_X3_amountAt ⟨Nat.le_of_ble_eq_true rfl, Nat.le_of_ble_eq_true rfl⟩ [] rfl (Nat.le_of_ble_eq_true rfl) hl.1 ⟨Nat.le_refl _, Nat.le_refl _⟩ dX6_merge_72 (fun H locs hP hS => ?_)
        refine lv_aload_n hx hb dX6_merge_75 rfl (lv_at hl 2 rfl) ?_
        refine x_getr hx hb hts inX6 hown hK hP tF_0 (C := RX6) (F := TX6) (N := 5) rfl 0 (by decide) q168 rfl (20 + 15 * 0) rfl dX6_merge_76 ?_
        refine x_getr hx hb hts inX5 hown hK hP (tT_20 hz0) (C := RX5) (F := TX5) (N := 5) rfl 0 (by decide) q101 rfl (21 + 15 * 0) rfl dX6_merge_79 ?_
        refine lv_iload_n hx hb dX6_merge_82 rfl (lv_at hl 4 rfl) ?_
        obtain ⟨r83, hcal, h⟩ := bnd_s h
        refine x_VI (As := [.int x1]) hx hb hml hown hts hK hP hS (ct_X3_amountAt l D a cA cT hI g 0 x1 hz0 r83 hcal) (tT_21 hz0) (C := RX3) (F := TX3) (N := 4) rfl (g_V q232 q233 q234 q37 q235) yd_X3_amountAt ⟨Nat.le_of_ble_eq_true rfl, Nat.le_of_ble_eq_true rfl⟩ [.int r72] rfl (Nat.le_of_ble_eq_true rfl) hl.1 ⟨Nat.le_refl _, Nat.le_refl _⟩ dX6_merge_83 (fun H locs hP hS => ?_)
        refine lv_iadd hx hb dX6_merge_86 ?_
        refine lv_istore (lv' := [(5, .int (r72 + r83)), (4, .int r20), (3, .int r8), (0, .ref (a 0)), (1, .int x0), (2, .int x1)]) hx hb dX6_merge_87 hl (by decide) rfl (fun ls hl => ?_)
        refine lv_iload hx hb dX6_merge_89 (lv_at hl 0 rfl) ?_
        refine lv_bipush (v := (30 : Int32)) hx hb dX6_merge_91 (by decide) ?_
        refine lv_icmp_le (tgt := 100) hx hb dX6_merge_93 (by decide) (fun hc => ?_) (fun hc => ?_)
        · have h := ite_t hc h
          refine lv_aload_n hx hb dX6_merge_100 rfl (lv_at hl 3 rfl) ?_
          refine x_getr hx hb hts inX6 hown hK hP tF_0 (C := RX6) (F := TX6) (N := 5) rfl 1 (by decide) q169 rfl 1 rfl dX6_merge_101 ?_
          refine lv_aload_n hx hb dX6_merge_104 rfl (lv_at hl 3 rfl) ?_
          refine x_getr hx hb hts inX6 hown hK hP tF_0 (C := RX6) (F := TX6) (N := 5) rfl 0 (by decide) q168 rfl (20 + 15 * 0) rfl dX6_merge_105 ?_
          obtain ⟨g108, hcal, h⟩ := bnd_s h
          refine x_VV (As := [.ref (a (20 + 15 * 0))]) hx hb hml hown hts hK hP hS (ct_X1_record l D a cA cT hI g 0 hz0 g108 hcal) tF_1 (C := RX1) (F := TX1) (N := 4) rfl (g_V q412 q413 q414 q40 q415) yd_X1_record ⟨Nat.le_of_ble_eq_true rfl, Nat.le_of_ble_eq_true rfl⟩ [] rfl (Nat.le_of_ble_eq_true rfl) hl.1 ⟨Nat.le_refl _, Nat.le_refl _⟩ dX6_merge_108 (fun H locs hP hS => ?_)
          refine lv_aload_n hx hb dX6_merge_111 rfl (lv_at hl 3 rfl) ?_
          refine x_getr hx hb hts inX6 hown hK hP tF_0 (C := RX6) (F := TX6) (N := 5) rfl 0 (by decide) q168 rfl (20 + 15 * 0) rfl dX6_merge_112 ?_
          refine x_getr hx hb hts inX5 hown hK hP (tT_20 hz0) (C := RX5) (F := TX5) (N := 5) rfl 0 (by decide) q101 rfl (21 + 15 * 0) rfl dX6_merge_115 ?_
          refine lv_iload_n hx hb dX6_merge_118 rfl (lv_at hl 4 rfl) ?_
          refine lv_iload_n hx hb dX6_merge_119 rfl (lv_at hl 5 rfl) ?_
          obtain ⟨g120, hcal, h⟩ := bnd_s h
          refine x_VV (As := [.int x0, .int x1]) hx hb hml hown hts hK hP hS (ct_X3_moveAll l D a cA cT hI g108 0 x0 x1 hz0 g120 hcal) (tT_21 hz0) (C := RX3) (F := TX3) (N := 4) rfl (g_V q493 q494 q495 q37 q496) yd_X3_moveAll ⟨Nat.le_of_ble_eq_true rfl, Nat.le_of_ble_eq_true rfl⟩ [] rfl (Nat.le_of_ble_eq_true rfl) hl.1 ⟨Nat.le_refl _, Nat.le_refl _⟩ dX6_merge_120 (fun H locs hP hS => ?_)
          refine lv_aload_n hx hb dX6_merge_123 rfl (lv_at hl 3 rfl) ?_
          refine x_getr hx hb hts inX6 hown hK hP tF_0 (C := RX6) (F := TX6) (N := 5) rfl 0 (by decide) q168 rfl (20 + 15 * 0) rfl dX6_merge_124 ?_
          refine x_getr hx hb hts inX5 hown hK hP (tT_20 hz0) (C := RX5) (F := TX5) (N := 5) rfl 1 (by decide) q103 rfl (22 + 15 * 0) rfl dX6_merge_127 ?_
          refine lv_iload_n hx hb dX6_merge_130 rfl (lv_at hl 2 rfl) ?_
          refine lv_iload hx hb dX6_merge_131 (lv_at hl 1 rfl) ?_
          obtain ⟨g133, hcal, h⟩ := bnd_s h
          refine x_VV (As := [.int r8, .int r20]) hx hb hml hown hts hK hP hS (ct_X4_unite l D a cA cT hI g120 0 r8 r20 hz0 g133 hcal) (tT_22 hz0) (C := RX4) (F := TX4) (N := 5) rfl (g_V q498 q499 q500 q39 q501) yd_X4_unite ⟨Nat.le_of_ble_eq_true rfl, Nat.le_of_ble_eq_true rfl⟩ [] rfl (Nat.le_of_ble_eq_true rfl) hl.1 ⟨Nat.le_refl _, Nat.le_refl _⟩ dX6_merge_133 (fun H locs hP hS => ?_)
          refine lv_iload hx hb dX6_merge_136 (lv_at hl 0 rfl) ?_
          obtain ⟨rfl, rfl⟩ := Prod.mk.inj (Option.some.inj h)
          exact hend _ _ _ _ dX6_merge_138 rfl hP hS
        · have h := ite_f hc h
          refine lv_sipush (v := (-1003 : Int32)) hx hb dX6_merge_96 (by decide) ?_
          obtain ⟨rfl, rfl⟩ := Prod.mk.inj (Option.some.inj h)
          exact hend _ _ _ _ dX6_merge_99 rfl hP hS
      · have h := ite_t hc h
        refine lv_sipush (v := (-1004 : Int32)) hx hb dX6_merge_60 (by decide) ?_
        obtain ⟨rfl, rfl⟩ := Prod.mk.inj (Option.some.inj h)
        exact hend _ _ _ _ dX6_merge_63 rfl hP hS
    · have h := ite_t hc h
      refine lv_sipush (v := (-1001 : Int32)) hx hb dX6_merge_40 (by decide) ?_
      obtain ⟨rfl, rfl⟩ := Prod.mk.inj (Option.some.inj h)
      exact hend _ _ _ _ dX6_merge_43 rfl hP hS
set_option maxHeartbeats 4000000 in
set_option maxRecDepth 100000 in
theorem ct_X6_useDefault (l : Launch) (D : va_G) (a : Nat → Nat) (cA cT : ClassId) (hI : WI a TC) (g : MG) (x0 : Int32)  (r : Int32) (g' : MG) (h : m_X6_useDefault g x0 = some (r, g')) :
    CtI l D a cA cT TC yX6_useDefault (Cond.code yX6_useDefault cX6_useDefault 2 (some .int) :: lw_all) (rmm 5 112) [.ref (a 0), .int x0] g r g' := by
  refine CtI.of (by decide +kernel) (Nat.le_of_ble_eq_true rfl) ?_
  intro p e s m args below meth c Q ls hx hb hml hown hts hK hP hS hl hend
  have hl : lv_has ls 2 [(0, .ref (a 0)), (1, .int x0)] := hl
  unfold m_X6_useDefault at h
  refine lv_aload_n hx hb dX6_useDefault_0 rfl (lv_at hl 0 rfl) ?_
  refine x_getr hx hb hts inX6 hown hK hP tF_0 (C := RX6) (F := TX6) (N := 5) rfl 0 (by decide) q168 rfl (20 + 15 * 0) rfl dX6_useDefault_1 ?_
  refine x_get hx hb hts inX5 hown hK hP (tT_20 hz0) (C := RX5) (F := TX5) (N := 5) rfl 2 (by decide) q105 rfl rfl dX6_useDefault_4 ?_
  refine lv_iload_n hx hb dX6_useDefault_7 rfl (lv_at hl 1 rfl) ?_
  refine lv_icmp_ne (tgt := 15) hx hb dX6_useDefault_8 (by decide) (fun hc => ?_) (fun hc => ?_)
  · have h := ite_f hc h
    refine lv_iload_n hx hb dX6_useDefault_15 rfl (lv_at hl 1 rfl) ?_
    refine lv_if_ne (tgt := 38) hx hb dX6_useDefault_16 (by decide) (fun hc => ?_) (fun hc => ?_)
    · have h := ite_f hc h
      refine lv_aload_n hx hb dX6_useDefault_38 rfl (lv_at hl 0 rfl) ?_
      refine x_getr hx hb hts inX6 hown hK hP tF_0 (C := RX6) (F := TX6) (N := 5) rfl 1 (by decide) q169 rfl 1 rfl dX6_useDefault_39 ?_
      refine lv_aload_n hx hb dX6_useDefault_42 rfl (lv_at hl 0 rfl) ?_
      refine x_getr hx hb hts inX6 hown hK hP tF_0 (C := RX6) (F := TX6) (N := 5) rfl 0 (by decide) q168 rfl (20 + 15 * 0) rfl dX6_useDefault_43 ?_
      obtain ⟨g46, hcal, h⟩ := bnd_s h
      refine x_VV (As := [.ref (a (20 + 15 * 0))]) hx hb hml hown hts hK hP hS (ct_X1_record l D a cA cT hI g 0 hz0 g46 hcal) tF_1 (C := RX1) (F := TX1) (N := 4) rfl (g_V q412 q413 q414 q40 q415) yd_X1_record ⟨Nat.le_of_ble_eq_true rfl, Nat.le_of_ble_eq_true rfl⟩ [] rfl (Nat.le_of_ble_eq_true rfl) hl.1 ⟨Nat.le_refl _, Nat.le_refl _⟩ dX6_useDefault_46 (fun H locs hP hS => ?_)
      refine lv_aload_n hx hb dX6_useDefault_49 rfl (lv_at hl 0 rfl) ?_
      refine x_getr hx hb hts inX6 hown hK hP tF_0 (C := RX6) (F := TX6) (N := 5) rfl 0 (by decide) q168 rfl (20 + 15 * 0) rfl dX6_useDefault_50 ?_
      refine lv_iload_n hx hb dX6_useDefault_53 rfl (lv_at hl 1 rfl) ?_
      obtain ⟨hz, h⟩ := ite_n h
      refine x_put hx hb hts inX5 tyX5 tyX5_ok nmX5 hown hK hI hP hS (tT_20 hz0) (C := RX5) (F := TX5) (N := 5) rfl 2 (by decide) q105 rfl rfl rfl (bz_n hz) (bz_f hz) dX6_useDefault_54 (fun H locs hP hS => ?_)
      refine lv_aload_n hx hb dX6_useDefault_57 rfl (lv_at hl 0 rfl) ?_
      refine x_getr hx hb hts inX6 hown hK hP tF_0 (C := RX6) (F := TX6) (N := 5) rfl 0 (by decide) q168 rfl (20 + 15 * 0) rfl dX6_useDefault_58 ?_
      refine x_getr hx hb hts inX5 hown hK hP (tT_20 hz0) (C := RX5) (F := TX5) (N := 5) rfl 1 (by decide) q103 rfl (22 + 15 * 0) rfl dX6_useDefault_61 ?_
      obtain ⟨r64, hcal, h⟩ := bnd_s h
      refine x_VI (As := []) hx hb hml hown hts hK hP hS (ct_X4_freeKeys l D a cA cT hI (g_w g46 (20 + 15 * 0) 2 x0) 0 hz0 r64 hcal) (tT_22 hz0) (C := RX4) (F := TX4) (N := 5) rfl (g_V q291 q292 q293 q39 q294) yd_X4_freeKeys ⟨Nat.le_of_ble_eq_true rfl, Nat.le_of_ble_eq_true rfl⟩ [] rfl (Nat.le_of_ble_eq_true rfl) hl.1 ⟨Nat.le_refl _, Nat.le_refl _⟩ dX6_useDefault_64 (fun H locs hP hS => ?_)
      obtain ⟨rfl, rfl⟩ := Prod.mk.inj (Option.some.inj h)
      exact hend _ _ _ _ dX6_useDefault_67 rfl hP hS
    · have h := ite_t hc h
      refine lv_aload_n hx hb dX6_useDefault_19 rfl (lv_at hl 0 rfl) ?_
      refine x_getr hx hb hts inX6 hown hK hP tF_0 (C := RX6) (F := TX6) (N := 5) rfl 0 (by decide) q168 rfl (20 + 15 * 0) rfl dX6_useDefault_20 ?_
      refine x_getr hx hb hts inX5 hown hK hP (tT_20 hz0) (C := RX5) (F := TX5) (N := 5) rfl 0 (by decide) q101 rfl (21 + 15 * 0) rfl dX6_useDefault_23 ?_
      refine lv_bipush (v := (60 : Int32)) hx hb dX6_useDefault_26 (by decide) ?_
      obtain ⟨r28, hcal, h⟩ := bnd_s h
      refine x_VI (As := [.int (60 : Int32)]) hx hb hml hown hts hK hP hS (ct_X3_amountAt l D a cA cT hI g 0 (60 : Int32) hz0 r28 hcal) (tT_21 hz0) (C := RX3) (F := TX3) (N := 4) rfl (g_V q232 q233 q234 q37 q235) yd_X3_amountAt ⟨Nat.le_of_ble_eq_true rfl, Nat.le_of_ble_eq_true rfl⟩ [] rfl (Nat.le_of_ble_eq_true rfl) hl.1 ⟨Nat.le_refl _, Nat.le_refl _⟩ dX6_useDefault_28 (fun H locs hP hS => ?_)
      refine lv_if_le (tgt := 38) hx hb dX6_useDefault_31 (by decide) (fun hc => ?_) (fun hc => ?_)
      · have h := ite_t hc h
        refine lv_aload_n hx hb dX6_useDefault_38 rfl (lv_at hl 0 rfl) ?_
        refine x_getr hx hb hts inX6 hown hK hP tF_0 (C := RX6) (F := TX6) (N := 5) rfl 1 (by decide) q169 rfl 1 rfl dX6_useDefault_39 ?_
        refine lv_aload_n hx hb dX6_useDefault_42 rfl (lv_at hl 0 rfl) ?_
        refine x_getr hx hb hts inX6 hown hK hP tF_0 (C := RX6) (F := TX6) (N := 5) rfl 0 (by decide) q168 rfl (20 + 15 * 0) rfl dX6_useDefault_43 ?_
        obtain ⟨g46, hcal, h⟩ := bnd_s h
        refine x_VV (As := [.ref (a (20 + 15 * 0))]) hx hb hml hown hts hK hP hS (ct_X1_record l D a cA cT hI g 0 hz0 g46 hcal) tF_1 (C := RX1) (F := TX1) (N := 4) rfl (g_V q412 q413 q414 q40 q415) yd_X1_record ⟨Nat.le_of_ble_eq_true rfl, Nat.le_of_ble_eq_true rfl⟩ [] rfl (Nat.le_of_ble_eq_true rfl) hl.1 ⟨Nat.le_refl _, Nat.le_refl _⟩ dX6_useDefault_46 (fun H locs hP hS => ?_)
        refine lv_aload_n hx hb dX6_useDefault_49 rfl (lv_at hl 0 rfl) ?_
        refine x_getr hx hb hts inX6 hown hK hP tF_0 (C := RX6) (F := TX6) (N := 5) rfl 0 (by decide) q168 rfl (20 + 15 * 0) rfl dX6_useDefault_50 ?_
        refine lv_iload_n hx hb dX6_useDefault_53 rfl (lv_at hl 1 rfl) ?_
        obtain ⟨hz, h⟩ := ite_n h
        refine x_put hx hb hts inX5 tyX5 tyX5_ok nmX5 hown hK hI hP hS (tT_20 hz0) (C := RX5) (F := TX5) (N := 5) rfl 2 (by decide) q105 rfl rfl rfl (bz_n hz) (bz_f hz) dX6_useDefault_54 (fun H locs hP hS => ?_)
        refine lv_aload_n hx hb dX6_useDefault_57 rfl (lv_at hl 0 rfl) ?_
        refine x_getr hx hb hts inX6 hown hK hP tF_0 (C := RX6) (F := TX6) (N := 5) rfl 0 (by decide) q168 rfl (20 + 15 * 0) rfl dX6_useDefault_58 ?_
        refine x_getr hx hb hts inX5 hown hK hP (tT_20 hz0) (C := RX5) (F := TX5) (N := 5) rfl 1 (by decide) q103 rfl (22 + 15 * 0) rfl dX6_useDefault_61 ?_
        obtain ⟨r64, hcal, h⟩ := bnd_s h
        refine x_VI (As := []) hx hb hml hown hts hK hP hS (ct_X4_freeKeys l D a cA cT hI (g_w g46 (20 + 15 * 0) 2 x0) 0 hz0 r64 hcal) (tT_22 hz0) (C := RX4) (F := TX4) (N := 5) rfl (g_V q291 q292 q293 q39 q294) yd_X4_freeKeys ⟨Nat.le_of_ble_eq_true rfl, Nat.le_of_ble_eq_true rfl⟩ [] rfl (Nat.le_of_ble_eq_true rfl) hl.1 ⟨Nat.le_refl _, Nat.le_refl _⟩ dX6_useDefault_64 (fun H locs hP hS => ?_)
        obtain ⟨rfl, rfl⟩ := Prod.mk.inj (Option.some.inj h)
        exact hend _ _ _ _ dX6_useDefault_67 rfl hP hS
      · have h := ite_f hc h
        refine lv_sipush (v := (-1004 : Int32)) hx hb dX6_useDefault_34 (by decide) ?_
        obtain ⟨rfl, rfl⟩ := Prod.mk.inj (Option.some.inj h)
        exact hend _ _ _ _ dX6_useDefault_37 rfl hP hS
  · have h := ite_t hc h
    refine lv_sipush (v := (-1005 : Int32)) hx hb dX6_useDefault_11 (by decide) ?_
    obtain ⟨rfl, rfl⟩ := Prod.mk.inj (Option.some.inj h)
    exact hend _ _ _ _ dX6_useDefault_14 rfl hP hS
set_option maxHeartbeats 4000000 in
set_option maxRecDepth 100000 in
theorem ct_X6_straysFit (l : Launch) (D : va_G) (a : Nat → Nat) (cA cT : ClassId) (hI : WI a TC) (g : MG)   (r : Int32) (g' : MG) (h : m_X6_straysFit g = some (r, g')) :
    CtI l D a cA cT TC yX6_straysFit (Cond.code yX6_straysFit cX6_straysFit 4 (some .boolean) :: lw_all) (rmm 5 107) [.ref (a 0)] g r g' := by
  refine CtI.of (by decide +kernel) (Nat.le_of_ble_eq_true rfl) ?_
  intro p e s m args below meth c Q ls hx hb hml hown hts hK hP hS hl hend
  have hl : lv_has ls 4 [(0, .ref (a 0))] := hl
  unfold m_X6_straysFit at h
  refine lv_aload_n hx hb dX6_straysFit_0 rfl (lv_at hl 0 rfl) ?_
  refine x_getr hx hb hts inX6 hown hK hP tF_0 (C := RX6) (F := TX6) (N := 5) rfl 4 (by decide) q172 rfl 6 rfl dX6_straysFit_1 ?_
  obtain ⟨g4, hcal, h⟩ := bnd_s h
  refine x_VV (As := []) hx hb hml hown hts hK hP hS (ct_X0_clear l D a cA cT hI g 7 62 6 tF_6 tF_7 g4 hcal) tF_6 (C := RX0) (F := TX0) (N := 1) rfl (g_V q544 q545 q546 q38 q547) yd_X0_clear ⟨Nat.le_of_ble_eq_true rfl, Nat.le_of_ble_eq_true rfl⟩ [] rfl (Nat.le_of_ble_eq_true rfl) hl.1 ⟨Nat.le_refl _, Nat.le_refl _⟩ dX6_straysFit_4 (fun H locs hP hS => ?_)
  refine lv_iconst (v := (0 : Int32)) hx hb dX6_straysFit_7 (by decide) ?_
  refine lv_istore_n (lv' := [(1, .int (0 : Int32)), (0, .ref (a 0))]) hx hb dX6_straysFit_8 rfl hl (by decide) rfl (fun ls hl => ?_)
  have K9 : ∀ (n9 : Nat) (v1 : Int32) (g9 : MG) (H : Heap) (locs : List Loc) (ls : Array Slot), WP D a cA cT TC g9 H → va_S (AA a TC) s.heap H locs → lv_has ls 4 [(0, .ref (a 0)), (1, .int v1)] → lpo (b_X6_straysFit_L9) n9 (v1, g9) = some (r, g') → W p l e (rmm 5 107) s m args below meth c H locs 0 0 Q (F0 m 9 ls []) := by
    intro n9
    induction n9 with
    | zero => intro v1 g9 H locs ls hP hS hl h; exact (lpo_0 h).elim
    | succ n9 ih9 =>
      intro v1 g9 H locs ls hP hS hl h
      have h : m_X6_straysFit_L9 (lpo (b_X6_straysFit_L9) n9)  v1 g9 = some (r, g') := h
      unfold m_X6_straysFit_L9 at h
      refine lv_iload_n hx hb dX6_straysFit_9 rfl (lv_at hl 1 rfl) ?_
      refine lv_aload_n hx hb dX6_straysFit_10 rfl (lv_at hl 0 rfl) ?_
      refine x_getr hx hb hts inX6 hown hK hP tF_0 (C := RX6) (F := TX6) (N := 5) rfl 0 (by decide) q168 rfl (20 + 15 * 0) rfl dX6_straysFit_11 ?_
      refine x_getr hx hb hts inX5 hown hK hP (tT_20 hz0) (C := RX5) (F := TX5) (N := 5) rfl 0 (by decide) q101 rfl (21 + 15 * 0) rfl dX6_straysFit_14 ?_
      refine x_get hx hb hts inX3 hown hK hP (tT_21 hz0) (C := RX3) (F := TX3) (N := 4) rfl 3 (by decide) q75 rfl rfl dX6_straysFit_17 ?_
      refine lv_icmp_ge (tgt := 59) hx hb dX6_straysFit_20 (by decide) (fun hc => ?_) (fun hc => ?_)
      · have h := ite_t hc h
        refine lv_iconst (v := (0 : Int32)) hx hb dX6_straysFit_59 (by decide) ?_
        refine lv_istore_n (lv' := [(1, .int (0 : Int32)), (0, .ref (a 0))]) hx hb dX6_straysFit_60 rfl hl (by decide) rfl (fun ls hl => ?_)
        have K61 : ∀ (n61 : Nat) (v1 : Int32) (g61 : MG) (H : Heap) (locs : List Loc) (ls : Array Slot), WP D a cA cT TC g61 H → va_S (AA a TC) s.heap H locs → lv_has ls 4 [(0, .ref (a 0)), (1, .int v1)] → lpo (b_X6_straysFit_L61) n61 (v1, g61) = some (r, g') → W p l e (rmm 5 107) s m args below meth c H locs 0 0 Q (F0 m 61 ls []) := by
          intro n61
          induction n61 with
          | zero => intro v1 g61 H locs ls hP hS hl h; exact (lpo_0 h).elim
          | succ n61 ih61 =>
            intro v1 g61 H locs ls hP hS hl h
            have h : m_X6_straysFit_L61 (lpo (b_X6_straysFit_L61) n61)  v1 g61 = some (r, g') := h
            unfold m_X6_straysFit_L61 at h
            refine lv_iload_n hx hb dX6_straysFit_61 rfl (lv_at hl 1 rfl) ?_
            refine lv_aload_n hx hb dX6_straysFit_62 rfl (lv_at hl 0 rfl) ?_
            refine x_getr hx hb hts inX6 hown hK hP tF_0 (C := RX6) (F := TX6) (N := 5) rfl 0 (by decide) q168 rfl (20 + 15 * 0) rfl dX6_straysFit_63 ?_
            refine x_getr hx hb hts inX5 hown hK hP (tT_20 hz0) (C := RX5) (F := TX5) (N := 5) rfl 0 (by decide) q101 rfl (21 + 15 * 0) rfl dX6_straysFit_66 ?_
            refine x_get hx hb hts inX3 hown hK hP (tT_21 hz0) (C := RX3) (F := TX3) (N := 4) rfl 3 (by decide) q75 rfl rfl dX6_straysFit_69 ?_
            refine lv_icmp_ge (tgt := 174) hx hb dX6_straysFit_72 (by decide) (fun hc => ?_) (fun hc => ?_)
            · have h := ite_t hc h
              refine lv_iconst (v := (1 : Int32)) hx hb dX6_straysFit_174 (by decide) ?_
              obtain ⟨rfl, rfl⟩ := Prod.mk.inj (Option.some.inj h)
              exact hend _ _ _ _ dX6_straysFit_175 rfl hP hS
            · have h := ite_f hc h
              refine lv_aload_n hx hb dX6_straysFit_75 rfl (lv_at hl 0 rfl) ?_
              refine x_getr hx hb hts inX6 hown hK hP tF_0 (C := RX6) (F := TX6) (N := 5) rfl 0 (by decide) q168 rfl (20 + 15 * 0) rfl dX6_straysFit_76 ?_
              refine lv_iload_n hx hb dX6_straysFit_79 rfl (lv_at hl 1 rfl) ?_
              obtain ⟨r80, hcal, h⟩ := bnd_s h
              refine x_VI (As := [.int v1]) hx hb hml hown hts hK hP hS (ct_X5_isStray l D a cA cT hI g61 0 v1 hz0 r80 hcal) (tT_20 hz0) (C := RX5) (F := TX5) (N := 5) rfl (g_V q321 q252 q253 q36 q254) yd_X5_isStray ⟨Nat.le_of_ble_eq_true rfl, Nat.le_of_ble_eq_true rfl⟩ [] rfl (Nat.le_of_ble_eq_true rfl) hl.1 ⟨Nat.le_refl _, Nat.le_refl _⟩ dX6_straysFit_80 (fun H locs hP hS => ?_)
              refine lv_if_eq (tgt := 168) hx hb dX6_straysFit_83 (by decide) (fun hc => ?_) (fun hc => ?_)
              · have h := ite_t hc h
                refine lv_iinc (v := (v1 + (1 : Int32))) (lv' := [(1, .int (v1 + (1 : Int32))), (0, .ref (a 0))]) hx hb dX6_straysFit_168 hl (k := 1) rfl rfl (by decide) rfl (fun ls hl => ?_)
                refine lv_goto (tgt := 61) hx hb dX6_straysFit_171 (by decide) ?_
                exact ih61 (v1 + (1 : Int32)) g61 _ _ _ hP hS (lv_sub hl [1, 0] rfl) h
              · have h := ite_f hc h
                refine lv_aload_n hx hb dX6_straysFit_86 rfl (lv_at hl 0 rfl) ?_
                refine x_getr hx hb hts inX6 hown hK hP tF_0 (C := RX6) (F := TX6) (N := 5) rfl 0 (by decide) q168 rfl (20 + 15 * 0) rfl dX6_straysFit_87 ?_
                refine x_getr hx hb hts inX5 hown hK hP (tT_20 hz0) (C := RX5) (F := TX5) (N := 5) rfl 0 (by decide) q101 rfl (21 + 15 * 0) rfl dX6_straysFit_90 ?_
                refine lv_iload_n hx hb dX6_straysFit_93 rfl (lv_at hl 1 rfl) ?_
                obtain ⟨r94, hcal, h⟩ := bnd_s h
                refine x_VI (As := [.int v1]) hx hb hml hown hts hK hP hS (ct_X3_placeOf l D a cA cT hI g61 0 v1 hz0 r94 hcal) (tT_21 hz0) (C := RX3) (F := TX3) (N := 4) rfl (g_V q319 q225 q226 q37 q227) yd_X3_placeOf ⟨Nat.le_of_ble_eq_true rfl, Nat.le_of_ble_eq_true rfl⟩ [] rfl (Nat.le_of_ble_eq_true rfl) hl.1 ⟨Nat.le_refl _, Nat.le_refl _⟩ dX6_straysFit_94 (fun H locs hP hS => ?_)
                refine lv_istore_n (lv' := [(2, .int r94), (0, .ref (a 0)), (1, .int v1)]) hx hb dX6_straysFit_97 rfl hl (by decide) rfl (fun ls hl => ?_)
                refine lv_aload_n hx hb dX6_straysFit_98 rfl (lv_at hl 1 rfl) ?_
                refine x_getr hx hb hts inX6 hown hK hP tF_0 (C := RX6) (F := TX6) (N := 5) rfl 0 (by decide) q168 rfl (20 + 15 * 0) rfl dX6_straysFit_99 ?_
                refine lv_aload_n hx hb dX6_straysFit_102 rfl (lv_at hl 1 rfl) ?_
                refine x_getr hx hb hts inX6 hown hK hP tF_0 (C := RX6) (F := TX6) (N := 5) rfl 0 (by decide) q168 rfl (20 + 15 * 0) rfl dX6_straysFit_103 ?_
                refine x_getr hx hb hts inX5 hown hK hP (tT_20 hz0) (C := RX5) (F := TX5) (N := 5) rfl 0 (by decide) q101 rfl (21 + 15 * 0) rfl dX6_straysFit_106 ?_
                refine lv_iload_n hx hb dX6_straysFit_109 rfl (lv_at hl 2 rfl) ?_
                obtain ⟨r110, hcal, h⟩ := bnd_s h
                refine x_VI (As := [.int v1]) hx hb hml hown hts hK hP hS (ct_X3_keyOf l D a cA cT hI g61 0 v1 hz0 r110 hcal) (tT_21 hz0) (C := RX3) (F := TX3) (N := 4) rfl (g_V q314 q244 q245 q37 q246) yd_X3_keyOf ⟨Nat.le_of_ble_eq_true rfl, Nat.le_of_ble_eq_true rfl⟩ [.ref (a (20 + 15 * 0))] rfl (Nat.le_of_ble_eq_true rfl) hl.1 ⟨Nat.le_refl _, Nat.le_refl _⟩ dX6_straysFit_110 (fun H locs hP hS => ?_)
                obtain ⟨r113, hcal, h⟩ := bnd_s h
                refine x_VI (As := [.int r110]) hx hb hml hown hts hK hP hS (ct_X5_home l D a cA cT hI g61 0 r110 hz0 r113 hcal) (tT_20 hz0) (C := RX5) (F := TX5) (N := 5) rfl (g_V q320 q258 q259 q36 q260) yd_X5_home ⟨Nat.le_of_ble_eq_true rfl, Nat.le_of_ble_eq_true rfl⟩ [] rfl (Nat.le_of_ble_eq_true rfl) hl.1 ⟨Nat.le_refl _, Nat.le_refl _⟩ dX6_straysFit_113 (fun H locs hP hS => ?_)
                refine lv_istore_n (lv' := [(3, .int r113), (2, .int r94), (0, .ref (a 0)), (1, .int v1)]) hx hb dX6_straysFit_116 rfl hl (by decide) rfl (fun ls hl => ?_)
                refine lv_aload_n hx hb dX6_straysFit_117 rfl (lv_at hl 2 rfl) ?_
                refine x_getr hx hb hts inX6 hown hK hP tF_0 (C := RX6) (F := TX6) (N := 5) rfl 4 (by decide) q172 rfl 6 rfl dX6_straysFit_118 ?_
                refine lv_iload_n hx hb dX6_straysFit_121 rfl (lv_at hl 0 rfl) ?_
                obtain ⟨r122, hcal, h⟩ := bnd_s h
                refine x_VI (As := [.int r113]) hx hb hml hown hts hK hP hS (ct_X0_at l D a cA cT hI g61 7 62 r113 6 tF_6 tF_7 r122 hcal) tF_6 (C := RX0) (F := TX0) (N := 1) rfl (g_V q548 q229 q230 q38 q231) yd_X0_at ⟨Nat.le_of_ble_eq_true rfl, Nat.le_of_ble_eq_true rfl⟩ [] rfl (Nat.le_of_ble_eq_true rfl) hl.1 ⟨Nat.le_refl _, Nat.le_refl _⟩ dX6_straysFit_122 (fun H locs hP hS => ?_)
                refine lv_bipush (v := (30 : Int32)) hx hb dX6_straysFit_125 (by decide) ?_
                refine lv_icmp_lt (tgt := 132) hx hb dX6_straysFit_127 (by decide) (fun hc => ?_) (fun hc => ?_)
                · have h := ite_t hc h
                  refine lv_aload_n hx hb dX6_straysFit_132 rfl (lv_at hl 2 rfl) ?_
                  refine x_getr hx hb hts inX6 hown hK hP tF_0 (C := RX6) (F := TX6) (N := 5) rfl 4 (by decide) q172 rfl 6 rfl dX6_straysFit_133 ?_
                  refine lv_iload_n hx hb dX6_straysFit_136 rfl (lv_at hl 1 rfl) ?_
                  refine lv_aload_n hx hb dX6_straysFit_137 rfl (lv_at hl 2 rfl) ?_
                  refine x_getr hx hb hts inX6 hown hK hP tF_0 (C := RX6) (F := TX6) (N := 5) rfl 4 (by decide) q172 rfl 6 rfl dX6_straysFit_138 ?_
                  refine lv_iload_n hx hb dX6_straysFit_141 rfl (lv_at hl 1 rfl) ?_
                  obtain ⟨r142, hcal, h⟩ := bnd_s h
                  refine x_VI (As := [.int r94]) hx hb hml hown hts hK hP hS (ct_X0_at l D a cA cT hI g61 7 62 r94 6 tF_6 tF_7 r142 hcal) tF_6 (C := RX0) (F := TX0) (N := 1) rfl (g_V q548 q229 q230 q38 q231) yd_X0_at ⟨Nat.le_of_ble_eq_true rfl, Nat.le_of_ble_eq_true rfl⟩ [.int r94, .ref (a 6)] rfl (Nat.le_of_ble_eq_true rfl) hl.1 ⟨Nat.le_refl _, Nat.le_refl _⟩ dX6_straysFit_142 (fun H locs hP hS => ?_)
                  refine lv_iconst (v := (1 : Int32)) hx hb dX6_straysFit_145 (by decide) ?_
                  refine lv_isub hx hb dX6_straysFit_146 ?_
                  obtain ⟨g147, hcal, h⟩ := bnd_s h
                  refine x_VV (As := [.int r94, .int (r142 - (1 : Int32))]) hx hb hml hown hts hK hP hS (ct_X0_write l D a cA cT hI g61 7 62 r94 (r142 - (1 : Int32)) 6 tF_6 tF_7 g147 hcal) tF_6 (C := RX0) (F := TX0) (N := 1) rfl (g_V q549 q424 q425 q38 q426) yd_X0_write ⟨Nat.le_of_ble_eq_true rfl, Nat.le_of_ble_eq_true rfl⟩ [] rfl (Nat.le_of_ble_eq_true rfl) hl.1 ⟨Nat.le_refl _, Nat.le_refl _⟩ dX6_straysFit_147 (fun H locs hP hS => ?_)
                  refine lv_aload_n hx hb dX6_straysFit_150 rfl (lv_at hl 2 rfl) ?_
                  refine x_getr hx hb hts inX6 hown hK hP tF_0 (C := RX6) (F := TX6) (N := 5) rfl 4 (by decide) q172 rfl 6 rfl dX6_straysFit_151 ?_
                  refine lv_iload_n hx hb dX6_straysFit_154 rfl (lv_at hl 0 rfl) ?_
                  refine lv_aload_n hx hb dX6_straysFit_155 rfl (lv_at hl 2 rfl) ?_
                  refine x_getr hx hb hts inX6 hown hK hP tF_0 (C := RX6) (F := TX6) (N := 5) rfl 4 (by decide) q172 rfl 6 rfl dX6_straysFit_156 ?_
                  refine lv_iload_n hx hb dX6_straysFit_159 rfl (lv_at hl 0 rfl) ?_
                  obtain ⟨r160, hcal, h⟩ := bnd_s h
                  refine x_VI (As := [.int r113]) hx hb hml hown hts hK hP hS (ct_X0_at l D a cA cT hI g147 7 62 r113 6 tF_6 tF_7 r160 hcal) tF_6 (C := RX0) (F := TX0) (N := 1) rfl (g_V q548 q229 q230 q38 q231) yd_X0_at ⟨Nat.le_of_ble_eq_true rfl, Nat.le_of_ble_eq_true rfl⟩ [.int r113, .ref (a 6)] rfl (Nat.le_of_ble_eq_true rfl) hl.1 ⟨Nat.le_refl _, Nat.le_refl _⟩ dX6_straysFit_160 (fun H locs hP hS => ?_)
                  refine lv_iconst (v := (1 : Int32)) hx hb dX6_straysFit_163 (by decide) ?_
                  refine lv_iadd hx hb dX6_straysFit_164 ?_
                  obtain ⟨g165, hcal, h⟩ := bnd_s h
                  refine x_VV (As := [.int r113, .int (r160 + (1 : Int32))]) hx hb hml hown hts hK hP hS (ct_X0_write l D a cA cT hI g147 7 62 r113 (r160 + (1 : Int32)) 6 tF_6 tF_7 g165 hcal) tF_6 (C := RX0) (F := TX0) (N := 1) rfl (g_V q549 q424 q425 q38 q426) yd_X0_write ⟨Nat.le_of_ble_eq_true rfl, Nat.le_of_ble_eq_true rfl⟩ [] rfl (Nat.le_of_ble_eq_true rfl) hl.1 ⟨Nat.le_refl _, Nat.le_refl _⟩ dX6_straysFit_165 (fun H locs hP hS => ?_)
                  refine lv_iinc (v := (v1 + (1 : Int32))) (lv' := [(1, .int (v1 + (1 : Int32))), (3, .int r113), (2, .int r94), (0, .ref (a 0))]) hx hb dX6_straysFit_168 hl (k := 3) rfl rfl (by decide) rfl (fun ls hl => ?_)
                  refine lv_goto (tgt := 61) hx hb dX6_straysFit_171 (by decide) ?_
                  exact ih61 (v1 + (1 : Int32)) g165 _ _ _ hP hS (lv_sub hl [3, 0] rfl) h
                · have h := ite_f hc h
                  refine lv_iconst (v := (0 : Int32)) hx hb dX6_straysFit_130 (by decide) ?_
                  obtain ⟨rfl, rfl⟩ := Prod.mk.inj (Option.some.inj h)
                  exact hend _ _ _ _ dX6_straysFit_131 rfl hP hS
        exact K61 fuelN (0 : Int32) g9 _ _ _ hP hS (lv_sub hl [1, 0] rfl) h
      · have h := ite_f hc h
        refine lv_aload_n hx hb dX6_straysFit_23 rfl (lv_at hl 0 rfl) ?_
        refine x_getr hx hb hts inX6 hown hK hP tF_0 (C := RX6) (F := TX6) (N := 5) rfl 0 (by decide) q168 rfl (20 + 15 * 0) rfl dX6_straysFit_24 ?_
        refine x_getr hx hb hts inX5 hown hK hP (tT_20 hz0) (C := RX5) (F := TX5) (N := 5) rfl 0 (by decide) q101 rfl (21 + 15 * 0) rfl dX6_straysFit_27 ?_
        refine lv_iload_n hx hb dX6_straysFit_30 rfl (lv_at hl 1 rfl) ?_
        obtain ⟨r31, hcal, h⟩ := bnd_s h
        refine x_VI (As := [.int v1]) hx hb hml hown hts hK hP hS (ct_X3_placeOf l D a cA cT hI g9 0 v1 hz0 r31 hcal) (tT_21 hz0) (C := RX3) (F := TX3) (N := 4) rfl (g_V q319 q225 q226 q37 q227) yd_X3_placeOf ⟨Nat.le_of_ble_eq_true rfl, Nat.le_of_ble_eq_true rfl⟩ [] rfl (Nat.le_of_ble_eq_true rfl) hl.1 ⟨Nat.le_refl _, Nat.le_refl _⟩ dX6_straysFit_31 (fun H locs hP hS => ?_)
        refine lv_istore_n (lv' := [(2, .int r31), (0, .ref (a 0)), (1, .int v1)]) hx hb dX6_straysFit_34 rfl hl (by decide) rfl (fun ls hl => ?_)
        refine lv_aload_n hx hb dX6_straysFit_35 rfl (lv_at hl 1 rfl) ?_
        refine x_getr hx hb hts inX6 hown hK hP tF_0 (C := RX6) (F := TX6) (N := 5) rfl 4 (by decide) q172 rfl 6 rfl dX6_straysFit_36 ?_
        refine lv_iload_n hx hb dX6_straysFit_39 rfl (lv_at hl 0 rfl) ?_
        refine lv_aload_n hx hb dX6_straysFit_40 rfl (lv_at hl 1 rfl) ?_
        refine x_getr hx hb hts inX6 hown hK hP tF_0 (C := RX6) (F := TX6) (N := 5) rfl 4 (by decide) q172 rfl 6 rfl dX6_straysFit_41 ?_
        refine lv_iload_n hx hb dX6_straysFit_44 rfl (lv_at hl 0 rfl) ?_
        obtain ⟨r45, hcal, h⟩ := bnd_s h
        refine x_VI (As := [.int r31]) hx hb hml hown hts hK hP hS (ct_X0_at l D a cA cT hI g9 7 62 r31 6 tF_6 tF_7 r45 hcal) tF_6 (C := RX0) (F := TX0) (N := 1) rfl (g_V q548 q229 q230 q38 q231) yd_X0_at ⟨Nat.le_of_ble_eq_true rfl, Nat.le_of_ble_eq_true rfl⟩ [.int r31, .ref (a 6)] rfl (Nat.le_of_ble_eq_true rfl) hl.1 ⟨Nat.le_refl _, Nat.le_refl _⟩ dX6_straysFit_45 (fun H locs hP hS => ?_)
        refine lv_iconst (v := (1 : Int32)) hx hb dX6_straysFit_48 (by decide) ?_
        refine lv_iadd hx hb dX6_straysFit_49 ?_
        obtain ⟨g50, hcal, h⟩ := bnd_s h
        refine x_VV (As := [.int r31, .int (r45 + (1 : Int32))]) hx hb hml hown hts hK hP hS (ct_X0_write l D a cA cT hI g9 7 62 r31 (r45 + (1 : Int32)) 6 tF_6 tF_7 g50 hcal) tF_6 (C := RX0) (F := TX0) (N := 1) rfl (g_V q549 q424 q425 q38 q426) yd_X0_write ⟨Nat.le_of_ble_eq_true rfl, Nat.le_of_ble_eq_true rfl⟩ [] rfl (Nat.le_of_ble_eq_true rfl) hl.1 ⟨Nat.le_refl _, Nat.le_refl _⟩ dX6_straysFit_50 (fun H locs hP hS => ?_)
        refine lv_iinc (v := (v1 + (1 : Int32))) (lv' := [(1, .int (v1 + (1 : Int32))), (2, .int r31), (0, .ref (a 0))]) hx hb dX6_straysFit_53 hl (k := 2) rfl rfl (by decide) rfl (fun ls hl => ?_)
        refine lv_goto (tgt := 9) hx hb dX6_straysFit_56 (by decide) ?_
        exact ih9 (v1 + (1 : Int32)) g50 _ _ _ hP hS (lv_sub hl [2, 0] rfl) h
  exact K9 fuelN (0 : Int32) g4 _ _ _ hP hS (lv_sub hl [1, 0] rfl) h
set_option maxHeartbeats 4000000 in
set_option maxRecDepth 100000 in
theorem ct_X6_mend (l : Launch) (D : va_G) (a : Nat → Nat) (cA cT : ClassId) (hI : WI a TC) (g : MG)   (r : Int32) (g' : MG) (h : m_X6_mend g = some (r, g')) :
    CtI l D a cA cT TC yX6_mend (Cond.code yX6_mend cX6_mend 2 (some .int) :: lw_all) (rmm 6 130) [.ref (a 0)] g r g' := by
  refine CtI.of (by decide +kernel) (Nat.le_of_ble_eq_true rfl) ?_
  intro p e s m args below meth c Q ls hx hb hml hown hts hK hP hS hl hend
  have hl : lv_has ls 2 [(0, .ref (a 0))] := hl
  unfold m_X6_mend at h
  refine lv_aload_n hx hb dX6_mend_0 rfl (lv_at hl 0 rfl) ?_
  refine x_getr hx hb hts inX6 hown hK hP tF_0 (C := RX6) (F := TX6) (N := 5) rfl 0 (by decide) q168 rfl (20 + 15 * 0) rfl dX6_mend_1 ?_
  obtain ⟨r4, hcal, h⟩ := bnd_s h
  refine x_VI (As := []) hx hb hml hown hts hK hP hS (ct_X5_strays l D a cA cT hI g 0 hz0 r4 hcal) (tT_20 hz0) (C := RX5) (F := TX5) (N := 5) rfl (g_V q247 q248 q249 q36 q250) yd_X5_strays ⟨Nat.le_of_ble_eq_true rfl, Nat.le_of_ble_eq_true rfl⟩ [] rfl (Nat.le_of_ble_eq_true rfl) hl.1 ⟨Nat.le_refl _, Nat.le_refl _⟩ dX6_mend_4 (fun H locs hP hS => ?_)
  refine lv_istore_n (lv' := [(1, .int r4), (0, .ref (a 0))]) hx hb dX6_mend_7 rfl hl (by decide) rfl (fun ls hl => ?_)
  refine lv_iload_n hx hb dX6_mend_8 rfl (lv_at hl 0 rfl) ?_
  refine lv_if_ne (tgt := 16) hx hb dX6_mend_9 (by decide) (fun hc => ?_) (fun hc => ?_)
  · have h := ite_f hc h
    refine lv_aload_n hx hb dX6_mend_16 rfl (lv_at hl 1 rfl) ?_
    refine x_getr hx hb hts inX6 hown hK hP tF_0 (C := RX6) (F := TX6) (N := 5) rfl 0 (by decide) q168 rfl (20 + 15 * 0) rfl dX6_mend_17 ?_
    obtain ⟨r20, hcal, h⟩ := bnd_s h
    refine x_VI (As := []) hx hb hml hown hts hK hP hS (ct_X5_strayIsHomeless l D a cA cT hI g 0 hz0 r20 hcal) (tT_20 hz0) (C := RX5) (F := TX5) (N := 5) rfl (g_V q537 q538 q539 q36 q540) yd_X5_strayIsHomeless ⟨Nat.le_of_ble_eq_true rfl, Nat.le_of_ble_eq_true rfl⟩ [] rfl (Nat.le_of_ble_eq_true rfl) hl.1 ⟨Nat.le_refl _, Nat.le_refl _⟩ dX6_mend_20 (fun H locs hP hS => ?_)
    refine lv_if_eq (tgt := 30) hx hb dX6_mend_23 (by decide) (fun hc => ?_) (fun hc => ?_)
    · have h := ite_t hc h
      refine lv_aload_n hx hb dX6_mend_30 rfl (lv_at hl 1 rfl) ?_
      obtain ⟨r31, g31, hcal, h⟩ := bnd2_s h
      refine x_VI (As := []) hx hb hml hown hts hK hP hS (ct_X6_straysFit l D a cA cT hI g r31 g31 hcal) tF_0 (C := RX6) (F := TX6) (N := 5) rfl (g_V q541 q542 q7 q35 q543) yd_X6_straysFit ⟨Nat.le_of_ble_eq_true rfl, Nat.le_of_ble_eq_true rfl⟩ [] rfl (Nat.le_of_ble_eq_true rfl) hl.1 ⟨Nat.le_refl _, Nat.le_refl _⟩ dX6_mend_31 (fun H locs hP hS => ?_)
      refine lv_if_ne (tgt := 41) hx hb dX6_mend_34 (by decide) (fun hc => ?_) (fun hc => ?_)
      · have h := ite_f hc h
        refine lv_aload_n hx hb dX6_mend_41 rfl (lv_at hl 1 rfl) ?_
        refine x_getr hx hb hts inX6 hown hK hP tF_0 (C := RX6) (F := TX6) (N := 5) rfl 1 (by decide) q169 rfl 1 rfl dX6_mend_42 ?_
        refine lv_aload_n hx hb dX6_mend_45 rfl (lv_at hl 1 rfl) ?_
        refine x_getr hx hb hts inX6 hown hK hP tF_0 (C := RX6) (F := TX6) (N := 5) rfl 0 (by decide) q168 rfl (20 + 15 * 0) rfl dX6_mend_46 ?_
        obtain ⟨g49, hcal, h⟩ := bnd_s h
        refine x_VV (As := [.ref (a (20 + 15 * 0))]) hx hb hml hown hts hK hP hS (ct_X1_record l D a cA cT hI g31 0 hz0 g49 hcal) tF_1 (C := RX1) (F := TX1) (N := 4) rfl (g_V q412 q413 q414 q40 q415) yd_X1_record ⟨Nat.le_of_ble_eq_true rfl, Nat.le_of_ble_eq_true rfl⟩ [] rfl (Nat.le_of_ble_eq_true rfl) hl.1 ⟨Nat.le_refl _, Nat.le_refl _⟩ dX6_mend_49 (fun H locs hP hS => ?_)
        refine lv_aload_n hx hb dX6_mend_52 rfl (lv_at hl 1 rfl) ?_
        refine x_getr hx hb hts inX6 hown hK hP tF_0 (C := RX6) (F := TX6) (N := 5) rfl 0 (by decide) q168 rfl (20 + 15 * 0) rfl dX6_mend_53 ?_
        obtain ⟨g56, hcal, h⟩ := bnd_s h
        refine x_VV (As := []) hx hb hml hown hts hK hP hS (ct_X5_moveStrays l D a cA cT hI g49 0 hz0 g56 hcal) (tT_20 hz0) (C := RX5) (F := TX5) (N := 5) rfl (g_V q550 q551 q552 q36 q553) yd_X5_moveStrays ⟨Nat.le_of_ble_eq_true rfl, Nat.le_of_ble_eq_true rfl⟩ [] rfl (Nat.le_of_ble_eq_true rfl) hl.1 ⟨Nat.le_refl _, Nat.le_refl _⟩ dX6_mend_56 (fun H locs hP hS => ?_)
        refine lv_iload_n hx hb dX6_mend_59 rfl (lv_at hl 0 rfl) ?_
        obtain ⟨rfl, rfl⟩ := Prod.mk.inj (Option.some.inj h)
        exact hend _ _ _ _ dX6_mend_60 rfl hP hS
      · have h := ite_t hc h
        refine lv_sipush (v := (-1003 : Int32)) hx hb dX6_mend_37 (by decide) ?_
        obtain ⟨rfl, rfl⟩ := Prod.mk.inj (Option.some.inj h)
        exact hend _ _ _ _ dX6_mend_40 rfl hP hS
    · have h := ite_f hc h
      refine lv_sipush (v := (-1004 : Int32)) hx hb dX6_mend_26 (by decide) ?_
      obtain ⟨rfl, rfl⟩ := Prod.mk.inj (Option.some.inj h)
      exact hend _ _ _ _ dX6_mend_29 rfl hP hS
  · have h := ite_t hc h
    refine lv_sipush (v := (-1005 : Int32)) hx hb dX6_mend_12 (by decide) ?_
    obtain ⟨rfl, rfl⟩ := Prod.mk.inj (Option.some.inj h)
    exact hend _ _ _ _ dX6_mend_15 rfl hP hS
set_option maxHeartbeats 4000000 in
set_option maxRecDepth 100000 in
theorem ct_X6_set (l : Launch) (D : va_G) (a : Nat → Nat) (cA cT : ClassId) (hI : WI a TC) (g : MG) (x0 : Int32) (x1 : Int32)  (r : Int32) (g' : MG) (h : m_X6_set g x0 x1 = some (r, g')) :
    CtI l D a cA cT TC yX6_set (Cond.code yX6_set cX6_set 4 (some .int) :: lw_all) (rmm 5 111) [.ref (a 0), .int x0, .int x1] g r g' := by
  refine CtI.of (by decide +kernel) (Nat.le_of_ble_eq_true rfl) ?_
  intro p e s m args below meth c Q ls hx hb hml hown hts hK hP hS hl hend
  have hl : lv_has ls 4 [(0, .ref (a 0)), (1, .int x0), (2, .int x1)] := hl
  unfold m_X6_set at h
  refine lv_iload_n hx hb dX6_set_0 rfl (lv_at hl 1 rfl) ?_
  refine lv_if_lt (tgt := 26) hx hb dX6_set_1 (by decide) (fun hc => ?_) (fun hc => ?_)
  · have h := ite_t hc h
    refine lv_sipush (v := (-1002 : Int32)) hx hb dX6_set_26 (by decide) ?_
    obtain ⟨rfl, rfl⟩ := Prod.mk.inj (Option.some.inj h)
    exact hend _ _ _ _ dX6_set_29 rfl hP hS
  · have h := ite_f hc h
    refine lv_iload_n hx hb dX6_set_4 rfl (lv_at hl 1 rfl) ?_
    refine lv_iconst (v := (1 : Int32)) hx hb dX6_set_5 (by decide) ?_
    refine lv_icmp_gt (tgt := 26) hx hb dX6_set_6 (by decide) (fun hc => ?_) (fun hc => ?_)
    · have h := ite_t hc h
      refine lv_sipush (v := (-1002 : Int32)) hx hb dX6_set_26 (by decide) ?_
      obtain ⟨rfl, rfl⟩ := Prod.mk.inj (Option.some.inj h)
      exact hend _ _ _ _ dX6_set_29 rfl hP hS
    · have h := ite_f hc h
      refine lv_iload_n hx hb dX6_set_9 rfl (lv_at hl 2 rfl) ?_
      refine lv_if_lt (tgt := 26) hx hb dX6_set_10 (by decide) (fun hc => ?_) (fun hc => ?_)
      · have h := ite_t hc h
        refine lv_sipush (v := (-1002 : Int32)) hx hb dX6_set_26 (by decide) ?_
        obtain ⟨rfl, rfl⟩ := Prod.mk.inj (Option.some.inj h)
        exact hend _ _ _ _ dX6_set_29 rfl hP hS
      · have h := ite_f hc h
        refine lv_iload_n hx hb dX6_set_13 rfl (lv_at hl 2 rfl) ?_
        refine lv_iload_n hx hb dX6_set_14 rfl (lv_at hl 1 rfl) ?_
        refine lv_if_ne (tgt := 22) hx hb dX6_set_15 (by decide) (fun hc => ?_) (fun hc => ?_)
        · have h := ite_f hc h
          refine lv_iconst (v := (1 : Int32)) hx hb dX6_set_22 (by decide) ?_
          refine lv_icmp_le (tgt := 30) hx hb dX6_set_23 (by decide) (fun hc => ?_) (fun hc => ?_)
          · have h := ite_t hc h
            refine lv_iload_n hx hb dX6_set_30 rfl (lv_at hl 1 rfl) ?_
            refine lv_if_ne (tgt := 44) hx hb dX6_set_31 (by decide) (fun hc => ?_) (fun hc => ?_)
            · have h := ite_f hc h
              refine lv_aload_n hx hb dX6_set_44 rfl (lv_at hl 0 rfl) ?_
              refine x_getr hx hb hts inX6 hown hK hP tF_0 (C := RX6) (F := TX6) (N := 5) rfl 0 (by decide) q168 rfl (20 + 15 * 0) rfl dX6_set_45 ?_
              refine x_get hx hb hts inX5 hown hK hP (tT_20 hz0) (C := RX5) (F := TX5) (N := 5) rfl 4 (by decide) q109 rfl rfl dX6_set_48 ?_
              refine lv_istore_n (lv' := [(3, .int (g.1 (20 + 15 * 0) 4)), (0, .ref (a 0)), (1, .int x0), (2, .int x1)]) hx hb dX6_set_51 rfl hl (by decide) rfl (fun ls hl => ?_)
              refine lv_iload_n hx hb dX6_set_52 rfl (lv_at hl 0 rfl) ?_
              refine lv_iload_n hx hb dX6_set_53 rfl (lv_at hl 3 rfl) ?_
              refine lv_icmp_ne (tgt := 61) hx hb dX6_set_54 (by decide) (fun hc => ?_) (fun hc => ?_)
              · have h := ite_f hc h
                refine lv_aload_n hx hb dX6_set_61 rfl (lv_at hl 1 rfl) ?_
                refine x_getr hx hb hts inX6 hown hK hP tF_0 (C := RX6) (F := TX6) (N := 5) rfl 1 (by decide) q169 rfl 1 rfl dX6_set_62 ?_
                refine lv_aload_n hx hb dX6_set_65 rfl (lv_at hl 1 rfl) ?_
                refine x_getr hx hb hts inX6 hown hK hP tF_0 (C := RX6) (F := TX6) (N := 5) rfl 0 (by decide) q168 rfl (20 + 15 * 0) rfl dX6_set_66 ?_
                obtain ⟨g69, hcal, h⟩ := bnd_s h
                refine x_VV (As := [.ref (a (20 + 15 * 0))]) hx hb hml hown hts hK hP hS (ct_X1_record l D a cA cT hI g 0 hz0 g69 hcal) tF_1 (C := RX1) (F := TX1) (N := 4) rfl (g_V q412 q413 q414 q40 q415) yd_X1_record ⟨Nat.le_of_ble_eq_true rfl, Nat.le_of_ble_eq_true rfl⟩ [] rfl (Nat.le_of_ble_eq_true rfl) hl.1 ⟨Nat.le_refl _, Nat.le_refl _⟩ dX6_set_69 (fun H locs hP hS => ?_)
                refine lv_iload_n hx hb dX6_set_72 rfl (lv_at hl 2 rfl) ?_
                refine lv_if_ne (tgt := 87) hx hb dX6_set_73 (by decide) (fun hc => ?_) (fun hc => ?_)
                · have h := ite_f hc h
                  refine lv_aload_n hx hb dX6_set_87 rfl (lv_at hl 1 rfl) ?_
                  refine x_getr hx hb hts inX6 hown hK hP tF_0 (C := RX6) (F := TX6) (N := 5) rfl 0 (by decide) q168 rfl (20 + 15 * 0) rfl dX6_set_88 ?_
                  refine lv_iload_n hx hb dX6_set_91 rfl (lv_at hl 3 rfl) ?_
                  refine x_put hx hb hts inX5 tyX5 tyX5_ok nmX5 hown hK hI hP hS (tT_20 hz0) (C := RX5) (F := TX5) (N := 5) rfl 4 (by decide) q109 rfl rfl rfl rfl rfl dX6_set_92 (fun H locs hP hS => ?_)
                  refine lv_iload_n hx hb dX6_set_95 rfl (lv_at hl 0 rfl) ?_
                  obtain ⟨rfl, rfl⟩ := Prod.mk.inj (Option.some.inj h)
                  exact hend _ _ _ _ dX6_set_96 rfl hP hS
                · have h := ite_t hc h
                  refine lv_aload_n hx hb dX6_set_76 rfl (lv_at hl 1 rfl) ?_
                  refine x_getr hx hb hts inX6 hown hK hP tF_0 (C := RX6) (F := TX6) (N := 5) rfl 0 (by decide) q168 rfl (20 + 15 * 0) rfl dX6_set_77 ?_
                  refine lv_iload_n hx hb dX6_set_80 rfl (lv_at hl 3 rfl) ?_
                  refine x_put hx hb hts inX5 tyX5 tyX5_ok nmX5 hown hK hI hP hS (tT_20 hz0) (C := RX5) (F := TX5) (N := 5) rfl 3 (by decide) q107 rfl rfl rfl rfl rfl dX6_set_81 (fun H locs hP hS => ?_)
                  refine lv_goto (tgt := 95) hx hb dX6_set_84 (by decide) ?_
                  refine lv_iload_n hx hb dX6_set_95 rfl (lv_at hl 0 rfl) ?_
                  obtain ⟨rfl, rfl⟩ := Prod.mk.inj (Option.some.inj h)
                  exact hend _ _ _ _ dX6_set_96 rfl hP hS
              · have h := ite_t hc h
                refine lv_sipush (v := (-1005 : Int32)) hx hb dX6_set_57 (by decide) ?_
                obtain ⟨rfl, rfl⟩ := Prod.mk.inj (Option.some.inj h)
                exact hend _ _ _ _ dX6_set_60 rfl hP hS
            · have h := ite_t hc h
              refine lv_aload_n hx hb dX6_set_34 rfl (lv_at hl 0 rfl) ?_
              refine x_getr hx hb hts inX6 hown hK hP tF_0 (C := RX6) (F := TX6) (N := 5) rfl 0 (by decide) q168 rfl (20 + 15 * 0) rfl dX6_set_35 ?_
              refine x_get hx hb hts inX5 hown hK hP (tT_20 hz0) (C := RX5) (F := TX5) (N := 5) rfl 3 (by decide) q107 rfl rfl dX6_set_38 ?_
              refine lv_goto (tgt := 51) hx hb dX6_set_41 (by decide) ?_
              refine lv_istore_n (lv' := [(3, .int (g.1 (20 + 15 * 0) 3)), (0, .ref (a 0)), (1, .int x0), (2, .int x1)]) hx hb dX6_set_51 rfl hl (by decide) rfl (fun ls hl => ?_)
              refine lv_iload_n hx hb dX6_set_52 rfl (lv_at hl 0 rfl) ?_
              refine lv_iload_n hx hb dX6_set_53 rfl (lv_at hl 3 rfl) ?_
              refine lv_icmp_ne (tgt := 61) hx hb dX6_set_54 (by decide) (fun hc => ?_) (fun hc => ?_)
              · have h := ite_f hc h
                refine lv_aload_n hx hb dX6_set_61 rfl (lv_at hl 1 rfl) ?_
                refine x_getr hx hb hts inX6 hown hK hP tF_0 (C := RX6) (F := TX6) (N := 5) rfl 1 (by decide) q169 rfl 1 rfl dX6_set_62 ?_
                refine lv_aload_n hx hb dX6_set_65 rfl (lv_at hl 1 rfl) ?_
                refine x_getr hx hb hts inX6 hown hK hP tF_0 (C := RX6) (F := TX6) (N := 5) rfl 0 (by decide) q168 rfl (20 + 15 * 0) rfl dX6_set_66 ?_
                obtain ⟨g69, hcal, h⟩ := bnd_s h
                refine x_VV (As := [.ref (a (20 + 15 * 0))]) hx hb hml hown hts hK hP hS (ct_X1_record l D a cA cT hI g 0 hz0 g69 hcal) tF_1 (C := RX1) (F := TX1) (N := 4) rfl (g_V q412 q413 q414 q40 q415) yd_X1_record ⟨Nat.le_of_ble_eq_true rfl, Nat.le_of_ble_eq_true rfl⟩ [] rfl (Nat.le_of_ble_eq_true rfl) hl.1 ⟨Nat.le_refl _, Nat.le_refl _⟩ dX6_set_69 (fun H locs hP hS => ?_)
                refine lv_iload_n hx hb dX6_set_72 rfl (lv_at hl 2 rfl) ?_
                refine lv_if_ne (tgt := 87) hx hb dX6_set_73 (by decide) (fun hc => ?_) (fun hc => ?_)
                · have h := ite_f hc h
                  refine lv_aload_n hx hb dX6_set_87 rfl (lv_at hl 1 rfl) ?_
                  refine x_getr hx hb hts inX6 hown hK hP tF_0 (C := RX6) (F := TX6) (N := 5) rfl 0 (by decide) q168 rfl (20 + 15 * 0) rfl dX6_set_88 ?_
                  refine lv_iload_n hx hb dX6_set_91 rfl (lv_at hl 3 rfl) ?_
                  refine x_put hx hb hts inX5 tyX5 tyX5_ok nmX5 hown hK hI hP hS (tT_20 hz0) (C := RX5) (F := TX5) (N := 5) rfl 4 (by decide) q109 rfl rfl rfl rfl rfl dX6_set_92 (fun H locs hP hS => ?_)
                  refine lv_iload_n hx hb dX6_set_95 rfl (lv_at hl 0 rfl) ?_
                  obtain ⟨rfl, rfl⟩ := Prod.mk.inj (Option.some.inj h)
                  exact hend _ _ _ _ dX6_set_96 rfl hP hS
                · have h := ite_t hc h
                  refine lv_aload_n hx hb dX6_set_76 rfl (lv_at hl 1 rfl) ?_
                  refine x_getr hx hb hts inX6 hown hK hP tF_0 (C := RX6) (F := TX6) (N := 5) rfl 0 (by decide) q168 rfl (20 + 15 * 0) rfl dX6_set_77 ?_
                  refine lv_iload_n hx hb dX6_set_80 rfl (lv_at hl 3 rfl) ?_
                  refine x_put hx hb hts inX5 tyX5 tyX5_ok nmX5 hown hK hI hP hS (tT_20 hz0) (C := RX5) (F := TX5) (N := 5) rfl 3 (by decide) q107 rfl rfl rfl rfl rfl dX6_set_81 (fun H locs hP hS => ?_)
                  refine lv_goto (tgt := 95) hx hb dX6_set_84 (by decide) ?_
                  refine lv_iload_n hx hb dX6_set_95 rfl (lv_at hl 0 rfl) ?_
                  obtain ⟨rfl, rfl⟩ := Prod.mk.inj (Option.some.inj h)
                  exact hend _ _ _ _ dX6_set_96 rfl hP hS
              · have h := ite_t hc h
                refine lv_sipush (v := (-1005 : Int32)) hx hb dX6_set_57 (by decide) ?_
                obtain ⟨rfl, rfl⟩ := Prod.mk.inj (Option.some.inj h)
                exact hend _ _ _ _ dX6_set_60 rfl hP hS
          · have h := ite_f hc h
            refine lv_sipush (v := (-1002 : Int32)) hx hb dX6_set_26 (by decide) ?_
            obtain ⟨rfl, rfl⟩ := Prod.mk.inj (Option.some.inj h)
            exact hend _ _ _ _ dX6_set_29 rfl hP hS
        · have h := ite_t hc h
          refine lv_iconst (v := (2 : Int32)) hx hb dX6_set_18 (by decide) ?_
          refine lv_goto (tgt := 23) hx hb dX6_set_19 (by decide) ?_
          refine lv_icmp_le (tgt := 30) hx hb dX6_set_23 (by decide) (fun hc => ?_) (fun hc => ?_)
          · have h := ite_t hc h
            refine lv_iload_n hx hb dX6_set_30 rfl (lv_at hl 1 rfl) ?_
            refine lv_if_ne (tgt := 44) hx hb dX6_set_31 (by decide) (fun hc => ?_) (fun hc => ?_)
            · have h := ite_f hc h
              refine lv_aload_n hx hb dX6_set_44 rfl (lv_at hl 0 rfl) ?_
              refine x_getr hx hb hts inX6 hown hK hP tF_0 (C := RX6) (F := TX6) (N := 5) rfl 0 (by decide) q168 rfl (20 + 15 * 0) rfl dX6_set_45 ?_
              refine x_get hx hb hts inX5 hown hK hP (tT_20 hz0) (C := RX5) (F := TX5) (N := 5) rfl 4 (by decide) q109 rfl rfl dX6_set_48 ?_
              refine lv_istore_n (lv' := [(3, .int (g.1 (20 + 15 * 0) 4)), (0, .ref (a 0)), (1, .int x0), (2, .int x1)]) hx hb dX6_set_51 rfl hl (by decide) rfl (fun ls hl => ?_)
              refine lv_iload_n hx hb dX6_set_52 rfl (lv_at hl 0 rfl) ?_
              refine lv_iload_n hx hb dX6_set_53 rfl (lv_at hl 3 rfl) ?_
              refine lv_icmp_ne (tgt := 61) hx hb dX6_set_54 (by decide) (fun hc => ?_) (fun hc => ?_)
              · have h := ite_f hc h
                refine lv_aload_n hx hb dX6_set_61 rfl (lv_at hl 1 rfl) ?_
                refine x_getr hx hb hts inX6 hown hK hP tF_0 (C := RX6) (F := TX6) (N := 5) rfl 1 (by decide) q169 rfl 1 rfl dX6_set_62 ?_
                refine lv_aload_n hx hb dX6_set_65 rfl (lv_at hl 1 rfl) ?_
                refine x_getr hx hb hts inX6 hown hK hP tF_0 (C := RX6) (F := TX6) (N := 5) rfl 0 (by decide) q168 rfl (20 + 15 * 0) rfl dX6_set_66 ?_
                obtain ⟨g69, hcal, h⟩ := bnd_s h
                refine x_VV (As := [.ref (a (20 + 15 * 0))]) hx hb hml hown hts hK hP hS (ct_X1_record l D a cA cT hI g 0 hz0 g69 hcal) tF_1 (C := RX1) (F := TX1) (N := 4) rfl (g_V q412 q413 q414 q40 q415) yd_X1_record ⟨Nat.le_of_ble_eq_true rfl, Nat.le_of_ble_eq_true rfl⟩ [] rfl (Nat.le_of_ble_eq_true rfl) hl.1 ⟨Nat.le_refl _, Nat.le_refl _⟩ dX6_set_69 (fun H locs hP hS => ?_)
                refine lv_iload_n hx hb dX6_set_72 rfl (lv_at hl 2 rfl) ?_
                refine lv_if_ne (tgt := 87) hx hb dX6_set_73 (by decide) (fun hc => ?_) (fun hc => ?_)
                · have h := ite_f hc h
                  refine lv_aload_n hx hb dX6_set_87 rfl (lv_at hl 1 rfl) ?_
                  refine x_getr hx hb hts inX6 hown hK hP tF_0 (C := RX6) (F := TX6) (N := 5) rfl 0 (by decide) q168 rfl (20 + 15 * 0) rfl dX6_set_88 ?_
                  refine lv_iload_n hx hb dX6_set_91 rfl (lv_at hl 3 rfl) ?_
                  refine x_put hx hb hts inX5 tyX5 tyX5_ok nmX5 hown hK hI hP hS (tT_20 hz0) (C := RX5) (F := TX5) (N := 5) rfl 4 (by decide) q109 rfl rfl rfl rfl rfl dX6_set_92 (fun H locs hP hS => ?_)
                  refine lv_iload_n hx hb dX6_set_95 rfl (lv_at hl 0 rfl) ?_
                  obtain ⟨rfl, rfl⟩ := Prod.mk.inj (Option.some.inj h)
                  exact hend _ _ _ _ dX6_set_96 rfl hP hS
                · have h := ite_t hc h
                  refine lv_aload_n hx hb dX6_set_76 rfl (lv_at hl 1 rfl) ?_
                  refine x_getr hx hb hts inX6 hown hK hP tF_0 (C := RX6) (F := TX6) (N := 5) rfl 0 (by decide) q168 rfl (20 + 15 * 0) rfl dX6_set_77 ?_
                  refine lv_iload_n hx hb dX6_set_80 rfl (lv_at hl 3 rfl) ?_
                  refine x_put hx hb hts inX5 tyX5 tyX5_ok nmX5 hown hK hI hP hS (tT_20 hz0) (C := RX5) (F := TX5) (N := 5) rfl 3 (by decide) q107 rfl rfl rfl rfl rfl dX6_set_81 (fun H locs hP hS => ?_)
                  refine lv_goto (tgt := 95) hx hb dX6_set_84 (by decide) ?_
                  refine lv_iload_n hx hb dX6_set_95 rfl (lv_at hl 0 rfl) ?_
                  obtain ⟨rfl, rfl⟩ := Prod.mk.inj (Option.some.inj h)
                  exact hend _ _ _ _ dX6_set_96 rfl hP hS
              · have h := ite_t hc h
                refine lv_sipush (v := (-1005 : Int32)) hx hb dX6_set_57 (by decide) ?_
                obtain ⟨rfl, rfl⟩ := Prod.mk.inj (Option.some.inj h)
                exact hend _ _ _ _ dX6_set_60 rfl hP hS
            · have h := ite_t hc h
              refine lv_aload_n hx hb dX6_set_34 rfl (lv_at hl 0 rfl) ?_
              refine x_getr hx hb hts inX6 hown hK hP tF_0 (C := RX6) (F := TX6) (N := 5) rfl 0 (by decide) q168 rfl (20 + 15 * 0) rfl dX6_set_35 ?_
              refine x_get hx hb hts inX5 hown hK hP (tT_20 hz0) (C := RX5) (F := TX5) (N := 5) rfl 3 (by decide) q107 rfl rfl dX6_set_38 ?_
              refine lv_goto (tgt := 51) hx hb dX6_set_41 (by decide) ?_
              refine lv_istore_n (lv' := [(3, .int (g.1 (20 + 15 * 0) 3)), (0, .ref (a 0)), (1, .int x0), (2, .int x1)]) hx hb dX6_set_51 rfl hl (by decide) rfl (fun ls hl => ?_)
              refine lv_iload_n hx hb dX6_set_52 rfl (lv_at hl 0 rfl) ?_
              refine lv_iload_n hx hb dX6_set_53 rfl (lv_at hl 3 rfl) ?_
              refine lv_icmp_ne (tgt := 61) hx hb dX6_set_54 (by decide) (fun hc => ?_) (fun hc => ?_)
              · have h := ite_f hc h
                refine lv_aload_n hx hb dX6_set_61 rfl (lv_at hl 1 rfl) ?_
                refine x_getr hx hb hts inX6 hown hK hP tF_0 (C := RX6) (F := TX6) (N := 5) rfl 1 (by decide) q169 rfl 1 rfl dX6_set_62 ?_
                refine lv_aload_n hx hb dX6_set_65 rfl (lv_at hl 1 rfl) ?_
                refine x_getr hx hb hts inX6 hown hK hP tF_0 (C := RX6) (F := TX6) (N := 5) rfl 0 (by decide) q168 rfl (20 + 15 * 0) rfl dX6_set_66 ?_
                obtain ⟨g69, hcal, h⟩ := bnd_s h
                refine x_VV (As := [.ref (a (20 + 15 * 0))]) hx hb hml hown hts hK hP hS (ct_X1_record l D a cA cT hI g 0 hz0 g69 hcal) tF_1 (C := RX1) (F := TX1) (N := 4) rfl (g_V q412 q413 q414 q40 q415) yd_X1_record ⟨Nat.le_of_ble_eq_true rfl, Nat.le_of_ble_eq_true rfl⟩ [] rfl (Nat.le_of_ble_eq_true rfl) hl.1 ⟨Nat.le_refl _, Nat.le_refl _⟩ dX6_set_69 (fun H locs hP hS => ?_)
                refine lv_iload_n hx hb dX6_set_72 rfl (lv_at hl 2 rfl) ?_
                refine lv_if_ne (tgt := 87) hx hb dX6_set_73 (by decide) (fun hc => ?_) (fun hc => ?_)
                · have h := ite_f hc h
                  refine lv_aload_n hx hb dX6_set_87 rfl (lv_at hl 1 rfl) ?_
                  refine x_getr hx hb hts inX6 hown hK hP tF_0 (C := RX6) (F := TX6) (N := 5) rfl 0 (by decide) q168 rfl (20 + 15 * 0) rfl dX6_set_88 ?_
                  refine lv_iload_n hx hb dX6_set_91 rfl (lv_at hl 3 rfl) ?_
                  refine x_put hx hb hts inX5 tyX5 tyX5_ok nmX5 hown hK hI hP hS (tT_20 hz0) (C := RX5) (F := TX5) (N := 5) rfl 4 (by decide) q109 rfl rfl rfl rfl rfl dX6_set_92 (fun H locs hP hS => ?_)
                  refine lv_iload_n hx hb dX6_set_95 rfl (lv_at hl 0 rfl) ?_
                  obtain ⟨rfl, rfl⟩ := Prod.mk.inj (Option.some.inj h)
                  exact hend _ _ _ _ dX6_set_96 rfl hP hS
                · have h := ite_t hc h
                  refine lv_aload_n hx hb dX6_set_76 rfl (lv_at hl 1 rfl) ?_
                  refine x_getr hx hb hts inX6 hown hK hP tF_0 (C := RX6) (F := TX6) (N := 5) rfl 0 (by decide) q168 rfl (20 + 15 * 0) rfl dX6_set_77 ?_
                  refine lv_iload_n hx hb dX6_set_80 rfl (lv_at hl 3 rfl) ?_
                  refine x_put hx hb hts inX5 tyX5 tyX5_ok nmX5 hown hK hI hP hS (tT_20 hz0) (C := RX5) (F := TX5) (N := 5) rfl 3 (by decide) q107 rfl rfl rfl rfl rfl dX6_set_81 (fun H locs hP hS => ?_)
                  refine lv_goto (tgt := 95) hx hb dX6_set_84 (by decide) ?_
                  refine lv_iload_n hx hb dX6_set_95 rfl (lv_at hl 0 rfl) ?_
                  obtain ⟨rfl, rfl⟩ := Prod.mk.inj (Option.some.inj h)
                  exact hend _ _ _ _ dX6_set_96 rfl hP hS
              · have h := ite_t hc h
                refine lv_sipush (v := (-1005 : Int32)) hx hb dX6_set_57 (by decide) ?_
                obtain ⟨rfl, rfl⟩ := Prod.mk.inj (Option.some.inj h)
                exact hend _ _ _ _ dX6_set_60 rfl hP hS
          · have h := ite_f hc h
            refine lv_sipush (v := (-1002 : Int32)) hx hb dX6_set_26 (by decide) ?_
            obtain ⟨rfl, rfl⟩ := Prod.mk.inj (Option.some.inj h)
            exact hend _ _ _ _ dX6_set_29 rfl hP hS
set_option maxHeartbeats 4000000 in
set_option maxRecDepth 100000 in
theorem ct_X6_type (l : Launch) (D : va_G) (a : Nat → Nat) (cA cT : ClassId) (hI : WI a TC) (g : MG) (x0 : Int32)  (r : Int32) (g' : MG) (h : m_X6_type g x0 = some (r, g')) :
    CtI l D a cA cT TC yX6_type (Cond.code yX6_type cX6_type 2 (some .int) :: lw_all) (rmm 5 107) [.ref (a 0), .int x0] g r g' := by
  refine CtI.of (by decide +kernel) (Nat.le_of_ble_eq_true rfl) ?_
  intro p e s m args below meth c Q ls hx hb hml hown hts hK hP hS hl hend
  have hl : lv_has ls 2 [(0, .ref (a 0)), (1, .int x0)] := hl
  unfold m_X6_type at h
  refine lv_aload_n hx hb dX6_type_0 rfl (lv_at hl 0 rfl) ?_
  refine x_getr hx hb hts inX6 hown hK hP tF_0 (C := RX6) (F := TX6) (N := 5) rfl 2 (by decide) q170 rfl 3 rfl dX6_type_1 ?_
  refine x_get hx hb hts inX2 hown hK hP tF_3 (C := RX2) (F := TX2) (N := 14) rfl 0 (by decide) q138 rfl rfl dX6_type_4 ?_
  refine lv_bipush (v := (60 : Int32)) hx hb dX6_type_7 (by decide) ?_
  refine lv_icmp_lt (tgt := 16) hx hb dX6_type_9 (by decide) (fun hc => ?_) (fun hc => ?_)
  · have h := ite_t hc h
    refine lv_aload_n hx hb dX6_type_16 rfl (lv_at hl 0 rfl) ?_
    refine x_getr hx hb hts inX6 hown hK hP tF_0 (C := RX6) (F := TX6) (N := 5) rfl 2 (by decide) q170 rfl 3 rfl dX6_type_17 ?_
    refine lv_iload_n hx hb dX6_type_20 rfl (lv_at hl 1 rfl) ?_
    obtain ⟨g21, hcal, h⟩ := bnd_s h
    refine x_VV (As := [.int x0]) hx hb hml hown hts hK hP hS (ct_X2_read l D a cA cT hI g x0 g21 hcal) tF_3 (C := RX2) (F := TX2) (N := 14) rfl (g_V q599 q600 q601 q41 q602) yd_X2_read ⟨Nat.le_of_ble_eq_true rfl, Nat.le_of_ble_eq_true rfl⟩ [] rfl (Nat.le_of_ble_eq_true rfl) hl.1 ⟨Nat.le_refl _, Nat.le_refl _⟩ dX6_type_21 (fun H locs hP hS => ?_)
    refine lv_aload_n hx hb dX6_type_24 rfl (lv_at hl 0 rfl) ?_
    refine x_getr hx hb hts inX6 hown hK hP tF_0 (C := RX6) (F := TX6) (N := 5) rfl 2 (by decide) q170 rfl 3 rfl dX6_type_25 ?_
    refine x_get hx hb hts inX2 hown hK hP tF_3 (C := RX2) (F := TX2) (N := 14) rfl 0 (by decide) q138 rfl rfl dX6_type_28 ?_
    obtain ⟨rfl, rfl⟩ := Prod.mk.inj (Option.some.inj h)
    exact hend _ _ _ _ dX6_type_31 rfl hP hS
  · have h := ite_f hc h
    refine lv_sipush (v := (-1003 : Int32)) hx hb dX6_type_12 (by decide) ?_
    obtain ⟨rfl, rfl⟩ := Prod.mk.inj (Option.some.inj h)
    exact hend _ _ _ _ dX6_type_15 rfl hP hS
set_option maxHeartbeats 4000000 in
set_option maxRecDepth 100000 in
theorem ct_X6_clearText (l : Launch) (D : va_G) (a : Nat → Nat) (cA cT : ClassId) (hI : WI a TC) (g : MG)   (r : Int32) (g' : MG) (h : m_X6_clearText g = some (r, g')) :
    CtI l D a cA cT TC yX6_clearText (Cond.code yX6_clearText cX6_clearText 2 (some .int) :: lw_all) (rmm 1 20) [.ref (a 0)] g r g' := by
  refine CtI.of (by decide +kernel) (Nat.le_of_ble_eq_true rfl) ?_
  intro p e s m args below meth c Q ls hx hb hml hown hts hK hP hS hl hend
  have hl : lv_has ls 2 [(0, .ref (a 0))] := hl
  unfold m_X6_clearText at h
  refine lv_aload_n hx hb dX6_clearText_0 rfl (lv_at hl 0 rfl) ?_
  refine x_getr hx hb hts inX6 hown hK hP tF_0 (C := RX6) (F := TX6) (N := 5) rfl 2 (by decide) q170 rfl 3 rfl dX6_clearText_1 ?_
  refine x_get hx hb hts inX2 hown hK hP tF_3 (C := RX2) (F := TX2) (N := 14) rfl 0 (by decide) q138 rfl rfl dX6_clearText_4 ?_
  refine lv_istore_n (lv' := [(1, .int (g.1 3 0)), (0, .ref (a 0))]) hx hb dX6_clearText_7 rfl hl (by decide) rfl (fun ls hl => ?_)
  refine lv_aload_n hx hb dX6_clearText_8 rfl (lv_at hl 1 rfl) ?_
  refine x_getr hx hb hts inX6 hown hK hP tF_0 (C := RX6) (F := TX6) (N := 5) rfl 2 (by decide) q170 rfl 3 rfl dX6_clearText_9 ?_
  obtain ⟨g12, hcal, h⟩ := bnd_s h
  refine x_VV (As := []) hx hb hml hown hts hK hP hS (ct_X2_forget l D a cA cT hI g g12 hcal) tF_3 (C := RX2) (F := TX2) (N := 14) rfl (g_V q591 q592 q593 q41 q594) yd_X2_forget ⟨Nat.le_of_ble_eq_true rfl, Nat.le_of_ble_eq_true rfl⟩ [] rfl (Nat.le_of_ble_eq_true rfl) hl.1 ⟨Nat.le_refl _, Nat.le_refl _⟩ dX6_clearText_12 (fun H locs hP hS => ?_)
  refine lv_iload_n hx hb dX6_clearText_15 rfl (lv_at hl 0 rfl) ?_
  obtain ⟨rfl, rfl⟩ := Prod.mk.inj (Option.some.inj h)
  exact hend _ _ _ _ dX6_clearText_16 rfl hP hS
set_option maxHeartbeats 4000000 in
set_option maxRecDepth 100000 in
theorem ct_X6_undo (l : Launch) (D : va_G) (a : Nat → Nat) (cA cT : ClassId) (hI : WI a TC) (g : MG)   (r : Int32) (g' : MG) (h : m_X6_undo g = some (r, g')) :
    CtI l D a cA cT TC yX6_undo (Cond.code yX6_undo cX6_undo 1 (some .int) :: lw_all) (rmm 5 111) [.ref (a 0)] g r g' := by
  refine CtI.of (by decide +kernel) (Nat.le_of_ble_eq_true rfl) ?_
  intro p e s m args below meth c Q ls hx hb hml hown hts hK hP hS hl hend
  have hl : lv_has ls 1 [(0, .ref (a 0))] := hl
  unfold m_X6_undo at h
  refine lv_aload_n hx hb dX6_undo_0 rfl (lv_at hl 0 rfl) ?_
  refine x_getr hx hb hts inX6 hown hK hP tF_0 (C := RX6) (F := TX6) (N := 5) rfl 1 (by decide) q169 rfl 1 rfl dX6_undo_1 ?_
  refine x_get hx hb hts inX1 hown hK hP tF_1 (C := RX1) (F := TX1) (N := 4) rfl 3 (by decide) q125 rfl rfl dX6_undo_4 ?_
  refine lv_if_ne (tgt := 14) hx hb dX6_undo_7 (by decide) (fun hc => ?_) (fun hc => ?_)
  · have h := ite_f hc h
    refine lv_aload_n hx hb dX6_undo_14 rfl (lv_at hl 0 rfl) ?_
    refine x_getr hx hb hts inX6 hown hK hP tF_0 (C := RX6) (F := TX6) (N := 5) rfl 1 (by decide) q169 rfl 1 rfl dX6_undo_15 ?_
    refine lv_aload_n hx hb dX6_undo_18 rfl (lv_at hl 0 rfl) ?_
    refine x_getr hx hb hts inX6 hown hK hP tF_0 (C := RX6) (F := TX6) (N := 5) rfl 0 (by decide) q168 rfl (20 + 15 * 0) rfl dX6_undo_19 ?_
    obtain ⟨g22, hcal, h⟩ := bnd_s h
    refine x_VV (As := [.ref (a (20 + 15 * 0))]) hx hb hml hown hts hK hP hS (ct_X1_giveBack l D a cA cT hI g 0 hz0 g22 hcal) tF_1 (C := RX1) (F := TX1) (N := 4) rfl (g_V q182 q183 q184 q40 q185) yd_X1_giveBack ⟨Nat.le_of_ble_eq_true rfl, Nat.le_of_ble_eq_true rfl⟩ [] rfl (Nat.le_of_ble_eq_true rfl) hl.1 ⟨Nat.le_refl _, Nat.le_refl _⟩ dX6_undo_22 (fun H locs hP hS => ?_)
    refine lv_aload_n hx hb dX6_undo_25 rfl (lv_at hl 0 rfl) ?_
    refine x_getr hx hb hts inX6 hown hK hP tF_0 (C := RX6) (F := TX6) (N := 5) rfl 1 (by decide) q169 rfl 1 rfl dX6_undo_26 ?_
    refine x_get hx hb hts inX1 hown hK hP tF_1 (C := RX1) (F := TX1) (N := 4) rfl 3 (by decide) q125 rfl rfl dX6_undo_29 ?_
    obtain ⟨rfl, rfl⟩ := Prod.mk.inj (Option.some.inj h)
    exact hend _ _ _ _ dX6_undo_32 rfl hP hS
  · have h := ite_t hc h
    refine lv_sipush (v := (-1005 : Int32)) hx hb dX6_undo_10 (by decide) ?_
    obtain ⟨rfl, rfl⟩ := Prod.mk.inj (Option.some.inj h)
    exact hend _ _ _ _ dX6_undo_13 rfl hP hS
set_option maxHeartbeats 4000000 in
set_option maxRecDepth 100000 in
theorem ct_X6_row (l : Launch) (D : va_G) (a : Nat → Nat) (cA cT : ClassId) (hI : WI a TC) (g : MG) (x0 : Int32) (x1 : Int32)  (r : Int32) (h : m_X6_row g x0 x1 = some r) :
    CtI l D a cA cT TC yX6_row (Cond.code yX6_row cX6_row 3 (some .int) :: lw_all) (rmm 5 107) [.ref (a 0), .int x0, .int x1] g r g := by
  refine CtI.of (by decide +kernel) (Nat.le_of_ble_eq_true rfl) ?_
  intro p e s m args below meth c Q ls hx hb hml hown hts hK hP hS hl hend
  have hl : lv_has ls 3 [(0, .ref (a 0)), (1, .int x0), (2, .int x1)] := hl
  unfold m_X6_row at h
  refine lv_aload_n hx hb dX6_row_0 rfl (lv_at hl 0 rfl) ?_
  refine x_getr hx hb hts inX6 hown hK hP tF_0 (C := RX6) (F := TX6) (N := 5) rfl 0 (by decide) q168 rfl (20 + 15 * 0) rfl dX6_row_1 ?_
  refine x_getr hx hb hts inX5 hown hK hP (tT_20 hz0) (C := RX5) (F := TX5) (N := 5) rfl 0 (by decide) q101 rfl (21 + 15 * 0) rfl dX6_row_4 ?_
  refine lv_iload_n hx hb dX6_row_7 rfl (lv_at hl 1 rfl) ?_
  obtain ⟨r8, hcal, h⟩ := bnd_s h
  refine x_VI (As := [.int x0]) hx hb hml hown hts hK hP hS (ct_X3_has l D a cA cT hI g 0 x0 hz0 r8 hcal) (tT_21 hz0) (C := RX3) (F := TX3) (N := 4) rfl (g_V q310 q311 q312 q37 q313) yd_X3_has ⟨Nat.le_of_ble_eq_true rfl, Nat.le_of_ble_eq_true rfl⟩ [] rfl (Nat.le_of_ble_eq_true rfl) hl.1 ⟨Nat.le_refl _, Nat.le_refl _⟩ dX6_row_8 (fun H locs hP hS => ?_)
  refine lv_if_ne (tgt := 18) hx hb dX6_row_11 (by decide) (fun hc => ?_) (fun hc => ?_)
  · have h := ite_f hc h
    refine lv_iload_n hx hb dX6_row_18 rfl (lv_at hl 2 rfl) ?_
    by_cases hs0 : x1 = (0 : Int32)
    · have h := ite_t hs0 h
      refine lv_tableIn (off := 33) (tgt := 52) hx hb dX6_row_19 (by rw [hs0]; decide) (by rw [hs0]; decide) (by rw [hs0]; rfl) (by decide) ?_
      refine lv_aload_n hx hb dX6_row_52 rfl (lv_at hl 0 rfl) ?_
      refine x_getr hx hb hts inX6 hown hK hP tF_0 (C := RX6) (F := TX6) (N := 5) rfl 0 (by decide) q168 rfl (20 + 15 * 0) rfl dX6_row_53 ?_
      refine x_getr hx hb hts inX5 hown hK hP (tT_20 hz0) (C := RX5) (F := TX5) (N := 5) rfl 0 (by decide) q101 rfl (21 + 15 * 0) rfl dX6_row_56 ?_
      refine lv_iload_n hx hb dX6_row_59 rfl (lv_at hl 1 rfl) ?_
      obtain ⟨r60, hcal, h⟩ := bnd_s h
      refine x_VI (As := [.int x0]) hx hb hml hown hts hK hP hS (ct_X3_keyOf l D a cA cT hI g 0 x0 hz0 r60 hcal) (tT_21 hz0) (C := RX3) (F := TX3) (N := 4) rfl (g_V q314 q244 q245 q37 q246) yd_X3_keyOf ⟨Nat.le_of_ble_eq_true rfl, Nat.le_of_ble_eq_true rfl⟩ [] rfl (Nat.le_of_ble_eq_true rfl) hl.1 ⟨Nat.le_refl _, Nat.le_refl _⟩ dX6_row_60 (fun H locs hP hS => ?_)
      obtain rfl := Option.some.inj h
      exact hend _ _ _ _ dX6_row_63 rfl hP hS
    have h := ite_f hs0 h
    by_cases hs1 : x1 = (1 : Int32)
    · have h := ite_t hs1 h
      refine lv_tableIn (off := 45) (tgt := 64) hx hb dX6_row_19 (by rw [hs1]; decide) (by rw [hs1]; decide) (by rw [hs1]; rfl) (by decide) ?_
      refine lv_aload_n hx hb dX6_row_64 rfl (lv_at hl 0 rfl) ?_
      refine x_getr hx hb hts inX6 hown hK hP tF_0 (C := RX6) (F := TX6) (N := 5) rfl 0 (by decide) q168 rfl (20 + 15 * 0) rfl dX6_row_65 ?_
      refine x_getr hx hb hts inX5 hown hK hP (tT_20 hz0) (C := RX5) (F := TX5) (N := 5) rfl 0 (by decide) q101 rfl (21 + 15 * 0) rfl dX6_row_68 ?_
      refine lv_iload_n hx hb dX6_row_71 rfl (lv_at hl 1 rfl) ?_
      obtain ⟨r72, hcal, h⟩ := bnd_s h
      refine x_VI (As := [.int x0]) hx hb hml hown hts hK hP hS (ct_X3_valueOf l D a cA cT hI g 0 x0 hz0 r72 hcal) (tT_21 hz0) (C := RX3) (F := TX3) (N := 4) rfl (g_V q315 q316 q317 q37 q318) yd_X3_valueOf ⟨Nat.le_of_ble_eq_true rfl, Nat.le_of_ble_eq_true rfl⟩ [] rfl (Nat.le_of_ble_eq_true rfl) hl.1 ⟨Nat.le_refl _, Nat.le_refl _⟩ dX6_row_72 (fun H locs hP hS => ?_)
      obtain rfl := Option.some.inj h
      exact hend _ _ _ _ dX6_row_75 rfl hP hS
    have h := ite_f hs1 h
    by_cases hs2 : x1 = (2 : Int32)
    · have h := ite_t hs2 h
      refine lv_tableIn (off := 57) (tgt := 76) hx hb dX6_row_19 (by rw [hs2]; decide) (by rw [hs2]; decide) (by rw [hs2]; rfl) (by decide) ?_
      refine lv_aload_n hx hb dX6_row_76 rfl (lv_at hl 0 rfl) ?_
      refine x_getr hx hb hts inX6 hown hK hP tF_0 (C := RX6) (F := TX6) (N := 5) rfl 0 (by decide) q168 rfl (20 + 15 * 0) rfl dX6_row_77 ?_
      refine x_getr hx hb hts inX5 hown hK hP (tT_20 hz0) (C := RX5) (F := TX5) (N := 5) rfl 0 (by decide) q101 rfl (21 + 15 * 0) rfl dX6_row_80 ?_
      refine lv_iload_n hx hb dX6_row_83 rfl (lv_at hl 1 rfl) ?_
      obtain ⟨r84, hcal, h⟩ := bnd_s h
      refine x_VI (As := [.int x0]) hx hb hml hown hts hK hP hS (ct_X3_placeOf l D a cA cT hI g 0 x0 hz0 r84 hcal) (tT_21 hz0) (C := RX3) (F := TX3) (N := 4) rfl (g_V q319 q225 q226 q37 q227) yd_X3_placeOf ⟨Nat.le_of_ble_eq_true rfl, Nat.le_of_ble_eq_true rfl⟩ [] rfl (Nat.le_of_ble_eq_true rfl) hl.1 ⟨Nat.le_refl _, Nat.le_refl _⟩ dX6_row_84 (fun H locs hP hS => ?_)
      obtain rfl := Option.some.inj h
      exact hend _ _ _ _ dX6_row_87 rfl hP hS
    have h := ite_f hs2 h
    by_cases hs3 : x1 = (3 : Int32)
    · have h := ite_t hs3 h
      refine lv_tableIn (off := 69) (tgt := 88) hx hb dX6_row_19 (by rw [hs3]; decide) (by rw [hs3]; decide) (by rw [hs3]; rfl) (by decide) ?_
      refine lv_aload_n hx hb dX6_row_88 rfl (lv_at hl 0 rfl) ?_
      refine x_getr hx hb hts inX6 hown hK hP tF_0 (C := RX6) (F := TX6) (N := 5) rfl 0 (by decide) q168 rfl (20 + 15 * 0) rfl dX6_row_89 ?_
      refine lv_aload_n hx hb dX6_row_92 rfl (lv_at hl 0 rfl) ?_
      refine x_getr hx hb hts inX6 hown hK hP tF_0 (C := RX6) (F := TX6) (N := 5) rfl 0 (by decide) q168 rfl (20 + 15 * 0) rfl dX6_row_93 ?_
      refine x_getr hx hb hts inX5 hown hK hP (tT_20 hz0) (C := RX5) (F := TX5) (N := 5) rfl 0 (by decide) q101 rfl (21 + 15 * 0) rfl dX6_row_96 ?_
      refine lv_iload_n hx hb dX6_row_99 rfl (lv_at hl 1 rfl) ?_
      obtain ⟨r100, hcal, h⟩ := bnd_s h
      refine x_VI (As := [.int x0]) hx hb hml hown hts hK hP hS (ct_X3_keyOf l D a cA cT hI g 0 x0 hz0 r100 hcal) (tT_21 hz0) (C := RX3) (F := TX3) (N := 4) rfl (g_V q314 q244 q245 q37 q246) yd_X3_keyOf ⟨Nat.le_of_ble_eq_true rfl, Nat.le_of_ble_eq_true rfl⟩ [.ref (a (20 + 15 * 0))] rfl (Nat.le_of_ble_eq_true rfl) hl.1 ⟨Nat.le_refl _, Nat.le_refl _⟩ dX6_row_100 (fun H locs hP hS => ?_)
      obtain ⟨r103, hcal, h⟩ := bnd_s h
      refine x_VI (As := [.int r100]) hx hb hml hown hts hK hP hS (ct_X5_home l D a cA cT hI g 0 r100 hz0 r103 hcal) (tT_20 hz0) (C := RX5) (F := TX5) (N := 5) rfl (g_V q320 q258 q259 q36 q260) yd_X5_home ⟨Nat.le_of_ble_eq_true rfl, Nat.le_of_ble_eq_true rfl⟩ [] rfl (Nat.le_of_ble_eq_true rfl) hl.1 ⟨Nat.le_refl _, Nat.le_refl _⟩ dX6_row_103 (fun H locs hP hS => ?_)
      obtain rfl := Option.some.inj h
      exact hend _ _ _ _ dX6_row_106 rfl hP hS
    have h := ite_f hs3 h
    by_cases hs4 : x1 = (4 : Int32)
    · have h := ite_t hs4 h
      refine lv_tableIn (off := 88) (tgt := 107) hx hb dX6_row_19 (by rw [hs4]; decide) (by rw [hs4]; decide) (by rw [hs4]; rfl) (by decide) ?_
      refine lv_aload_n hx hb dX6_row_107 rfl (lv_at hl 0 rfl) ?_
      refine x_getr hx hb hts inX6 hown hK hP tF_0 (C := RX6) (F := TX6) (N := 5) rfl 0 (by decide) q168 rfl (20 + 15 * 0) rfl dX6_row_108 ?_
      refine lv_iload_n hx hb dX6_row_111 rfl (lv_at hl 1 rfl) ?_
      obtain ⟨r112, hcal, h⟩ := bnd_s h
      refine x_VI (As := [.int x0]) hx hb hml hown hts hK hP hS (ct_X5_isStray l D a cA cT hI g 0 x0 hz0 r112 hcal) (tT_20 hz0) (C := RX5) (F := TX5) (N := 5) rfl (g_V q321 q252 q253 q36 q254) yd_X5_isStray ⟨Nat.le_of_ble_eq_true rfl, Nat.le_of_ble_eq_true rfl⟩ [] rfl (Nat.le_of_ble_eq_true rfl) hl.1 ⟨Nat.le_refl _, Nat.le_refl _⟩ dX6_row_112 (fun H locs hP hS => ?_)
      refine lv_if_eq (tgt := 122) hx hb dX6_row_115 (by decide) (fun hc => ?_) (fun hc => ?_)
      · have h := ite_t hc h
        refine lv_iconst (v := (0 : Int32)) hx hb dX6_row_122 (by decide) ?_
        obtain rfl := Option.some.inj h
        exact hend _ _ _ _ dX6_row_123 rfl hP hS
      · have h := ite_f hc h
        refine lv_iconst (v := (1 : Int32)) hx hb dX6_row_118 (by decide) ?_
        refine lv_goto (tgt := 123) hx hb dX6_row_119 (by decide) ?_
        obtain rfl := Option.some.inj h
        exact hend _ _ _ _ dX6_row_123 rfl hP hS
    have h := ite_f hs4 h
    have hq : x1.toInt ≠ 0 ∧ x1.toInt ≠ 1 ∧ x1.toInt ≠ 2 ∧ x1.toInt ≠ 3 ∧ x1.toInt ≠ 4 := ⟨sw_ne hs0 rfl, sw_ne hs1 rfl, sw_ne hs2 rfl, sw_ne hs3 rfl, sw_ne hs4 rfl⟩
    refine lv_tableOut (tgt := 124) hx hb dX6_row_19 (by omega) (by decide) ?_
    refine lv_sipush (v := (-1002 : Int32)) hx hb dX6_row_124 (by decide) ?_
    obtain rfl := Option.some.inj h
    exact hend _ _ _ _ dX6_row_127 rfl hP hS
  · have h := ite_t hc h
    refine lv_sipush (v := (-1001 : Int32)) hx hb dX6_row_14 (by decide) ?_
    obtain rfl := Option.some.inj h
    exact hend _ _ _ _ dX6_row_17 rfl hP hS
