set_option maxHeartbeats 4000000 in
set_option maxRecDepth 100000 in
theorem ct_X6_isPlace (l : Launch) (D : va_G) (a : Nat → Nat) (cA cT : ClassId) (hI : WI a TC) (g : MG) (x0 : Int32)  (r : Int32) (h : m_X6_isPlace g x0 = some r) :
    CtI l D a cA cT TC yX6_isPlace (Cond.code yX6_isPlace cX6_isPlace 2 (some .boolean) :: lw_all) (rmm 4 85) [.ref (a 0), .int x0] g r g := by
  refine CtI.of (by decide +kernel) (Nat.le_of_ble_eq_true rfl) ?_
  intro p e s m args below meth c Q ls hx hb hml hown hts hK hP hS hl hend
  have hl : lv_has ls 2 [(0, .ref (a 0)), (1, .int x0)] := hl
  unfold m_X6_isPlace at h
  refine lv_iload_n hx hb dX6_isPlace_0 rfl (lv_at hl 1 rfl) ?_
  refine lv_bipush (v := (60 : Int32)) hx hb dX6_isPlace_1 (by decide) ?_
  refine lv_icmp_eq (tgt := 26) hx hb dX6_isPlace_3 (by decide) (fun hc => ?_) (fun hc => ?_)
  · have h := ite_t hc h
    refine lv_iconst (v := (1 : Int32)) hx hb dX6_isPlace_26 (by decide) ?_
    refine lv_goto (tgt := 31) hx hb dX6_isPlace_27 (by decide) ?_
    obtain rfl := Option.some.inj h
    exact hend _ _ _ _ dX6_isPlace_31 rfl hP hS
  · have h := ite_f hc h
    refine lv_iload_n hx hb dX6_isPlace_6 rfl (lv_at hl 1 rfl) ?_
    refine lv_bipush (v := (61 : Int32)) hx hb dX6_isPlace_7 (by decide) ?_
    refine lv_icmp_eq (tgt := 26) hx hb dX6_isPlace_9 (by decide) (fun hc => ?_) (fun hc => ?_)
    · have h := ite_t hc h
      refine lv_iconst (v := (1 : Int32)) hx hb dX6_isPlace_26 (by decide) ?_
      refine lv_goto (tgt := 31) hx hb dX6_isPlace_27 (by decide) ?_
      obtain rfl := Option.some.inj h
      exact hend _ _ _ _ dX6_isPlace_31 rfl hP hS
    · have h := ite_f hc h
      refine lv_aload_n hx hb dX6_isPlace_12 rfl (lv_at hl 0 rfl) ?_
      refine x_getr hx hb hts inX6 hown hK hP tF_0 (C := RX6) (F := TX6) (N := 5) rfl 0 (by decide) q168 rfl (20 + 15 * 0) rfl dX6_isPlace_13 ?_
      refine x_getr hx hb hts inX5 hown hK hP (tT_20 hz0) (C := RX5) (F := TX5) (N := 5) rfl 1 (by decide) q103 rfl (22 + 15 * 0) rfl dX6_isPlace_16 ?_
      refine lv_iload_n hx hb dX6_isPlace_19 rfl (lv_at hl 1 rfl) ?_
      obtain ⟨r20, hcal, h⟩ := bnd_s h
      refine x_VI (As := [.int x0]) hx hb hml hown hts hK hP hS (ct_X4_has l D a cA cT hI g 0 x0 hz0 r20 hcal) (tT_22 hz0) (C := RX4) (F := TX4) (N := 5) rfl (g_V q335 q336 q337 q39 q338) yd_X4_has ⟨Nat.le_of_ble_eq_true rfl, Nat.le_of_ble_eq_true rfl⟩ [] rfl (Nat.le_of_ble_eq_true rfl) hl.1 ⟨Nat.le_refl _, Nat.le_refl _⟩ dX6_isPlace_20 (fun H locs hP hS => ?_)
      refine lv_if_eq (tgt := 30) hx hb dX6_isPlace_23 (by decide) (fun hc => ?_) (fun hc => ?_)
      · have h := ite_t hc h
        refine lv_iconst (v := (0 : Int32)) hx hb dX6_isPlace_30 (by decide) ?_
        obtain rfl := Option.some.inj h
        exact hend _ _ _ _ dX6_isPlace_31 rfl hP hS
      · have h := ite_f hc h
        refine lv_iconst (v := (1 : Int32)) hx hb dX6_isPlace_26 (by decide) ?_
        refine lv_goto (tgt := 31) hx hb dX6_isPlace_27 (by decide) ?_
        obtain rfl := Option.some.inj h
        exact hend _ _ _ _ dX6_isPlace_31 rfl hP hS
set_option maxHeartbeats 4000000 in
set_option maxRecDepth 100000 in
theorem ct_X6_keyOfRanked (l : Launch) (D : va_G) (a : Nat → Nat) (cA cT : ClassId) (hI : WI a TC) (g : MG) (x0 : Int32) (x1 : Int32)  (r : Int32) (h : m_X6_keyOfRanked g x0 x1 = some r) :
    CtI l D a cA cT TC yX6_keyOfRanked (Cond.code yX6_keyOfRanked cX6_keyOfRanked 4 (some .int) :: lw_all) (rmm 4 91) [.ref (a 0), .int x0, .int x1] g r g := by
  refine CtI.of (by decide +kernel) (Nat.le_of_ble_eq_true rfl) ?_
  intro p e s m args below meth c Q ls hx hb hml hown hts hK hP hS hl hend
  have hl : lv_has ls 4 [(0, .ref (a 0)), (1, .int x0), (2, .int x1)] := hl
  unfold m_X6_keyOfRanked at h
  refine lv_aload_n hx hb dX6_keyOfRanked_0 rfl (lv_at hl 0 rfl) ?_
  refine x_getr hx hb hts inX6 hown hK hP tF_0 (C := RX6) (F := TX6) (N := 5) rfl 0 (by decide) q168 rfl (20 + 15 * 0) rfl dX6_keyOfRanked_1 ?_
  refine x_getr hx hb hts inX5 hown hK hP (tT_20 hz0) (C := RX5) (F := TX5) (N := 5) rfl 0 (by decide) q101 rfl (21 + 15 * 0) rfl dX6_keyOfRanked_4 ?_
  refine lv_iload_n hx hb dX6_keyOfRanked_7 rfl (lv_at hl 1 rfl) ?_
  refine lv_iload_n hx hb dX6_keyOfRanked_8 rfl (lv_at hl 2 rfl) ?_
  obtain ⟨r9, hcal, h⟩ := bnd_s h
  refine x_VI (As := [.int x0, .int x1]) hx hb hml hown hts hK hP hS (ct_X3_ranked l D a cA cT hI g 0 x0 x1 hz0 r9 hcal) (tT_21 hz0) (C := RX3) (F := TX3) (N := 4) rfl (g_V q349 q350 q351 q37 q352) yd_X3_ranked ⟨Nat.le_of_ble_eq_true rfl, Nat.le_of_ble_eq_true rfl⟩ [] rfl (Nat.le_of_ble_eq_true rfl) hl.1 ⟨Nat.le_refl _, Nat.le_refl _⟩ dX6_keyOfRanked_9 (fun H locs hP hS => ?_)
  refine lv_istore_n (lv' := [(3, .int r9), (0, .ref (a 0)), (1, .int x0), (2, .int x1)]) hx hb dX6_keyOfRanked_12 rfl hl (by decide) rfl (fun ls hl => ?_)
  refine lv_iload_n hx hb dX6_keyOfRanked_13 rfl (lv_at hl 0 rfl) ?_
  refine lv_sipush (v := (-1005 : Int32)) hx hb dX6_keyOfRanked_14 (by decide) ?_
  refine lv_icmp_ne (tgt := 26) hx hb dX6_keyOfRanked_17 (by decide) (fun hc => ?_) (fun hc => ?_)
  · have h := ite_f hc h
    refine lv_aload_n hx hb dX6_keyOfRanked_26 rfl (lv_at hl 1 rfl) ?_
    refine x_getr hx hb hts inX6 hown hK hP tF_0 (C := RX6) (F := TX6) (N := 5) rfl 0 (by decide) q168 rfl (20 + 15 * 0) rfl dX6_keyOfRanked_27 ?_
    refine x_getr hx hb hts inX5 hown hK hP (tT_20 hz0) (C := RX5) (F := TX5) (N := 5) rfl 0 (by decide) q101 rfl (21 + 15 * 0) rfl dX6_keyOfRanked_30 ?_
    refine lv_iload_n hx hb dX6_keyOfRanked_33 rfl (lv_at hl 0 rfl) ?_
    obtain ⟨r34, hcal, h⟩ := bnd_s h
    refine x_VI (As := [.int r9]) hx hb hml hown hts hK hP hS (ct_X3_keyOf l D a cA cT hI g 0 r9 hz0 r34 hcal) (tT_21 hz0) (C := RX3) (F := TX3) (N := 4) rfl (g_V q314 q244 q245 q37 q246) yd_X3_keyOf ⟨Nat.le_of_ble_eq_true rfl, Nat.le_of_ble_eq_true rfl⟩ [] rfl (Nat.le_of_ble_eq_true rfl) hl.1 ⟨Nat.le_refl _, Nat.le_refl _⟩ dX6_keyOfRanked_34 (fun H locs hP hS => ?_)
    obtain rfl := Option.some.inj h
    exact hend _ _ _ _ dX6_keyOfRanked_37 rfl hP hS
  · have h := ite_t hc h
    refine lv_sipush (v := (-1005 : Int32)) hx hb dX6_keyOfRanked_20 (by decide) ?_
    refine lv_goto (tgt := 37) hx hb dX6_keyOfRanked_23 (by decide) ?_
    obtain rfl := Option.some.inj h
    exact hend _ _ _ _ dX6_keyOfRanked_37 rfl hP hS
set_option maxHeartbeats 4000000 in
set_option maxRecDepth 100000 in
theorem ct_X6_slice (l : Launch) (D : va_G) (a : Nat → Nat) (cA cT : ClassId) (hI : WI a TC) (g : MG) (x0 : Int32) (x1 : Int32)  (r : Int32) (h : m_X6_slice g x0 x1 = some r) :
    CtI l D a cA cT TC yX6_slice (Cond.code yX6_slice cX6_slice 4 (some .int) :: lw_all) (rmm 6 130) [.ref (a 0), .int x0, .int x1] g r g := by
  refine CtI.of (by decide +kernel) (Nat.le_of_ble_eq_true rfl) ?_
  intro p e s m args below meth c Q ls hx hb hml hown hts hK hP hS hl hend
  have hl : lv_has ls 4 [(0, .ref (a 0)), (1, .int x0), (2, .int x1)] := hl
  unfold m_X6_slice at h
  refine lv_aload_n hx hb dX6_slice_0 rfl (lv_at hl 0 rfl) ?_
  refine lv_iload_n hx hb dX6_slice_1 rfl (lv_at hl 1 rfl) ?_
  obtain ⟨r2, hcal, h⟩ := bnd_s h
  refine x_VI (As := [.int x0]) hx hb hml hown hts hK hP hS (ct_X6_isPlace l D a cA cT hI g x0 r2 hcal) tF_0 (C := RX6) (F := TX6) (N := 5) rfl (g_V q332 q333 q2 q35 q334) yd_X6_isPlace ⟨Nat.le_of_ble_eq_true rfl, Nat.le_of_ble_eq_true rfl⟩ [] rfl (Nat.le_of_ble_eq_true rfl) hl.1 ⟨Nat.le_refl _, Nat.le_refl _⟩ dX6_slice_2 (fun H locs hP hS => ?_)
  refine lv_if_ne (tgt := 12) hx hb dX6_slice_5 (by decide) (fun hc => ?_) (fun hc => ?_)
  · have h := ite_f hc h
    refine lv_aload_n hx hb dX6_slice_12 rfl (lv_at hl 0 rfl) ?_
    refine x_getr hx hb hts inX6 hown hK hP tF_0 (C := RX6) (F := TX6) (N := 5) rfl 0 (by decide) q168 rfl (20 + 15 * 0) rfl dX6_slice_13 ?_
    refine x_getr hx hb hts inX5 hown hK hP (tT_20 hz0) (C := RX5) (F := TX5) (N := 5) rfl 1 (by decide) q103 rfl (22 + 15 * 0) rfl dX6_slice_16 ?_
    refine lv_iload_n hx hb dX6_slice_19 rfl (lv_at hl 1 rfl) ?_
    obtain ⟨r20, hcal, h⟩ := bnd_s h
    refine x_VI (As := [.int x0]) hx hb hml hown hts hK hP hS (ct_X4_positionOf l D a cA cT hI g 0 x0 hz0 r20 hcal) (tT_22 hz0) (C := RX4) (F := TX4) (N := 5) rfl (g_V q343 q340 q341 q39 q342) yd_X4_positionOf ⟨Nat.le_of_ble_eq_true rfl, Nat.le_of_ble_eq_true rfl⟩ [] rfl (Nat.le_of_ble_eq_true rfl) hl.1 ⟨Nat.le_refl _, Nat.le_refl _⟩ dX6_slice_20 (fun H locs hP hS => ?_)
    refine lv_istore_n (lv' := [(3, .int r20), (0, .ref (a 0)), (1, .int x0), (2, .int x1)]) hx hb dX6_slice_23 rfl hl (by decide) rfl (fun ls hl => ?_)
    refine lv_iload_n hx hb dX6_slice_24 rfl (lv_at hl 3 rfl) ?_
    by_cases hs0 : x1 = (0 : Int32)
    · have h := ite_t hs0 h
      refine lv_tableIn (off := 43) (tgt := 68) hx hb dX6_slice_25 (by rw [hs0]; decide) (by rw [hs0]; decide) (by rw [hs0]; rfl) (by decide) ?_
      refine lv_iload_n hx hb dX6_slice_68 rfl (lv_at hl 0 rfl) ?_
      refine lv_sipush (v := (-1005 : Int32)) hx hb dX6_slice_69 (by decide) ?_
      refine lv_icmp_ne (tgt := 81) hx hb dX6_slice_72 (by decide) (fun hc => ?_) (fun hc => ?_)
      · have h := ite_f hc h
        refine lv_aload_n hx hb dX6_slice_81 rfl (lv_at hl 1 rfl) ?_
        refine x_getr hx hb hts inX6 hown hK hP tF_0 (C := RX6) (F := TX6) (N := 5) rfl 0 (by decide) q168 rfl (20 + 15 * 0) rfl dX6_slice_82 ?_
        refine x_getr hx hb hts inX5 hown hK hP (tT_20 hz0) (C := RX5) (F := TX5) (N := 5) rfl 1 (by decide) q103 rfl (22 + 15 * 0) rfl dX6_slice_85 ?_
        refine lv_iload_n hx hb dX6_slice_88 rfl (lv_at hl 0 rfl) ?_
        obtain ⟨r89, hcal, h⟩ := bnd_s h
        refine x_VI (As := [.int r20]) hx hb hml hown hts hK hP hS (ct_X4_lowAt l D a cA cT hI g 0 r20 hz0 r89 hcal) (tT_22 hz0) (C := RX4) (F := TX4) (N := 5) rfl (g_V q344 q266 q267 q39 q268) yd_X4_lowAt ⟨Nat.le_of_ble_eq_true rfl, Nat.le_of_ble_eq_true rfl⟩ [] rfl (Nat.le_of_ble_eq_true rfl) hl.1 ⟨Nat.le_refl _, Nat.le_refl _⟩ dX6_slice_89 (fun H locs hP hS => ?_)
        obtain rfl := Option.some.inj h
        exact hend _ _ _ _ dX6_slice_92 rfl hP hS
      · have h := ite_t hc h
        refine lv_sipush (v := (-1005 : Int32)) hx hb dX6_slice_75 (by decide) ?_
        refine lv_goto (tgt := 92) hx hb dX6_slice_78 (by decide) ?_
        obtain rfl := Option.some.inj h
        exact hend _ _ _ _ dX6_slice_92 rfl hP hS
    have h := ite_f hs0 h
    by_cases hs1 : x1 = (1 : Int32)
    · have h := ite_t hs1 h
      refine lv_tableIn (off := 68) (tgt := 93) hx hb dX6_slice_25 (by rw [hs1]; decide) (by rw [hs1]; decide) (by rw [hs1]; rfl) (by decide) ?_
      refine lv_iload_n hx hb dX6_slice_93 rfl (lv_at hl 0 rfl) ?_
      refine lv_sipush (v := (-1005 : Int32)) hx hb dX6_slice_94 (by decide) ?_
      refine lv_icmp_ne (tgt := 106) hx hb dX6_slice_97 (by decide) (fun hc => ?_) (fun hc => ?_)
      · have h := ite_f hc h
        refine lv_aload_n hx hb dX6_slice_106 rfl (lv_at hl 1 rfl) ?_
        refine x_getr hx hb hts inX6 hown hK hP tF_0 (C := RX6) (F := TX6) (N := 5) rfl 0 (by decide) q168 rfl (20 + 15 * 0) rfl dX6_slice_107 ?_
        refine x_getr hx hb hts inX5 hown hK hP (tT_20 hz0) (C := RX5) (F := TX5) (N := 5) rfl 1 (by decide) q103 rfl (22 + 15 * 0) rfl dX6_slice_110 ?_
        refine lv_iload_n hx hb dX6_slice_113 rfl (lv_at hl 0 rfl) ?_
        obtain ⟨r114, hcal, h⟩ := bnd_s h
        refine x_VI (As := [.int r20]) hx hb hml hown hts hK hP hS (ct_X4_highAt l D a cA cT hI g 0 r20 hz0 r114 hcal) (tT_22 hz0) (C := RX4) (F := TX4) (N := 5) rfl (g_V q345 q271 q272 q39 q273) yd_X4_highAt ⟨Nat.le_of_ble_eq_true rfl, Nat.le_of_ble_eq_true rfl⟩ [] rfl (Nat.le_of_ble_eq_true rfl) hl.1 ⟨Nat.le_refl _, Nat.le_refl _⟩ dX6_slice_114 (fun H locs hP hS => ?_)
        obtain rfl := Option.some.inj h
        exact hend _ _ _ _ dX6_slice_117 rfl hP hS
      · have h := ite_t hc h
        refine lv_sipush (v := (-1005 : Int32)) hx hb dX6_slice_100 (by decide) ?_
        refine lv_goto (tgt := 117) hx hb dX6_slice_103 (by decide) ?_
        obtain rfl := Option.some.inj h
        exact hend _ _ _ _ dX6_slice_117 rfl hP hS
    have h := ite_f hs1 h
    by_cases hs2 : x1 = (2 : Int32)
    · have h := ite_t hs2 h
      refine lv_tableIn (off := 93) (tgt := 118) hx hb dX6_slice_25 (by rw [hs2]; decide) (by rw [hs2]; decide) (by rw [hs2]; rfl) (by decide) ?_
      refine lv_aload_n hx hb dX6_slice_118 rfl (lv_at hl 1 rfl) ?_
      refine x_getr hx hb hts inX6 hown hK hP tF_0 (C := RX6) (F := TX6) (N := 5) rfl 0 (by decide) q168 rfl (20 + 15 * 0) rfl dX6_slice_119 ?_
      refine x_getr hx hb hts inX5 hown hK hP (tT_20 hz0) (C := RX5) (F := TX5) (N := 5) rfl 0 (by decide) q101 rfl (21 + 15 * 0) rfl dX6_slice_122 ?_
      refine lv_iload_n hx hb dX6_slice_125 rfl (lv_at hl 2 rfl) ?_
      obtain ⟨r126, hcal, h⟩ := bnd_s h
      refine x_VI (As := [.int x0]) hx hb hml hown hts hK hP hS (ct_X3_amountAt l D a cA cT hI g 0 x0 hz0 r126 hcal) (tT_21 hz0) (C := RX3) (F := TX3) (N := 4) rfl (g_V q232 q233 q234 q37 q235) yd_X3_amountAt ⟨Nat.le_of_ble_eq_true rfl, Nat.le_of_ble_eq_true rfl⟩ [] rfl (Nat.le_of_ble_eq_true rfl) hl.1 ⟨Nat.le_refl _, Nat.le_refl _⟩ dX6_slice_126 (fun H locs hP hS => ?_)
      obtain rfl := Option.some.inj h
      exact hend _ _ _ _ dX6_slice_129 rfl hP hS
    have h := ite_f hs2 h
    by_cases hs3 : x1 = (3 : Int32)
    · have h := ite_t hs3 h
      refine lv_tableIn (off := 105) (tgt := 130) hx hb dX6_slice_25 (by rw [hs3]; decide) (by rw [hs3]; decide) (by rw [hs3]; rfl) (by decide) ?_
      refine lv_aload_n hx hb dX6_slice_130 rfl (lv_at hl 1 rfl) ?_
      refine lv_iload_n hx hb dX6_slice_131 rfl (lv_at hl 2 rfl) ?_
      refine lv_iconst (v := (0 : Int32)) hx hb dX6_slice_132 (by decide) ?_
      obtain ⟨r133, hcal, h⟩ := bnd_s h
      refine x_VI (As := [.int x0, .int (0 : Int32)]) hx hb hml hown hts hK hP hS (ct_X6_keyOfRanked l D a cA cT hI g x0 (0 : Int32) r133 hcal) tF_0 (C := RX6) (F := TX6) (N := 5) rfl (g_V q346 q347 q3 q35 q348) yd_X6_keyOfRanked ⟨Nat.le_of_ble_eq_true rfl, Nat.le_of_ble_eq_true rfl⟩ [] rfl (Nat.le_of_ble_eq_true rfl) hl.1 ⟨Nat.le_refl _, Nat.le_refl _⟩ dX6_slice_133 (fun H locs hP hS => ?_)
      obtain rfl := Option.some.inj h
      exact hend _ _ _ _ dX6_slice_136 rfl hP hS
    have h := ite_f hs3 h
    by_cases hs4 : x1 = (4 : Int32)
    · have h := ite_t hs4 h
      refine lv_tableIn (off := 112) (tgt := 137) hx hb dX6_slice_25 (by rw [hs4]; decide) (by rw [hs4]; decide) (by rw [hs4]; rfl) (by decide) ?_
      refine lv_aload_n hx hb dX6_slice_137 rfl (lv_at hl 1 rfl) ?_
      refine lv_iload_n hx hb dX6_slice_138 rfl (lv_at hl 2 rfl) ?_
      refine lv_aload_n hx hb dX6_slice_139 rfl (lv_at hl 1 rfl) ?_
      refine x_getr hx hb hts inX6 hown hK hP tF_0 (C := RX6) (F := TX6) (N := 5) rfl 0 (by decide) q168 rfl (20 + 15 * 0) rfl dX6_slice_140 ?_
      refine x_getr hx hb hts inX5 hown hK hP (tT_20 hz0) (C := RX5) (F := TX5) (N := 5) rfl 0 (by decide) q101 rfl (21 + 15 * 0) rfl dX6_slice_143 ?_
      refine lv_iload_n hx hb dX6_slice_146 rfl (lv_at hl 2 rfl) ?_
      obtain ⟨r147, hcal, h⟩ := bnd_s h
      refine x_VI (As := [.int x0]) hx hb hml hown hts hK hP hS (ct_X3_amountAt l D a cA cT hI g 0 x0 hz0 r147 hcal) (tT_21 hz0) (C := RX3) (F := TX3) (N := 4) rfl (g_V q232 q233 q234 q37 q235) yd_X3_amountAt ⟨Nat.le_of_ble_eq_true rfl, Nat.le_of_ble_eq_true rfl⟩ [.int x0, .ref (a 0)] rfl (Nat.le_of_ble_eq_true rfl) hl.1 ⟨Nat.le_refl _, Nat.le_refl _⟩ dX6_slice_147 (fun H locs hP hS => ?_)
      refine lv_iconst (v := (1 : Int32)) hx hb dX6_slice_150 (by decide) ?_
      refine lv_isub hx hb dX6_slice_151 ?_
      obtain ⟨r152, hcal, h⟩ := bnd_s h
      refine x_VI (As := [.int x0, .int (r147 - (1 : Int32))]) hx hb hml hown hts hK hP hS (ct_X6_keyOfRanked l D a cA cT hI g x0 (r147 - (1 : Int32)) r152 hcal) tF_0 (C := RX6) (F := TX6) (N := 5) rfl (g_V q346 q347 q3 q35 q348) yd_X6_keyOfRanked ⟨Nat.le_of_ble_eq_true rfl, Nat.le_of_ble_eq_true rfl⟩ [] rfl (Nat.le_of_ble_eq_true rfl) hl.1 ⟨Nat.le_refl _, Nat.le_refl _⟩ dX6_slice_152 (fun H locs hP hS => ?_)
      obtain rfl := Option.some.inj h
      exact hend _ _ _ _ dX6_slice_155 rfl hP hS
    have h := ite_f hs4 h
    by_cases hs5 : x1 = (5 : Int32)
    · have h := ite_t hs5 h
      refine lv_tableIn (off := 131) (tgt := 156) hx hb dX6_slice_25 (by rw [hs5]; decide) (by rw [hs5]; decide) (by rw [hs5]; rfl) (by decide) ?_
      refine lv_aload_n hx hb dX6_slice_156 rfl (lv_at hl 1 rfl) ?_
      refine x_getr hx hb hts inX6 hown hK hP tF_0 (C := RX6) (F := TX6) (N := 5) rfl 0 (by decide) q168 rfl (20 + 15 * 0) rfl dX6_slice_157 ?_
      refine x_getr hx hb hts inX5 hown hK hP (tT_20 hz0) (C := RX5) (F := TX5) (N := 5) rfl 0 (by decide) q101 rfl (21 + 15 * 0) rfl dX6_slice_160 ?_
      refine lv_iload_n hx hb dX6_slice_163 rfl (lv_at hl 2 rfl) ?_
      obtain ⟨r164, hcal, h⟩ := bnd_s h
      refine x_VI (As := [.int x0]) hx hb hml hown hts hK hP hS (ct_X3_sumAt l D a cA cT hI g 0 x0 hz0 r164 hcal) (tT_21 hz0) (C := RX3) (F := TX3) (N := 4) rfl (g_V q356 q357 q358 q37 q359) yd_X3_sumAt ⟨Nat.le_of_ble_eq_true rfl, Nat.le_of_ble_eq_true rfl⟩ [] rfl (Nat.le_of_ble_eq_true rfl) hl.1 ⟨Nat.le_refl _, Nat.le_refl _⟩ dX6_slice_164 (fun H locs hP hS => ?_)
      obtain rfl := Option.some.inj h
      exact hend _ _ _ _ dX6_slice_167 rfl hP hS
    have h := ite_f hs5 h
    by_cases hs6 : x1 = (6 : Int32)
    · have h := ite_t hs6 h
      refine lv_tableIn (off := 143) (tgt := 168) hx hb dX6_slice_25 (by rw [hs6]; decide) (by rw [hs6]; decide) (by rw [hs6]; rfl) (by decide) ?_
      refine lv_aload_n hx hb dX6_slice_168 rfl (lv_at hl 1 rfl) ?_
      refine x_getr hx hb hts inX6 hown hK hP tF_0 (C := RX6) (F := TX6) (N := 5) rfl 0 (by decide) q168 rfl (20 + 15 * 0) rfl dX6_slice_169 ?_
      refine lv_iload_n hx hb dX6_slice_172 rfl (lv_at hl 2 rfl) ?_
      obtain ⟨r173, hcal, h⟩ := bnd_s h
      refine x_VI (As := [.int x0]) hx hb hml hown hts hK hP hS (ct_X5_straysAt l D a cA cT hI g 0 x0 hz0 r173 hcal) (tT_20 hz0) (C := RX5) (F := TX5) (N := 5) rfl (g_V q361 q362 q363 q36 q364) yd_X5_straysAt ⟨Nat.le_of_ble_eq_true rfl, Nat.le_of_ble_eq_true rfl⟩ [] rfl (Nat.le_of_ble_eq_true rfl) hl.1 ⟨Nat.le_refl _, Nat.le_refl _⟩ dX6_slice_173 (fun H locs hP hS => ?_)
      obtain rfl := Option.some.inj h
      exact hend _ _ _ _ dX6_slice_176 rfl hP hS
    have h := ite_f hs6 h
    have hq : x1.toInt ≠ 0 ∧ x1.toInt ≠ 1 ∧ x1.toInt ≠ 2 ∧ x1.toInt ≠ 3 ∧ x1.toInt ≠ 4 ∧ x1.toInt ≠ 5 ∧ x1.toInt ≠ 6 := ⟨sw_ne hs0 rfl, sw_ne hs1 rfl, sw_ne hs2 rfl, sw_ne hs3 rfl, sw_ne hs4 rfl, sw_ne hs5 rfl, sw_ne hs6 rfl⟩
    refine lv_tableOut (tgt := 177) hx hb dX6_slice_25 (by omega) (by decide) ?_
    refine lv_sipush (v := (-1002 : Int32)) hx hb dX6_slice_177 (by decide) ?_
    obtain rfl := Option.some.inj h
    exact hend _ _ _ _ dX6_slice_180 rfl hP hS
  · have h := ite_t hc h
    refine lv_sipush (v := (-1001 : Int32)) hx hb dX6_slice_8 (by decide) ?_
    obtain rfl := Option.some.inj h
    exact hend _ _ _ _ dX6_slice_11 rfl hP hS
set_option maxHeartbeats 4000000 in
set_option maxRecDepth 100000 in
theorem ct_X6_ordered (l : Launch) (D : va_G) (a : Nat → Nat) (cA cT : ClassId) (hI : WI a TC) (g : MG) (x0 : Int32)  (r : Int32) (h : m_X6_ordered g x0 = some r) :
    CtI l D a cA cT TC yX6_ordered (Cond.code yX6_ordered cX6_ordered 2 (some .int) :: lw_all) (rmm 2 42) [.ref (a 0), .int x0] g r g := by
  refine CtI.of (by decide +kernel) (Nat.le_of_ble_eq_true rfl) ?_
  intro p e s m args below meth c Q ls hx hb hml hown hts hK hP hS hl hend
  have hl : lv_has ls 2 [(0, .ref (a 0)), (1, .int x0)] := hl
  unfold m_X6_ordered at h
  refine lv_iload_n hx hb dX6_ordered_0 rfl (lv_at hl 1 rfl) ?_
  refine lv_if_ge (tgt := 8) hx hb dX6_ordered_1 (by decide) (fun hc => ?_) (fun hc => ?_)
  · have h := ite_t hc h
    refine lv_iload_n hx hb dX6_ordered_8 rfl (lv_at hl 1 rfl) ?_
    refine lv_aload_n hx hb dX6_ordered_9 rfl (lv_at hl 0 rfl) ?_
    refine x_getr hx hb hts inX6 hown hK hP tF_0 (C := RX6) (F := TX6) (N := 5) rfl 0 (by decide) q168 rfl (20 + 15 * 0) rfl dX6_ordered_10 ?_
    refine x_getr hx hb hts inX5 hown hK hP (tT_20 hz0) (C := RX5) (F := TX5) (N := 5) rfl 1 (by decide) q103 rfl (22 + 15 * 0) rfl dX6_ordered_13 ?_
    refine x_get hx hb hts inX4 hown hK hP (tT_22 hz0) (C := RX4) (F := TX4) (N := 5) rfl 3 (by decide) q92 rfl rfl dX6_ordered_16 ?_
    refine lv_icmp_ge (tgt := 36) hx hb dX6_ordered_19 (by decide) (fun hc => ?_) (fun hc => ?_)
    · have h := ite_t hc h
      refine lv_sipush (v := (-1005 : Int32)) hx hb dX6_ordered_36 (by decide) ?_
      obtain rfl := Option.some.inj h
      exact hend _ _ _ _ dX6_ordered_39 rfl hP hS
    · have h := ite_f hc h
      refine lv_aload_n hx hb dX6_ordered_22 rfl (lv_at hl 0 rfl) ?_
      refine x_getr hx hb hts inX6 hown hK hP tF_0 (C := RX6) (F := TX6) (N := 5) rfl 0 (by decide) q168 rfl (20 + 15 * 0) rfl dX6_ordered_23 ?_
      refine x_getr hx hb hts inX5 hown hK hP (tT_20 hz0) (C := RX5) (F := TX5) (N := 5) rfl 1 (by decide) q103 rfl (22 + 15 * 0) rfl dX6_ordered_26 ?_
      refine lv_iload_n hx hb dX6_ordered_29 rfl (lv_at hl 1 rfl) ?_
      obtain ⟨r30, hcal, h⟩ := bnd_s h
      refine x_VI (As := [.int x0]) hx hb hml hown hts hK hP hS (ct_X4_numberAt l D a cA cT hI g 0 x0 hz0 r30 hcal) (tT_22 hz0) (C := RX4) (F := TX4) (N := 5) rfl (g_V q369 q275 q276 q39 q277) yd_X4_numberAt ⟨Nat.le_of_ble_eq_true rfl, Nat.le_of_ble_eq_true rfl⟩ [] rfl (Nat.le_of_ble_eq_true rfl) hl.1 ⟨Nat.le_refl _, Nat.le_refl _⟩ dX6_ordered_30 (fun H locs hP hS => ?_)
      refine lv_goto (tgt := 39) hx hb dX6_ordered_33 (by decide) ?_
      obtain rfl := Option.some.inj h
      exact hend _ _ _ _ dX6_ordered_39 rfl hP hS
  · have h := ite_f hc h
    refine lv_sipush (v := (-1002 : Int32)) hx hb dX6_ordered_4 (by decide) ?_
    obtain rfl := Option.some.inj h
    exact hend _ _ _ _ dX6_ordered_7 rfl hP hS
set_option maxHeartbeats 4000000 in
set_option maxRecDepth 100000 in
theorem ct_X6_lies (l : Launch) (D : va_G) (a : Nat → Nat) (cA cT : ClassId) (hI : WI a TC) (g : MG) (x0 : Int32) (x1 : Int32)  (r : Int32) (h : m_X6_lies g x0 x1 = some r) :
    CtI l D a cA cT TC yX6_lies (Cond.code yX6_lies cX6_lies 3 (some .int) :: lw_all) (rmm 5 106) [.ref (a 0), .int x0, .int x1] g r g := by
  refine CtI.of (by decide +kernel) (Nat.le_of_ble_eq_true rfl) ?_
  intro p e s m args below meth c Q ls hx hb hml hown hts hK hP hS hl hend
  have hl : lv_has ls 3 [(0, .ref (a 0)), (1, .int x0), (2, .int x1)] := hl
  unfold m_X6_lies at h
  refine lv_aload_n hx hb dX6_lies_0 rfl (lv_at hl 0 rfl) ?_
  refine lv_iload_n hx hb dX6_lies_1 rfl (lv_at hl 1 rfl) ?_
  obtain ⟨r2, hcal, h⟩ := bnd_s h
  refine x_VI (As := [.int x0]) hx hb hml hown hts hK hP hS (ct_X6_isPlace l D a cA cT hI g x0 r2 hcal) tF_0 (C := RX6) (F := TX6) (N := 5) rfl (g_V q332 q333 q2 q35 q334) yd_X6_isPlace ⟨Nat.le_of_ble_eq_true rfl, Nat.le_of_ble_eq_true rfl⟩ [] rfl (Nat.le_of_ble_eq_true rfl) hl.1 ⟨Nat.le_refl _, Nat.le_refl _⟩ dX6_lies_2 (fun H locs hP hS => ?_)
  refine lv_if_ne (tgt := 12) hx hb dX6_lies_5 (by decide) (fun hc => ?_) (fun hc => ?_)
  · have h := ite_f hc h
    refine lv_iload_n hx hb dX6_lies_12 rfl (lv_at hl 2 rfl) ?_
    refine lv_if_ge (tgt := 20) hx hb dX6_lies_13 (by decide) (fun hc => ?_) (fun hc => ?_)
    · have h := ite_t hc h
      refine lv_aload_n hx hb dX6_lies_20 rfl (lv_at hl 0 rfl) ?_
      refine x_getr hx hb hts inX6 hown hK hP tF_0 (C := RX6) (F := TX6) (N := 5) rfl 0 (by decide) q168 rfl (20 + 15 * 0) rfl dX6_lies_21 ?_
      refine x_getr hx hb hts inX5 hown hK hP (tT_20 hz0) (C := RX5) (F := TX5) (N := 5) rfl 0 (by decide) q101 rfl (21 + 15 * 0) rfl dX6_lies_24 ?_
      refine lv_iload_n hx hb dX6_lies_27 rfl (lv_at hl 1 rfl) ?_
      refine lv_iload_n hx hb dX6_lies_28 rfl (lv_at hl 2 rfl) ?_
      obtain ⟨r29, hcal, h⟩ := bnd_s h
      refine x_VI (As := [.int x0, .int x1]) hx hb hml hown hts hK hP hS (ct_X3_ranked l D a cA cT hI g 0 x0 x1 hz0 r29 hcal) (tT_21 hz0) (C := RX3) (F := TX3) (N := 4) rfl (g_V q349 q350 q351 q37 q352) yd_X3_ranked ⟨Nat.le_of_ble_eq_true rfl, Nat.le_of_ble_eq_true rfl⟩ [] rfl (Nat.le_of_ble_eq_true rfl) hl.1 ⟨Nat.le_refl _, Nat.le_refl _⟩ dX6_lies_29 (fun H locs hP hS => ?_)
      obtain rfl := Option.some.inj h
      exact hend _ _ _ _ dX6_lies_32 rfl hP hS
    · have h := ite_f hc h
      refine lv_sipush (v := (-1002 : Int32)) hx hb dX6_lies_16 (by decide) ?_
      obtain rfl := Option.some.inj h
      exact hend _ _ _ _ dX6_lies_19 rfl hP hS
  · have h := ite_t hc h
    refine lv_sipush (v := (-1001 : Int32)) hx hb dX6_lies_8 (by decide) ?_
    obtain rfl := Option.some.inj h
    exact hend _ _ _ _ dX6_lies_11 rfl hP hS
set_option maxHeartbeats 4000000 in
set_option maxRecDepth 100000 in
theorem ct_X6_belongs (l : Launch) (D : va_G) (a : Nat → Nat) (cA cT : ClassId) (hI : WI a TC) (g : MG) (x0 : Int32)  (r : Int32) (h : m_X6_belongs g x0 = some r) :
    CtI l D a cA cT TC yX6_belongs (Cond.code yX6_belongs cX6_belongs 2 (some .int) :: lw_all) (rmm 4 86) [.ref (a 0), .int x0] g r g := by
  refine CtI.of (by decide +kernel) (Nat.le_of_ble_eq_true rfl) ?_
  intro p e s m args below meth c Q ls hx hb hml hown hts hK hP hS hl hend
  have hl : lv_has ls 2 [(0, .ref (a 0)), (1, .int x0)] := hl
  unfold m_X6_belongs at h
  refine lv_iload_n hx hb dX6_belongs_0 rfl (lv_at hl 1 rfl) ?_
  obtain ⟨r1, hcal, h⟩ := bnd_s h
  refine x_SI (As := [.int x0]) hx hb hml hown hts hK hP hS (ct_X6_isKey l D a cA cT hI g x0 r1 hcal) (g_S q381 q382 q35 q383) yd_X6_isKey ⟨Nat.le_of_ble_eq_true rfl, Nat.le_of_ble_eq_true rfl⟩ [] rfl (Nat.le_of_ble_eq_true rfl) hl.1 ⟨Nat.le_refl _, Nat.le_refl _⟩ dX6_belongs_1 (fun H locs hP hS => ?_)
  refine lv_if_eq (tgt := 18) hx hb dX6_belongs_4 (by decide) (fun hc => ?_) (fun hc => ?_)
  · have h := ite_t hc h
    refine lv_sipush (v := (-1002 : Int32)) hx hb dX6_belongs_18 (by decide) ?_
    obtain rfl := Option.some.inj h
    exact hend _ _ _ _ dX6_belongs_21 rfl hP hS
  · have h := ite_f hc h
    refine lv_aload_n hx hb dX6_belongs_7 rfl (lv_at hl 0 rfl) ?_
    refine x_getr hx hb hts inX6 hown hK hP tF_0 (C := RX6) (F := TX6) (N := 5) rfl 0 (by decide) q168 rfl (20 + 15 * 0) rfl dX6_belongs_8 ?_
    refine lv_iload_n hx hb dX6_belongs_11 rfl (lv_at hl 1 rfl) ?_
    obtain ⟨r12, hcal, h⟩ := bnd_s h
    refine x_VI (As := [.int x0]) hx hb hml hown hts hK hP hS (ct_X5_home l D a cA cT hI g 0 x0 hz0 r12 hcal) (tT_20 hz0) (C := RX5) (F := TX5) (N := 5) rfl (g_V q320 q258 q259 q36 q260) yd_X5_home ⟨Nat.le_of_ble_eq_true rfl, Nat.le_of_ble_eq_true rfl⟩ [] rfl (Nat.le_of_ble_eq_true rfl) hl.1 ⟨Nat.le_refl _, Nat.le_refl _⟩ dX6_belongs_12 (fun H locs hP hS => ?_)
    refine lv_goto (tgt := 21) hx hb dX6_belongs_15 (by decide) ?_
    obtain rfl := Option.some.inj h
    exact hend _ _ _ _ dX6_belongs_21 rfl hP hS
set_option maxHeartbeats 4000000 in
set_option maxRecDepth 100000 in
theorem ct_X6_gap (l : Launch) (D : va_G) (a : Nat → Nat) (cA cT : ClassId) (hI : WI a TC) (g : MG) (x0 : Int32) (x1 : Int32)  (r : Int32) (h : m_X6_gap g x0 x1 = some r) :
    CtI l D a cA cT TC yX6_gap (Cond.code yX6_gap cX6_gap 4 (some .int) :: lw_all) (rmm 4 86) [.ref (a 0), .int x0, .int x1] g r g := by
  refine CtI.of (by decide +kernel) (Nat.le_of_ble_eq_true rfl) ?_
  intro p e s m args below meth c Q ls hx hb hml hown hts hK hP hS hl hend
  have hl : lv_has ls 4 [(0, .ref (a 0)), (1, .int x0), (2, .int x1)] := hl
  unfold m_X6_gap at h
  refine lv_iload_n hx hb dX6_gap_0 rfl (lv_at hl 1 rfl) ?_
  refine lv_if_lt (tgt := 13) hx hb dX6_gap_1 (by decide) (fun hc => ?_) (fun hc => ?_)
  · have h := ite_t hc h
    refine lv_sipush (v := (-1002 : Int32)) hx hb dX6_gap_13 (by decide) ?_
    obtain rfl := Option.some.inj h
    exact hend _ _ _ _ dX6_gap_16 rfl hP hS
  · have h := ite_f hc h
    refine lv_iload_n hx hb dX6_gap_4 rfl (lv_at hl 2 rfl) ?_
    refine lv_if_lt (tgt := 13) hx hb dX6_gap_5 (by decide) (fun hc => ?_) (fun hc => ?_)
    · have h := ite_t hc h
      refine lv_sipush (v := (-1002 : Int32)) hx hb dX6_gap_13 (by decide) ?_
      obtain rfl := Option.some.inj h
      exact hend _ _ _ _ dX6_gap_16 rfl hP hS
    · have h := ite_f hc h
      refine lv_iload_n hx hb dX6_gap_8 rfl (lv_at hl 2 rfl) ?_
      refine lv_iconst (v := (1 : Int32)) hx hb dX6_gap_9 (by decide) ?_
      refine lv_icmp_le (tgt := 17) hx hb dX6_gap_10 (by decide) (fun hc => ?_) (fun hc => ?_)
      · have h := ite_t hc h
        refine lv_aload_n hx hb dX6_gap_17 rfl (lv_at hl 0 rfl) ?_
        refine x_getr hx hb hts inX6 hown hK hP tF_0 (C := RX6) (F := TX6) (N := 5) rfl 0 (by decide) q168 rfl (20 + 15 * 0) rfl dX6_gap_18 ?_
        refine x_getr hx hb hts inX5 hown hK hP (tT_20 hz0) (C := RX5) (F := TX5) (N := 5) rfl 1 (by decide) q103 rfl (22 + 15 * 0) rfl dX6_gap_21 ?_
        refine lv_iload_n hx hb dX6_gap_24 rfl (lv_at hl 1 rfl) ?_
        obtain ⟨r25, hcal, h⟩ := bnd_s h
        refine x_VI (As := [.int x0]) hx hb hml hown hts hK hP hS (ct_X4_gapRanked l D a cA cT hI g 0 x0 hz0 r25 hcal) (tT_22 hz0) (C := RX4) (F := TX4) (N := 5) rfl (g_V q388 q389 q390 q39 q391) yd_X4_gapRanked ⟨Nat.le_of_ble_eq_true rfl, Nat.le_of_ble_eq_true rfl⟩ [] rfl (Nat.le_of_ble_eq_true rfl) hl.1 ⟨Nat.le_refl _, Nat.le_refl _⟩ dX6_gap_25 (fun H locs hP hS => ?_)
        refine lv_istore_n (lv' := [(3, .int r25), (0, .ref (a 0)), (1, .int x0), (2, .int x1)]) hx hb dX6_gap_28 rfl hl (by decide) rfl (fun ls hl => ?_)
        refine lv_iload_n hx hb dX6_gap_29 rfl (lv_at hl 0 rfl) ?_
        refine lv_sipush (v := (-1005 : Int32)) hx hb dX6_gap_30 (by decide) ?_
        refine lv_icmp_ne (tgt := 40) hx hb dX6_gap_33 (by decide) (fun hc => ?_) (fun hc => ?_)
        · have h := ite_f hc h
          refine lv_iload_n hx hb dX6_gap_40 rfl (lv_at hl 3 rfl) ?_
          refine lv_if_ne (tgt := 58) hx hb dX6_gap_41 (by decide) (fun hc => ?_) (fun hc => ?_)
          · have h := ite_f hc h
            refine lv_aload_n hx hb dX6_gap_58 rfl (lv_at hl 1 rfl) ?_
            refine x_getr hx hb hts inX6 hown hK hP tF_0 (C := RX6) (F := TX6) (N := 5) rfl 0 (by decide) q168 rfl (20 + 15 * 0) rfl dX6_gap_59 ?_
            refine x_getr hx hb hts inX5 hown hK hP (tT_20 hz0) (C := RX5) (F := TX5) (N := 5) rfl 1 (by decide) q103 rfl (22 + 15 * 0) rfl dX6_gap_62 ?_
            refine lv_iload_n hx hb dX6_gap_65 rfl (lv_at hl 0 rfl) ?_
            obtain ⟨r66, hcal, h⟩ := bnd_s h
            refine x_VI (As := [.int r25]) hx hb hml hown hts hK hP hS (ct_X4_gapHigh l D a cA cT hI g 0 r25 hz0 r66 hcal) (tT_22 hz0) (C := RX4) (F := TX4) (N := 5) rfl (g_V q393 q288 q289 q39 q290) yd_X4_gapHigh ⟨Nat.le_of_ble_eq_true rfl, Nat.le_of_ble_eq_true rfl⟩ [] rfl (Nat.le_of_ble_eq_true rfl) hl.1 ⟨Nat.le_refl _, Nat.le_refl _⟩ dX6_gap_66 (fun H locs hP hS => ?_)
            refine lv_iconst (v := (1 : Int32)) hx hb dX6_gap_69 (by decide) ?_
            refine lv_isub hx hb dX6_gap_70 ?_
            obtain rfl := Option.some.inj h
            exact hend _ _ _ _ dX6_gap_71 rfl hP hS
          · have h := ite_t hc h
            refine lv_aload_n hx hb dX6_gap_44 rfl (lv_at hl 1 rfl) ?_
            refine x_getr hx hb hts inX6 hown hK hP tF_0 (C := RX6) (F := TX6) (N := 5) rfl 0 (by decide) q168 rfl (20 + 15 * 0) rfl dX6_gap_45 ?_
            refine x_getr hx hb hts inX5 hown hK hP (tT_20 hz0) (C := RX5) (F := TX5) (N := 5) rfl 1 (by decide) q103 rfl (22 + 15 * 0) rfl dX6_gap_48 ?_
            refine lv_iload_n hx hb dX6_gap_51 rfl (lv_at hl 0 rfl) ?_
            obtain ⟨r52, hcal, h⟩ := bnd_s h
            refine x_VI (As := [.int r25]) hx hb hml hown hts hK hP hS (ct_X4_gapLow l D a cA cT hI g 0 r25 hz0 r52 hcal) (tT_22 hz0) (C := RX4) (F := TX4) (N := 5) rfl (g_V q392 q284 q285 q39 q286) yd_X4_gapLow ⟨Nat.le_of_ble_eq_true rfl, Nat.le_of_ble_eq_true rfl⟩ [] rfl (Nat.le_of_ble_eq_true rfl) hl.1 ⟨Nat.le_refl _, Nat.le_refl _⟩ dX6_gap_52 (fun H locs hP hS => ?_)
            refine lv_goto (tgt := 71) hx hb dX6_gap_55 (by decide) ?_
            obtain rfl := Option.some.inj h
            exact hend _ _ _ _ dX6_gap_71 rfl hP hS
        · have h := ite_t hc h
          refine lv_sipush (v := (-1005 : Int32)) hx hb dX6_gap_36 (by decide) ?_
          obtain rfl := Option.some.inj h
          exact hend _ _ _ _ dX6_gap_39 rfl hP hS
      · have h := ite_f hc h
        refine lv_sipush (v := (-1002 : Int32)) hx hb dX6_gap_13 (by decide) ?_
        obtain rfl := Option.some.inj h
        exact hend _ _ _ _ dX6_gap_16 rfl hP hS
set_option maxHeartbeats 4000000 in
set_option maxRecDepth 100000 in
theorem ct_X6_stray (l : Launch) (D : va_G) (a : Nat → Nat) (cA cT : ClassId) (hI : WI a TC) (g : MG) (x0 : Int32)  (r : Int32) (h : m_X6_stray g x0 = some r) :
    CtI l D a cA cT TC yX6_stray (Cond.code yX6_stray cX6_stray 4 (some .int) :: lw_all) (rmm 5 107) [.ref (a 0), .int x0] g r g := by
  refine CtI.of (by decide +kernel) (Nat.le_of_ble_eq_true rfl) ?_
  intro p e s m args below meth c Q ls hx hb hml hown hts hK hP hS hl hend
  have hl : lv_has ls 4 [(0, .ref (a 0)), (1, .int x0)] := hl
  unfold m_X6_stray at h
  refine lv_iload_n hx hb dX6_stray_0 rfl (lv_at hl 1 rfl) ?_
  refine lv_if_ge (tgt := 8) hx hb dX6_stray_1 (by decide) (fun hc => ?_) (fun hc => ?_)
  · have h := ite_t hc h
    refine lv_iconst (v := (0 : Int32)) hx hb dX6_stray_8 (by decide) ?_
    refine lv_istore_n (lv' := [(2, .int (0 : Int32)), (0, .ref (a 0)), (1, .int x0)]) hx hb dX6_stray_9 rfl hl (by decide) rfl (fun ls hl => ?_)
    refine lv_iconst (v := (0 : Int32)) hx hb dX6_stray_10 (by decide) ?_
    refine lv_istore_n (lv' := [(3, .int (0 : Int32)), (2, .int (0 : Int32)), (0, .ref (a 0)), (1, .int x0)]) hx hb dX6_stray_11 rfl hl (by decide) rfl (fun ls hl => ?_)
    have K12 : ∀ (n12 : Nat) (v2 : Int32) (v3 : Int32) (H : Heap) (locs : List Loc) (ls : Array Slot), WP D a cA cT TC g H → va_S (AA a TC) s.heap H locs → lv_has ls 4 [(0, .ref (a 0)), (1, .int x0), (2, .int v2), (3, .int v3)] → lpo (b_X6_stray_L12 g x0) n12 (v2, v3) = some r → W p l e (rmm 5 107) s m args below meth c H locs 0 0 Q (F0 m 12 ls []) := by
      intro n12
      induction n12 with
      | zero => intro v2 v3 H locs ls hP hS hl h; exact (lpo_0 h).elim
      | succ n12 ih12 =>
        intro v2 v3 H locs ls hP hS hl h
        have h : m_X6_stray_L12 (lpo (b_X6_stray_L12 g x0) n12) g x0 v2 v3 = some r := h
        unfold m_X6_stray_L12 at h
        refine lv_iload_n hx hb dX6_stray_12 rfl (lv_at hl 3 rfl) ?_
        refine lv_aload_n hx hb dX6_stray_13 rfl (lv_at hl 0 rfl) ?_
        refine x_getr hx hb hts inX6 hown hK hP tF_0 (C := RX6) (F := TX6) (N := 5) rfl 0 (by decide) q168 rfl (20 + 15 * 0) rfl dX6_stray_14 ?_
        refine x_getr hx hb hts inX5 hown hK hP (tT_20 hz0) (C := RX5) (F := TX5) (N := 5) rfl 0 (by decide) q101 rfl (21 + 15 * 0) rfl dX6_stray_17 ?_
        refine x_get hx hb hts inX3 hown hK hP (tT_21 hz0) (C := RX3) (F := TX3) (N := 4) rfl 3 (by decide) q75 rfl rfl dX6_stray_20 ?_
        refine lv_icmp_ge (tgt := 53) hx hb dX6_stray_23 (by decide) (fun hc => ?_) (fun hc => ?_)
        · have h := ite_t hc h
          refine lv_sipush (v := (-1005 : Int32)) hx hb dX6_stray_53 (by decide) ?_
          obtain rfl := Option.some.inj h
          exact hend _ _ _ _ dX6_stray_56 rfl hP hS
        · have h := ite_f hc h
          refine lv_aload_n hx hb dX6_stray_26 rfl (lv_at hl 0 rfl) ?_
          refine x_getr hx hb hts inX6 hown hK hP tF_0 (C := RX6) (F := TX6) (N := 5) rfl 0 (by decide) q168 rfl (20 + 15 * 0) rfl dX6_stray_27 ?_
          refine lv_iload_n hx hb dX6_stray_30 rfl (lv_at hl 3 rfl) ?_
          obtain ⟨r31, hcal, h⟩ := bnd_s h
          refine x_VI (As := [.int v3]) hx hb hml hown hts hK hP hS (ct_X5_isStray l D a cA cT hI g 0 v3 hz0 r31 hcal) (tT_20 hz0) (C := RX5) (F := TX5) (N := 5) rfl (g_V q321 q252 q253 q36 q254) yd_X5_isStray ⟨Nat.le_of_ble_eq_true rfl, Nat.le_of_ble_eq_true rfl⟩ [] rfl (Nat.le_of_ble_eq_true rfl) hl.1 ⟨Nat.le_refl _, Nat.le_refl _⟩ dX6_stray_31 (fun H locs hP hS => ?_)
          refine lv_if_eq (tgt := 47) hx hb dX6_stray_34 (by decide) (fun hc => ?_) (fun hc => ?_)
          · have h := ite_t hc h
            refine lv_iinc (v := (v3 + (1 : Int32))) (lv' := [(3, .int (v3 + (1 : Int32))), (0, .ref (a 0)), (1, .int x0), (2, .int v2)]) hx hb dX6_stray_47 hl (k := 3) rfl rfl (by decide) rfl (fun ls hl => ?_)
            refine lv_goto (tgt := 12) hx hb dX6_stray_50 (by decide) ?_
            exact ih12 v2 (v3 + (1 : Int32)) _ _ _ hP hS (lv_sub hl [1, 2, 3, 0] rfl) h
          · have h := ite_f hc h
            refine lv_iload_n hx hb dX6_stray_37 rfl (lv_at hl 2 rfl) ?_
            refine lv_iload_n hx hb dX6_stray_38 rfl (lv_at hl 1 rfl) ?_
            refine lv_icmp_ne (tgt := 44) hx hb dX6_stray_39 (by decide) (fun hc => ?_) (fun hc => ?_)
            · have h := ite_f hc h
              refine lv_iinc (v := (v2 + (1 : Int32))) (lv' := [(2, .int (v2 + (1 : Int32))), (0, .ref (a 0)), (1, .int x0), (3, .int v3)]) hx hb dX6_stray_44 hl (k := 2) rfl rfl (by decide) rfl (fun ls hl => ?_)
              refine lv_iinc (v := (v3 + (1 : Int32))) (lv' := [(3, .int (v3 + (1 : Int32))), (2, .int (v2 + (1 : Int32))), (0, .ref (a 0)), (1, .int x0)]) hx hb dX6_stray_47 hl (k := 3) rfl rfl (by decide) rfl (fun ls hl => ?_)
              refine lv_goto (tgt := 12) hx hb dX6_stray_50 (by decide) ?_
              exact ih12 (v2 + (1 : Int32)) (v3 + (1 : Int32)) _ _ _ hP hS (lv_sub hl [2, 3, 1, 0] rfl) h
            · have h := ite_t hc h
              refine lv_iload_n hx hb dX6_stray_42 rfl (lv_at hl 3 rfl) ?_
              obtain rfl := Option.some.inj h
              exact hend _ _ _ _ dX6_stray_43 rfl hP hS
    exact K12 fuelN (0 : Int32) (0 : Int32) _ _ _ hP hS (lv_sub hl [2, 3, 1, 0] rfl) h
  · have h := ite_f hc h
    refine lv_sipush (v := (-1002 : Int32)) hx hb dX6_stray_4 (by decide) ?_
    obtain rfl := Option.some.inj h
    exact hend _ _ _ _ dX6_stray_7 rfl hP hS
set_option maxHeartbeats 4000000 in
set_option maxRecDepth 100000 in
theorem ct_X6_count (l : Launch) (D : va_G) (a : Nat → Nat) (cA cT : ClassId) (hI : WI a TC) (g : MG) (x0 : Int32)  (r : Int32) (h : m_X6_count g x0 = some r) :
    CtI l D a cA cT TC yX6_count (Cond.code yX6_count cX6_count 2 (some .int) :: lw_all) (rmm 6 129) [.ref (a 0), .int x0] g r g := by
  refine CtI.of (by decide +kernel) (Nat.le_of_ble_eq_true rfl) ?_
  intro p e s m args below meth c Q ls hx hb hml hown hts hK hP hS hl hend
  have hl : lv_has ls 2 [(0, .ref (a 0)), (1, .int x0)] := hl
  unfold m_X6_count at h
  refine lv_iload_n hx hb dX6_count_0 rfl (lv_at hl 1 rfl) ?_
  by_cases hs0 : x0 = (0 : Int32)
  · have h := ite_t hs0 h
    refine lv_tableIn (off := 67) (tgt := 68) hx hb dX6_count_1 (by rw [hs0]; decide) (by rw [hs0]; decide) (by rw [hs0]; rfl) (by decide) ?_
    refine lv_aload_n hx hb dX6_count_68 rfl (lv_at hl 0 rfl) ?_
    refine x_getr hx hb hts inX6 hown hK hP tF_0 (C := RX6) (F := TX6) (N := 5) rfl 0 (by decide) q168 rfl (20 + 15 * 0) rfl dX6_count_69 ?_
    refine x_getr hx hb hts inX5 hown hK hP (tT_20 hz0) (C := RX5) (F := TX5) (N := 5) rfl 1 (by decide) q103 rfl (22 + 15 * 0) rfl dX6_count_72 ?_
    refine x_get hx hb hts inX4 hown hK hP (tT_22 hz0) (C := RX4) (F := TX4) (N := 5) rfl 3 (by decide) q92 rfl rfl dX6_count_75 ?_
    obtain rfl := Option.some.inj h
    exact hend _ _ _ _ dX6_count_78 rfl hP hS
  have h := ite_f hs0 h
  by_cases hs1 : x0 = (1 : Int32)
  · have h := ite_t hs1 h
    refine lv_tableIn (off := 78) (tgt := 79) hx hb dX6_count_1 (by rw [hs1]; decide) (by rw [hs1]; decide) (by rw [hs1]; rfl) (by decide) ?_
    refine lv_aload_n hx hb dX6_count_79 rfl (lv_at hl 0 rfl) ?_
    refine x_getr hx hb hts inX6 hown hK hP tF_0 (C := RX6) (F := TX6) (N := 5) rfl 0 (by decide) q168 rfl (20 + 15 * 0) rfl dX6_count_80 ?_
    refine x_getr hx hb hts inX5 hown hK hP (tT_20 hz0) (C := RX5) (F := TX5) (N := 5) rfl 1 (by decide) q103 rfl (22 + 15 * 0) rfl dX6_count_83 ?_
    refine x_get hx hb hts inX4 hown hK hP (tT_22 hz0) (C := RX4) (F := TX4) (N := 5) rfl 4 (by decide) q94 rfl rfl dX6_count_86 ?_
    obtain rfl := Option.some.inj h
    exact hend _ _ _ _ dX6_count_89 rfl hP hS
  have h := ite_f hs1 h
  by_cases hs2 : x0 = (2 : Int32)
  · have h := ite_t hs2 h
    refine lv_tableIn (off := 89) (tgt := 90) hx hb dX6_count_1 (by rw [hs2]; decide) (by rw [hs2]; decide) (by rw [hs2]; rfl) (by decide) ?_
    refine lv_aload_n hx hb dX6_count_90 rfl (lv_at hl 0 rfl) ?_
    refine x_getr hx hb hts inX6 hown hK hP tF_0 (C := RX6) (F := TX6) (N := 5) rfl 0 (by decide) q168 rfl (20 + 15 * 0) rfl dX6_count_91 ?_
    refine x_getr hx hb hts inX5 hown hK hP (tT_20 hz0) (C := RX5) (F := TX5) (N := 5) rfl 0 (by decide) q101 rfl (21 + 15 * 0) rfl dX6_count_94 ?_
    obtain ⟨r97, hcal, h⟩ := bnd_s h
    refine x_VI (As := []) hx hb hml hown hts hK hP hS (ct_X3_amountInTable l D a cA cT hI g 0 hz0 r97 hcal) (tT_21 hz0) (C := RX3) (F := TX3) (N := 4) rfl (g_V q216 q217 q218 q37 q219) yd_X3_amountInTable ⟨Nat.le_of_ble_eq_true rfl, Nat.le_of_ble_eq_true rfl⟩ [] rfl (Nat.le_of_ble_eq_true rfl) hl.1 ⟨Nat.le_refl _, Nat.le_refl _⟩ dX6_count_97 (fun H locs hP hS => ?_)
    obtain rfl := Option.some.inj h
    exact hend _ _ _ _ dX6_count_100 rfl hP hS
  have h := ite_f hs2 h
  by_cases hs3 : x0 = (3 : Int32)
  · have h := ite_t hs3 h
    refine lv_tableIn (off := 100) (tgt := 101) hx hb dX6_count_1 (by rw [hs3]; decide) (by rw [hs3]; decide) (by rw [hs3]; rfl) (by decide) ?_
    refine lv_aload_n hx hb dX6_count_101 rfl (lv_at hl 0 rfl) ?_
    refine x_getr hx hb hts inX6 hown hK hP tF_0 (C := RX6) (F := TX6) (N := 5) rfl 0 (by decide) q168 rfl (20 + 15 * 0) rfl dX6_count_102 ?_
    refine x_getr hx hb hts inX5 hown hK hP (tT_20 hz0) (C := RX5) (F := TX5) (N := 5) rfl 0 (by decide) q101 rfl (21 + 15 * 0) rfl dX6_count_105 ?_
    refine lv_bipush (v := (61 : Int32)) hx hb dX6_count_108 (by decide) ?_
    obtain ⟨r110, hcal, h⟩ := bnd_s h
    refine x_VI (As := [.int (61 : Int32)]) hx hb hml hown hts hK hP hS (ct_X3_amountAt l D a cA cT hI g 0 (61 : Int32) hz0 r110 hcal) (tT_21 hz0) (C := RX3) (F := TX3) (N := 4) rfl (g_V q232 q233 q234 q37 q235) yd_X3_amountAt ⟨Nat.le_of_ble_eq_true rfl, Nat.le_of_ble_eq_true rfl⟩ [] rfl (Nat.le_of_ble_eq_true rfl) hl.1 ⟨Nat.le_refl _, Nat.le_refl _⟩ dX6_count_110 (fun H locs hP hS => ?_)
    obtain rfl := Option.some.inj h
    exact hend _ _ _ _ dX6_count_113 rfl hP hS
  have h := ite_f hs3 h
  by_cases hs4 : x0 = (4 : Int32)
  · have h := ite_t hs4 h
    refine lv_tableIn (off := 113) (tgt := 114) hx hb dX6_count_1 (by rw [hs4]; decide) (by rw [hs4]; decide) (by rw [hs4]; rfl) (by decide) ?_
    refine lv_aload_n hx hb dX6_count_114 rfl (lv_at hl 0 rfl) ?_
    refine x_getr hx hb hts inX6 hown hK hP tF_0 (C := RX6) (F := TX6) (N := 5) rfl 0 (by decide) q168 rfl (20 + 15 * 0) rfl dX6_count_115 ?_
    refine x_getr hx hb hts inX5 hown hK hP (tT_20 hz0) (C := RX5) (F := TX5) (N := 5) rfl 0 (by decide) q101 rfl (21 + 15 * 0) rfl dX6_count_118 ?_
    refine x_get hx hb hts inX3 hown hK hP (tT_21 hz0) (C := RX3) (F := TX3) (N := 4) rfl 3 (by decide) q75 rfl rfl dX6_count_121 ?_
    obtain rfl := Option.some.inj h
    exact hend _ _ _ _ dX6_count_124 rfl hP hS
  have h := ite_f hs4 h
  by_cases hs5 : x0 = (5 : Int32)
  · have h := ite_t hs5 h
    refine lv_tableIn (off := 124) (tgt := 125) hx hb dX6_count_1 (by rw [hs5]; decide) (by rw [hs5]; decide) (by rw [hs5]; rfl) (by decide) ?_
    refine lv_aload_n hx hb dX6_count_125 rfl (lv_at hl 0 rfl) ?_
    refine x_getr hx hb hts inX6 hown hK hP tF_0 (C := RX6) (F := TX6) (N := 5) rfl 0 (by decide) q168 rfl (20 + 15 * 0) rfl dX6_count_126 ?_
    obtain ⟨r129, hcal, h⟩ := bnd_s h
    refine x_VI (As := []) hx hb hml hown hts hK hP hS (ct_X5_strays l D a cA cT hI g 0 hz0 r129 hcal) (tT_20 hz0) (C := RX5) (F := TX5) (N := 5) rfl (g_V q247 q248 q249 q36 q250) yd_X5_strays ⟨Nat.le_of_ble_eq_true rfl, Nat.le_of_ble_eq_true rfl⟩ [] rfl (Nat.le_of_ble_eq_true rfl) hl.1 ⟨Nat.le_refl _, Nat.le_refl _⟩ dX6_count_129 (fun H locs hP hS => ?_)
    obtain rfl := Option.some.inj h
    exact hend _ _ _ _ dX6_count_132 rfl hP hS
  have h := ite_f hs5 h
  by_cases hs6 : x0 = (6 : Int32)
  · have h := ite_t hs6 h
    refine lv_tableIn (off := 132) (tgt := 133) hx hb dX6_count_1 (by rw [hs6]; decide) (by rw [hs6]; decide) (by rw [hs6]; rfl) (by decide) ?_
    refine lv_aload_n hx hb dX6_count_133 rfl (lv_at hl 0 rfl) ?_
    refine x_getr hx hb hts inX6 hown hK hP tF_0 (C := RX6) (F := TX6) (N := 5) rfl 0 (by decide) q168 rfl (20 + 15 * 0) rfl dX6_count_134 ?_
    refine x_get hx hb hts inX5 hown hK hP (tT_20 hz0) (C := RX5) (F := TX5) (N := 5) rfl 2 (by decide) q105 rfl rfl dX6_count_137 ?_
    refine lv_if_eq (tgt := 147) hx hb dX6_count_140 (by decide) (fun hc => ?_) (fun hc => ?_)
    · have h := ite_t hc h
      refine lv_iconst (v := (0 : Int32)) hx hb dX6_count_147 (by decide) ?_
      obtain rfl := Option.some.inj h
      exact hend _ _ _ _ dX6_count_148 rfl hP hS
    · have h := ite_f hc h
      refine lv_iconst (v := (1 : Int32)) hx hb dX6_count_143 (by decide) ?_
      refine lv_goto (tgt := 148) hx hb dX6_count_144 (by decide) ?_
      obtain rfl := Option.some.inj h
      exact hend _ _ _ _ dX6_count_148 rfl hP hS
  have h := ite_f hs6 h
  by_cases hs7 : x0 = (7 : Int32)
  · have h := ite_t hs7 h
    refine lv_tableIn (off := 148) (tgt := 149) hx hb dX6_count_1 (by rw [hs7]; decide) (by rw [hs7]; decide) (by rw [hs7]; rfl) (by decide) ?_
    refine lv_aload_n hx hb dX6_count_149 rfl (lv_at hl 0 rfl) ?_
    refine x_getr hx hb hts inX6 hown hK hP tF_0 (C := RX6) (F := TX6) (N := 5) rfl 0 (by decide) q168 rfl (20 + 15 * 0) rfl dX6_count_150 ?_
    refine x_getr hx hb hts inX5 hown hK hP (tT_20 hz0) (C := RX5) (F := TX5) (N := 5) rfl 1 (by decide) q103 rfl (22 + 15 * 0) rfl dX6_count_153 ?_
    obtain ⟨r156, hcal, h⟩ := bnd_s h
    refine x_VI (As := []) hx hb hml hown hts hK hP hS (ct_X4_gaps l D a cA cT hI g 0 hz0 r156 hcal) (tT_22 hz0) (C := RX4) (F := TX4) (N := 5) rfl (g_V q279 q280 q281 q39 q282) yd_X4_gaps ⟨Nat.le_of_ble_eq_true rfl, Nat.le_of_ble_eq_true rfl⟩ [] rfl (Nat.le_of_ble_eq_true rfl) hl.1 ⟨Nat.le_refl _, Nat.le_refl _⟩ dX6_count_156 (fun H locs hP hS => ?_)
    obtain rfl := Option.some.inj h
    exact hend _ _ _ _ dX6_count_159 rfl hP hS
  have h := ite_f hs7 h
  by_cases hs8 : x0 = (8 : Int32)
  · have h := ite_t hs8 h
    refine lv_tableIn (off := 159) (tgt := 160) hx hb dX6_count_1 (by rw [hs8]; decide) (by rw [hs8]; decide) (by rw [hs8]; rfl) (by decide) ?_
    refine lv_aload_n hx hb dX6_count_160 rfl (lv_at hl 0 rfl) ?_
    refine x_getr hx hb hts inX6 hown hK hP tF_0 (C := RX6) (F := TX6) (N := 5) rfl 0 (by decide) q168 rfl (20 + 15 * 0) rfl dX6_count_161 ?_
    refine x_getr hx hb hts inX5 hown hK hP (tT_20 hz0) (C := RX5) (F := TX5) (N := 5) rfl 1 (by decide) q103 rfl (22 + 15 * 0) rfl dX6_count_164 ?_
    obtain ⟨r167, hcal, h⟩ := bnd_s h
    refine x_VI (As := []) hx hb hml hown hts hK hP hS (ct_X4_freeKeys l D a cA cT hI g 0 hz0 r167 hcal) (tT_22 hz0) (C := RX4) (F := TX4) (N := 5) rfl (g_V q291 q292 q293 q39 q294) yd_X4_freeKeys ⟨Nat.le_of_ble_eq_true rfl, Nat.le_of_ble_eq_true rfl⟩ [] rfl (Nat.le_of_ble_eq_true rfl) hl.1 ⟨Nat.le_refl _, Nat.le_refl _⟩ dX6_count_167 (fun H locs hP hS => ?_)
    obtain rfl := Option.some.inj h
    exact hend _ _ _ _ dX6_count_170 rfl hP hS
  have h := ite_f hs8 h
  by_cases hs9 : x0 = (9 : Int32)
  · have h := ite_t hs9 h
    refine lv_tableIn (off := 170) (tgt := 171) hx hb dX6_count_1 (by rw [hs9]; decide) (by rw [hs9]; decide) (by rw [hs9]; rfl) (by decide) ?_
    refine lv_aload_n hx hb dX6_count_171 rfl (lv_at hl 0 rfl) ?_
    refine x_getr hx hb hts inX6 hown hK hP tF_0 (C := RX6) (F := TX6) (N := 5) rfl 0 (by decide) q168 rfl (20 + 15 * 0) rfl dX6_count_172 ?_
    refine x_get hx hb hts inX5 hown hK hP (tT_20 hz0) (C := RX5) (F := TX5) (N := 5) rfl 3 (by decide) q107 rfl rfl dX6_count_175 ?_
    obtain rfl := Option.some.inj h
    exact hend _ _ _ _ dX6_count_178 rfl hP hS
  have h := ite_f hs9 h
  by_cases hs10 : x0 = (10 : Int32)
  · have h := ite_t hs10 h
    refine lv_tableIn (off := 178) (tgt := 179) hx hb dX6_count_1 (by rw [hs10]; decide) (by rw [hs10]; decide) (by rw [hs10]; rfl) (by decide) ?_
    refine lv_aload_n hx hb dX6_count_179 rfl (lv_at hl 0 rfl) ?_
    refine x_getr hx hb hts inX6 hown hK hP tF_0 (C := RX6) (F := TX6) (N := 5) rfl 0 (by decide) q168 rfl (20 + 15 * 0) rfl dX6_count_180 ?_
    refine x_get hx hb hts inX5 hown hK hP (tT_20 hz0) (C := RX5) (F := TX5) (N := 5) rfl 4 (by decide) q109 rfl rfl dX6_count_183 ?_
    obtain rfl := Option.some.inj h
    exact hend _ _ _ _ dX6_count_186 rfl hP hS
  have h := ite_f hs10 h
  by_cases hs11 : x0 = (11 : Int32)
  · have h := ite_t hs11 h
    refine lv_tableIn (off := 186) (tgt := 187) hx hb dX6_count_1 (by rw [hs11]; decide) (by rw [hs11]; decide) (by rw [hs11]; rfl) (by decide) ?_
    refine lv_aload_n hx hb dX6_count_187 rfl (lv_at hl 0 rfl) ?_
    refine x_getr hx hb hts inX6 hown hK hP tF_0 (C := RX6) (F := TX6) (N := 5) rfl 1 (by decide) q169 rfl 1 rfl dX6_count_188 ?_
    refine x_get hx hb hts inX1 hown hK hP tF_1 (C := RX1) (F := TX1) (N := 4) rfl 3 (by decide) q125 rfl rfl dX6_count_191 ?_
    obtain rfl := Option.some.inj h
    exact hend _ _ _ _ dX6_count_194 rfl hP hS
  have h := ite_f hs11 h
  by_cases hs12 : x0 = (12 : Int32)
  · have h := ite_t hs12 h
    refine lv_tableIn (off := 194) (tgt := 195) hx hb dX6_count_1 (by rw [hs12]; decide) (by rw [hs12]; decide) (by rw [hs12]; rfl) (by decide) ?_
    refine lv_aload_n hx hb dX6_count_195 rfl (lv_at hl 0 rfl) ?_
    refine x_getr hx hb hts inX6 hown hK hP tF_0 (C := RX6) (F := TX6) (N := 5) rfl 2 (by decide) q170 rfl 3 rfl dX6_count_196 ?_
    refine x_get hx hb hts inX2 hown hK hP tF_3 (C := RX2) (F := TX2) (N := 14) rfl 0 (by decide) q138 rfl rfl dX6_count_199 ?_
    obtain rfl := Option.some.inj h
    exact hend _ _ _ _ dX6_count_202 rfl hP hS
  have h := ite_f hs12 h
  have hq : x0.toInt ≠ 0 ∧ x0.toInt ≠ 1 ∧ x0.toInt ≠ 2 ∧ x0.toInt ≠ 3 ∧ x0.toInt ≠ 4 ∧ x0.toInt ≠ 5 ∧ x0.toInt ≠ 6 ∧ x0.toInt ≠ 7 ∧ x0.toInt ≠ 8 ∧ x0.toInt ≠ 9 ∧ x0.toInt ≠ 10 ∧ x0.toInt ≠ 11 ∧ x0.toInt ≠ 12 := ⟨sw_ne hs0 rfl, sw_ne hs1 rfl, sw_ne hs2 rfl, sw_ne hs3 rfl, sw_ne hs4 rfl, sw_ne hs5 rfl, sw_ne hs6 rfl, sw_ne hs7 rfl, sw_ne hs8 rfl, sw_ne hs9 rfl, sw_ne hs10 rfl, sw_ne hs11 rfl, sw_ne hs12 rfl⟩
  refine lv_tableOut (tgt := 203) hx hb dX6_count_1 (by omega) (by decide) ?_
  refine lv_sipush (v := (-1002 : Int32)) hx hb dX6_count_203 (by decide) ?_
  obtain rfl := Option.some.inj h
  exact hend _ _ _ _ dX6_count_206 rfl hP hS
set_option maxHeartbeats 4000000 in
set_option maxRecDepth 100000 in
theorem ct_X6_sliceMayHold (l : Launch) (D : va_G) (a : Nat → Nat) (cA cT : ClassId) (hI : WI a TC) (g : MG) (x0 : Int32) (x1 : Int32)  (r : Int32) (g' : MG) (h : m_X6_sliceMayHold g x0 x1 = some (r, g')) :
    CtI l D a cA cT TC yX6_sliceMayHold (Cond.code yX6_sliceMayHold cX6_sliceMayHold 5 (some .boolean) :: lw_all) (rmm 5 122) [.ref (a 0), .int x0, .int x1] g r g' := by
  refine CtI.of (by decide +kernel) (Nat.le_of_ble_eq_true rfl) ?_
  intro p e s m args below meth c Q ls hx hb hml hown hts hK hP hS hl hend
  have hl : lv_has ls 5 [(0, .ref (a 0)), (1, .int x0), (2, .int x1)] := hl
  unfold m_X6_sliceMayHold at h
  refine lv_aload_n hx hb dX6_sliceMayHold_0 rfl (lv_at hl 0 rfl) ?_
  refine x_getr hx hb hts inX6 hown hK hP tF_0 (C := RX6) (F := TX6) (N := 5) rfl 0 (by decide) q168 rfl (20 + 15 * 0) rfl dX6_sliceMayHold_1 ?_
  refine x_getr hx hb hts inX5 hown hK hP (tT_20 hz0) (C := RX5) (F := TX5) (N := 5) rfl 1 (by decide) q103 rfl (22 + 15 * 0) rfl dX6_sliceMayHold_4 ?_
  refine lv_iload_n hx hb dX6_sliceMayHold_7 rfl (lv_at hl 1 rfl) ?_
  obtain ⟨r8, hcal, h⟩ := bnd_s h
  refine x_VI (As := [.int x0]) hx hb hml hown hts hK hP hS (ct_X4_lowAt l D a cA cT hI g 0 x0 hz0 r8 hcal) (tT_22 hz0) (C := RX4) (F := TX4) (N := 5) rfl (g_V q344 q266 q267 q39 q268) yd_X4_lowAt ⟨Nat.le_of_ble_eq_true rfl, Nat.le_of_ble_eq_true rfl⟩ [] rfl (Nat.le_of_ble_eq_true rfl) hl.1 ⟨Nat.le_refl _, Nat.le_refl _⟩ dX6_sliceMayHold_8 (fun H locs hP hS => ?_)
  refine lv_istore_n (lv' := [(3, .int r8), (0, .ref (a 0)), (1, .int x0), (2, .int x1)]) hx hb dX6_sliceMayHold_11 rfl hl (by decide) rfl (fun ls hl => ?_)
  refine lv_aload_n hx hb dX6_sliceMayHold_12 rfl (lv_at hl 1 rfl) ?_
  refine x_getr hx hb hts inX6 hown hK hP tF_0 (C := RX6) (F := TX6) (N := 5) rfl 0 (by decide) q168 rfl (20 + 15 * 0) rfl dX6_sliceMayHold_13 ?_
  refine x_getr hx hb hts inX5 hown hK hP (tT_20 hz0) (C := RX5) (F := TX5) (N := 5) rfl 1 (by decide) q103 rfl (22 + 15 * 0) rfl dX6_sliceMayHold_16 ?_
  refine lv_iload_n hx hb dX6_sliceMayHold_19 rfl (lv_at hl 2 rfl) ?_
  obtain ⟨r20, hcal, h⟩ := bnd_s h
  refine x_VI (As := [.int x0]) hx hb hml hown hts hK hP hS (ct_X4_highAt l D a cA cT hI g 0 x0 hz0 r20 hcal) (tT_22 hz0) (C := RX4) (F := TX4) (N := 5) rfl (g_V q345 q271 q272 q39 q273) yd_X4_highAt ⟨Nat.le_of_ble_eq_true rfl, Nat.le_of_ble_eq_true rfl⟩ [] rfl (Nat.le_of_ble_eq_true rfl) hl.1 ⟨Nat.le_refl _, Nat.le_refl _⟩ dX6_sliceMayHold_20 (fun H locs hP hS => ?_)
  refine lv_iconst (v := (1 : Int32)) hx hb dX6_sliceMayHold_23 (by decide) ?_
  refine lv_isub hx hb dX6_sliceMayHold_24 ?_
  refine lv_istore (lv' := [(4, .int (r20 - (1 : Int32))), (3, .int r8), (0, .ref (a 0)), (1, .int x0), (2, .int x1)]) hx hb dX6_sliceMayHold_25 hl (by decide) rfl (fun ls hl => ?_)
  refine lv_iload_n hx hb dX6_sliceMayHold_27 rfl (lv_at hl 4 rfl) ?_
  by_cases hs1 : x1 = (1 : Int32)
  · have h := ite_t hs1 h
    refine lv_lookup (off := 28) (tgt := 56) hx hb dX6_sliceMayHold_28 (by decide) (by rw [hs1]; decide) (by decide) ?_
    refine lv_aload_n hx hb dX6_sliceMayHold_56 rfl (lv_at hl 2 rfl) ?_
    refine x_getr hx hb hts inX6 hown hK hP tF_0 (C := RX6) (F := TX6) (N := 5) rfl 2 (by decide) q170 rfl 3 rfl dX6_sliceMayHold_57 ?_
    refine lv_iload_n hx hb dX6_sliceMayHold_60 rfl (lv_at hl 1 rfl) ?_
    refine lv_iload hx hb dX6_sliceMayHold_61 (lv_at hl 0 rfl) ?_
    refine lv_iconst (v := (0 : Int32)) hx hb dX6_sliceMayHold_63 (by decide) ?_
    refine lv_iconst (v := (0 : Int32)) hx hb dX6_sliceMayHold_64 (by decide) ?_
    obtain ⟨r65, g65, hcal, h⟩ := bnd2_s h
    refine x_VI (As := [.int r8, .int (r20 - (1 : Int32)), .int (0 : Int32), .int (0 : Int32)]) hx hb hml hown hts hK hP hS (ct_X2_truth l D a cA cT hI g r8 (r20 - (1 : Int32)) (0 : Int32) (0 : Int32) r65 g65 hcal) tF_3 (C := RX2) (F := TX2) (N := 14) rfl (g_V q646 q647 q648 q41 q649) yd_X2_truth ⟨Nat.le_of_ble_eq_true rfl, Nat.le_of_ble_eq_true rfl⟩ [] rfl (Nat.le_of_ble_eq_true rfl) hl.1 ⟨Nat.le_refl _, Nat.le_refl _⟩ dX6_sliceMayHold_65 (fun H locs hP hS => ?_)
    refine lv_if_eq (tgt := 75) hx hb dX6_sliceMayHold_68 (by decide) (fun hc => ?_) (fun hc => ?_)
    · have h := ite_t hc h
      refine lv_iconst (v := (0 : Int32)) hx hb dX6_sliceMayHold_75 (by decide) ?_
      obtain ⟨rfl, rfl⟩ := Prod.mk.inj (Option.some.inj h)
      exact hend _ _ _ _ dX6_sliceMayHold_76 rfl hP hS
    · have h := ite_f hc h
      refine lv_iconst (v := (1 : Int32)) hx hb dX6_sliceMayHold_71 (by decide) ?_
      refine lv_goto (tgt := 76) hx hb dX6_sliceMayHold_72 (by decide) ?_
      obtain ⟨rfl, rfl⟩ := Prod.mk.inj (Option.some.inj h)
      exact hend _ _ _ _ dX6_sliceMayHold_76 rfl hP hS
  have h := ite_f hs1 h
  by_cases hs2 : x1 = (2 : Int32)
  · have h := ite_t hs2 h
    refine lv_lookup (off := 49) (tgt := 77) hx hb dX6_sliceMayHold_28 (by decide) (by rw [hs2]; decide) (by decide) ?_
    refine lv_aload_n hx hb dX6_sliceMayHold_77 rfl (lv_at hl 2 rfl) ?_
    refine x_getr hx hb hts inX6 hown hK hP tF_0 (C := RX6) (F := TX6) (N := 5) rfl 2 (by decide) q170 rfl 3 rfl dX6_sliceMayHold_78 ?_
    refine lv_iload_n hx hb dX6_sliceMayHold_81 rfl (lv_at hl 1 rfl) ?_
    refine lv_iload hx hb dX6_sliceMayHold_82 (lv_at hl 0 rfl) ?_
    obtain ⟨r84, g84, hcal, h⟩ := bnd2_s h
    refine x_VI (As := [.int r8, .int (r20 - (1 : Int32))]) hx hb hml hown hts hK hP hS (ct_X2_someKeyMayHold l D a cA cT hI g r8 (r20 - (1 : Int32)) r84 g84 hcal) tF_3 (C := RX2) (F := TX2) (N := 14) rfl (g_V q678 q679 q680 q41 q681) yd_X2_someKeyMayHold ⟨Nat.le_of_ble_eq_true rfl, Nat.le_of_ble_eq_true rfl⟩ [] rfl (Nat.le_of_ble_eq_true rfl) hl.1 ⟨Nat.le_refl _, Nat.le_refl _⟩ dX6_sliceMayHold_84 (fun H locs hP hS => ?_)
    obtain ⟨hz, h⟩ := ite_n h
    obtain ⟨rfl, rfl⟩ := Prod.mk.inj (Option.some.inj h)
    exact hend _ _ _ _ dX6_sliceMayHold_87 (bz_n hz) hP hS
  have h := ite_f hs2 h
  refine lv_lookup (off := 60) (tgt := 88) hx hb dX6_sliceMayHold_28 (by decide) (by simp only [Op.lookupswitch.offset, List.toList_toArray, if_neg (sw_en (n := 1) hs1 (by decide)), if_neg (sw_en (n := 2) hs2 (by decide))]) (by decide) ?_
  refine lv_iconst (v := (1 : Int32)) hx hb dX6_sliceMayHold_88 (by decide) ?_
  obtain ⟨rfl, rfl⟩ := Prod.mk.inj (Option.some.inj h)
  exact hend _ _ _ _ dX6_sliceMayHold_89 rfl hP hS
set_option maxHeartbeats 4000000 in
set_option maxRecDepth 100000 in
theorem ct_X6_someFreeKeyMayHold (l : Launch) (D : va_G) (a : Nat → Nat) (cA cT : ClassId) (hI : WI a TC) (g : MG)   (r : Int32) (g' : MG) (h : m_X6_someFreeKeyMayHold g = some (r, g')) :
    CtI l D a cA cT TC yX6_someFreeKeyMayHold (Cond.code yX6_someFreeKeyMayHold cX6_someFreeKeyMayHold 4 (some .boolean) :: lw_all) (rmm 5 122) [.ref (a 0)] g r g' := by
  refine CtI.of (by decide +kernel) (Nat.le_of_ble_eq_true rfl) ?_
  intro p e s m args below meth c Q ls hx hb hml hown hts hK hP hS hl hend
  have hl : lv_has ls 4 [(0, .ref (a 0))] := hl
  unfold m_X6_someFreeKeyMayHold at h
  refine lv_iconst (v := (0 : Int32)) hx hb dX6_someFreeKeyMayHold_0 (by decide) ?_
  refine lv_istore_n (lv' := [(1, .int (0 : Int32)), (0, .ref (a 0))]) hx hb dX6_someFreeKeyMayHold_1 rfl hl (by decide) rfl (fun ls hl => ?_)
  have K2 : ∀ (n2 : Nat) (v1 : Int32) (g2 : MG) (H : Heap) (locs : List Loc) (ls : Array Slot), WP D a cA cT TC g2 H → va_S (AA a TC) s.heap H locs → lv_has ls 4 [(0, .ref (a 0)), (1, .int v1)] → lpo (b_X6_someFreeKeyMayHold_L2) n2 (v1, g2) = some (r, g') → W p l e (rmm 5 122) s m args below meth c H locs 0 0 Q (F0 m 2 ls []) := by
    intro n2
    induction n2 with
    | zero => intro v1 g2 H locs ls hP hS hl h; exact (lpo_0 h).elim
    | succ n2 ih2 =>
      intro v1 g2 H locs ls hP hS hl h
      have h : m_X6_someFreeKeyMayHold_L2 (lpo (b_X6_someFreeKeyMayHold_L2) n2)  v1 g2 = some (r, g') := h
      unfold m_X6_someFreeKeyMayHold_L2 at h
      refine lv_iload_n hx hb dX6_someFreeKeyMayHold_2 rfl (lv_at hl 1 rfl) ?_
      refine lv_aload_n hx hb dX6_someFreeKeyMayHold_3 rfl (lv_at hl 0 rfl) ?_
      refine x_getr hx hb hts inX6 hown hK hP tF_0 (C := RX6) (F := TX6) (N := 5) rfl 0 (by decide) q168 rfl (20 + 15 * 0) rfl dX6_someFreeKeyMayHold_4 ?_
      refine x_getr hx hb hts inX5 hown hK hP (tT_20 hz0) (C := RX5) (F := TX5) (N := 5) rfl 1 (by decide) q103 rfl (22 + 15 * 0) rfl dX6_someFreeKeyMayHold_7 ?_
      refine x_get hx hb hts inX4 hown hK hP (tT_22 hz0) (C := RX4) (F := TX4) (N := 5) rfl 3 (by decide) q92 rfl rfl dX6_someFreeKeyMayHold_10 ?_
      refine lv_icmp_gt (tgt := 67) hx hb dX6_someFreeKeyMayHold_13 (by decide) (fun hc => ?_) (fun hc => ?_)
      · have h := ite_t hc h
        refine lv_iconst (v := (0 : Int32)) hx hb dX6_someFreeKeyMayHold_67 (by decide) ?_
        obtain ⟨rfl, rfl⟩ := Prod.mk.inj (Option.some.inj h)
        exact hend _ _ _ _ dX6_someFreeKeyMayHold_68 rfl hP hS
      · have h := ite_f hc h
        refine lv_aload_n hx hb dX6_someFreeKeyMayHold_16 rfl (lv_at hl 0 rfl) ?_
        refine x_getr hx hb hts inX6 hown hK hP tF_0 (C := RX6) (F := TX6) (N := 5) rfl 0 (by decide) q168 rfl (20 + 15 * 0) rfl dX6_someFreeKeyMayHold_17 ?_
        refine x_getr hx hb hts inX5 hown hK hP (tT_20 hz0) (C := RX5) (F := TX5) (N := 5) rfl 1 (by decide) q103 rfl (22 + 15 * 0) rfl dX6_someFreeKeyMayHold_20 ?_
        refine lv_iload_n hx hb dX6_someFreeKeyMayHold_23 rfl (lv_at hl 1 rfl) ?_
        obtain ⟨r24, hcal, h⟩ := bnd_s h
        refine x_VI (As := [.int v1]) hx hb hml hown hts hK hP hS (ct_X4_gapLow l D a cA cT hI g2 0 v1 hz0 r24 hcal) (tT_22 hz0) (C := RX4) (F := TX4) (N := 5) rfl (g_V q392 q284 q285 q39 q286) yd_X4_gapLow ⟨Nat.le_of_ble_eq_true rfl, Nat.le_of_ble_eq_true rfl⟩ [] rfl (Nat.le_of_ble_eq_true rfl) hl.1 ⟨Nat.le_refl _, Nat.le_refl _⟩ dX6_someFreeKeyMayHold_24 (fun H locs hP hS => ?_)
        refine lv_istore_n (lv' := [(2, .int r24), (0, .ref (a 0)), (1, .int v1)]) hx hb dX6_someFreeKeyMayHold_27 rfl hl (by decide) rfl (fun ls hl => ?_)
        refine lv_aload_n hx hb dX6_someFreeKeyMayHold_28 rfl (lv_at hl 1 rfl) ?_
        refine x_getr hx hb hts inX6 hown hK hP tF_0 (C := RX6) (F := TX6) (N := 5) rfl 0 (by decide) q168 rfl (20 + 15 * 0) rfl dX6_someFreeKeyMayHold_29 ?_
        refine x_getr hx hb hts inX5 hown hK hP (tT_20 hz0) (C := RX5) (F := TX5) (N := 5) rfl 1 (by decide) q103 rfl (22 + 15 * 0) rfl dX6_someFreeKeyMayHold_32 ?_
        refine lv_iload_n hx hb dX6_someFreeKeyMayHold_35 rfl (lv_at hl 2 rfl) ?_
        obtain ⟨r36, hcal, h⟩ := bnd_s h
        refine x_VI (As := [.int v1]) hx hb hml hown hts hK hP hS (ct_X4_gapHigh l D a cA cT hI g2 0 v1 hz0 r36 hcal) (tT_22 hz0) (C := RX4) (F := TX4) (N := 5) rfl (g_V q393 q288 q289 q39 q290) yd_X4_gapHigh ⟨Nat.le_of_ble_eq_true rfl, Nat.le_of_ble_eq_true rfl⟩ [] rfl (Nat.le_of_ble_eq_true rfl) hl.1 ⟨Nat.le_refl _, Nat.le_refl _⟩ dX6_someFreeKeyMayHold_36 (fun H locs hP hS => ?_)
        refine lv_iconst (v := (1 : Int32)) hx hb dX6_someFreeKeyMayHold_39 (by decide) ?_
        refine lv_isub hx hb dX6_someFreeKeyMayHold_40 ?_
        refine lv_istore_n (lv' := [(3, .int (r36 - (1 : Int32))), (2, .int r24), (0, .ref (a 0)), (1, .int v1)]) hx hb dX6_someFreeKeyMayHold_41 rfl hl (by decide) rfl (fun ls hl => ?_)
        refine lv_iload_n hx hb dX6_someFreeKeyMayHold_42 rfl (lv_at hl 1 rfl) ?_
        refine lv_iload_n hx hb dX6_someFreeKeyMayHold_43 rfl (lv_at hl 0 rfl) ?_
        refine lv_icmp_gt (tgt := 61) hx hb dX6_someFreeKeyMayHold_44 (by decide) (fun hc => ?_) (fun hc => ?_)
        · have h := ite_t hc h
          refine lv_iinc (v := (v1 + (1 : Int32))) (lv' := [(1, .int (v1 + (1 : Int32))), (3, .int (r36 - (1 : Int32))), (2, .int r24), (0, .ref (a 0))]) hx hb dX6_someFreeKeyMayHold_61 hl (k := 3) rfl rfl (by decide) rfl (fun ls hl => ?_)
          refine lv_goto (tgt := 2) hx hb dX6_someFreeKeyMayHold_64 (by decide) ?_
          exact ih2 (v1 + (1 : Int32)) g2 _ _ _ hP hS (lv_sub hl [3, 0] rfl) h
        · have h := ite_f hc h
          refine lv_aload_n hx hb dX6_someFreeKeyMayHold_47 rfl (lv_at hl 2 rfl) ?_
          refine x_getr hx hb hts inX6 hown hK hP tF_0 (C := RX6) (F := TX6) (N := 5) rfl 2 (by decide) q170 rfl 3 rfl dX6_someFreeKeyMayHold_48 ?_
          refine lv_iload_n hx hb dX6_someFreeKeyMayHold_51 rfl (lv_at hl 1 rfl) ?_
          refine lv_iload_n hx hb dX6_someFreeKeyMayHold_52 rfl (lv_at hl 0 rfl) ?_
          obtain ⟨r53, g53, hcal, h⟩ := bnd2_s h
          refine x_VI (As := [.int r24, .int (r36 - (1 : Int32))]) hx hb hml hown hts hK hP hS (ct_X2_someKeyMayHold l D a cA cT hI g2 r24 (r36 - (1 : Int32)) r53 g53 hcal) tF_3 (C := RX2) (F := TX2) (N := 14) rfl (g_V q678 q679 q680 q41 q681) yd_X2_someKeyMayHold ⟨Nat.le_of_ble_eq_true rfl, Nat.le_of_ble_eq_true rfl⟩ [] rfl (Nat.le_of_ble_eq_true rfl) hl.1 ⟨Nat.le_refl _, Nat.le_refl _⟩ dX6_someFreeKeyMayHold_53 (fun H locs hP hS => ?_)
          refine lv_if_eq (tgt := 61) hx hb dX6_someFreeKeyMayHold_56 (by decide) (fun hc => ?_) (fun hc => ?_)
          · have h := ite_t hc h
            refine lv_iinc (v := (v1 + (1 : Int32))) (lv' := [(1, .int (v1 + (1 : Int32))), (3, .int (r36 - (1 : Int32))), (2, .int r24), (0, .ref (a 0))]) hx hb dX6_someFreeKeyMayHold_61 hl (k := 3) rfl rfl (by decide) rfl (fun ls hl => ?_)
            refine lv_goto (tgt := 2) hx hb dX6_someFreeKeyMayHold_64 (by decide) ?_
            exact ih2 (v1 + (1 : Int32)) g53 _ _ _ hP hS (lv_sub hl [3, 0] rfl) h
          · have h := ite_f hc h
            refine lv_iconst (v := (1 : Int32)) hx hb dX6_someFreeKeyMayHold_59 (by decide) ?_
            obtain ⟨rfl, rfl⟩ := Prod.mk.inj (Option.some.inj h)
            exact hend _ _ _ _ dX6_someFreeKeyMayHold_60 rfl hP hS
  exact K2 fuelN (0 : Int32) g _ _ _ hP hS (lv_sub hl [1, 0] rfl) h
set_option maxHeartbeats 4000000 in
set_option maxRecDepth 100000 in
theorem ct_X6_markLooked (l : Launch) (D : va_G) (a : Nat → Nat) (cA cT : ClassId) (hI : WI a TC) (g : MG) (x0 : Int32)  (g' : MG) (h : m_X6_markLooked g x0 = some g') :
    CtV l D a cA cT TC yX6_markLooked (Cond.code yX6_markLooked cX6_markLooked 3 none :: lw_all) (rmm 6 146) [.ref (a 0), .int x0] g g' := by
  refine CtV.of (by decide +kernel) (Nat.le_of_ble_eq_true rfl) ?_
  intro p e s m args below meth c Q ls hx hb hml hown hts hK hP hS hl hend
  have hl : lv_has ls 3 [(0, .ref (a 0)), (1, .int x0)] := hl
  unfold m_X6_markLooked at h
  refine lv_aload_n hx hb dX6_markLooked_0 rfl (lv_at hl 0 rfl) ?_
  refine x_getr hx hb hts inX6 hown hK hP tF_0 (C := RX6) (F := TX6) (N := 5) rfl 3 (by decide) q171 rfl 4 rfl dX6_markLooked_1 ?_
  obtain ⟨g4, hcal, h⟩ := bnd_s h
  refine x_VV (As := []) hx hb hml hown hts hK hP hS (ct_X0_clear l D a cA cT hI g 5 62 4 tF_4 tF_5 g4 hcal) tF_4 (C := RX0) (F := TX0) (N := 1) rfl (g_V q544 q545 q546 q38 q547) yd_X0_clear ⟨Nat.le_of_ble_eq_true rfl, Nat.le_of_ble_eq_true rfl⟩ [] rfl (Nat.le_of_ble_eq_true rfl) hl.1 ⟨Nat.le_refl _, Nat.le_refl _⟩ dX6_markLooked_4 (fun H locs hP hS => ?_)
  refine lv_iconst (v := (0 : Int32)) hx hb dX6_markLooked_7 (by decide) ?_
  refine lv_istore_n (lv' := [(2, .int (0 : Int32)), (0, .ref (a 0)), (1, .int x0)]) hx hb dX6_markLooked_8 rfl hl (by decide) rfl (fun ls hl => ?_)
  have K9 : ∀ (n9 : Nat) (v2 : Int32) (g9 : MG) (H : Heap) (locs : List Loc) (ls : Array Slot), WP D a cA cT TC g9 H → va_S (AA a TC) s.heap H locs → lv_has ls 3 [(0, .ref (a 0)), (1, .int x0), (2, .int v2)] → lpo (b_X6_markLooked_L9 x0) n9 (v2, g9) = some g' → W p l e (rmm 6 146) s m args below meth c H locs 0 0 Q (F0 m 9 ls []) := by
    intro n9
    induction n9 with
    | zero => intro v2 g9 H locs ls hP hS hl h; exact (lpo_0 h).elim
    | succ n9 ih9 =>
      intro v2 g9 H locs ls hP hS hl h
      have h : m_X6_markLooked_L9 (lpo (b_X6_markLooked_L9 x0) n9) x0 v2 g9 = some g' := h
      unfold m_X6_markLooked_L9 at h
      refine lv_iload_n hx hb dX6_markLooked_9 rfl (lv_at hl 2 rfl) ?_
      refine lv_aload_n hx hb dX6_markLooked_10 rfl (lv_at hl 0 rfl) ?_
      refine x_getr hx hb hts inX6 hown hK hP tF_0 (C := RX6) (F := TX6) (N := 5) rfl 0 (by decide) q168 rfl (20 + 15 * 0) rfl dX6_markLooked_11 ?_
      refine x_getr hx hb hts inX5 hown hK hP (tT_20 hz0) (C := RX5) (F := TX5) (N := 5) rfl 1 (by decide) q103 rfl (22 + 15 * 0) rfl dX6_markLooked_14 ?_
      refine x_get hx hb hts inX4 hown hK hP (tT_22 hz0) (C := RX4) (F := TX4) (N := 5) rfl 3 (by decide) q92 rfl rfl dX6_markLooked_17 ?_
      refine lv_icmp_ge (tgt := 57) hx hb dX6_markLooked_20 (by decide) (fun hc => ?_) (fun hc => ?_)
      · have h := ite_t hc h
        refine lv_aload_n hx hb dX6_markLooked_57 rfl (lv_at hl 0 rfl) ?_
        refine x_getr hx hb hts inX6 hown hK hP tF_0 (C := RX6) (F := TX6) (N := 5) rfl 0 (by decide) q168 rfl (20 + 15 * 0) rfl dX6_markLooked_58 ?_
        refine x_get hx hb hts inX5 hown hK hP (tT_20 hz0) (C := RX5) (F := TX5) (N := 5) rfl 2 (by decide) q105 rfl rfl dX6_markLooked_61 ?_
        refine lv_if_eq (tgt := 89) hx hb dX6_markLooked_64 (by decide) (fun hc => ?_) (fun hc => ?_)
        · have h := ite_t hc h
          obtain rfl := Option.some.inj h
          exact hend _ _ _ _ dX6_markLooked_89 hP hS
        · have h := ite_f hc h
          refine lv_iload_n hx hb dX6_markLooked_67 rfl (lv_at hl 1 rfl) ?_
          refine lv_iconst (v := (2 : Int32)) hx hb dX6_markLooked_68 (by decide) ?_
          refine lv_icmp_ne (tgt := 79) hx hb dX6_markLooked_69 (by decide) (fun hc => ?_) (fun hc => ?_)
          · have h := ite_f hc h
            refine lv_aload_n hx hb dX6_markLooked_79 rfl (lv_at hl 0 rfl) ?_
            refine x_getr hx hb hts inX6 hown hK hP tF_0 (C := RX6) (F := TX6) (N := 5) rfl 3 (by decide) q171 rfl 4 rfl dX6_markLooked_80 ?_
            refine lv_bipush (v := (60 : Int32)) hx hb dX6_markLooked_83 (by decide) ?_
            refine lv_iconst (v := (1 : Int32)) hx hb dX6_markLooked_85 (by decide) ?_
            obtain ⟨g86, hcal, h⟩ := bnd_s h
            refine x_VV (As := [.int (60 : Int32), .int (1 : Int32)]) hx hb hml hown hts hK hP hS (ct_X0_write l D a cA cT hI g9 5 62 (60 : Int32) (1 : Int32) 4 tF_4 tF_5 g86 hcal) tF_4 (C := RX0) (F := TX0) (N := 1) rfl (g_V q549 q424 q425 q38 q426) yd_X0_write ⟨Nat.le_of_ble_eq_true rfl, Nat.le_of_ble_eq_true rfl⟩ [] rfl (Nat.le_of_ble_eq_true rfl) hl.1 ⟨Nat.le_refl _, Nat.le_refl _⟩ dX6_markLooked_86 (fun H locs hP hS => ?_)
            obtain rfl := Option.some.inj h
            exact hend _ _ _ _ dX6_markLooked_89 hP hS
          · have h := ite_t hc h
            refine lv_aload_n hx hb dX6_markLooked_72 rfl (lv_at hl 0 rfl) ?_
            obtain ⟨r73, g73, hcal, h⟩ := bnd2_s h
            refine x_VI (As := []) hx hb hml hown hts hK hP hS (ct_X6_someFreeKeyMayHold l D a cA cT hI g9 r73 g73 hcal) tF_0 (C := RX6) (F := TX6) (N := 5) rfl (g_V q686 q687 q26 q35 q688) yd_X6_someFreeKeyMayHold ⟨Nat.le_of_ble_eq_true rfl, Nat.le_of_ble_eq_true rfl⟩ [] rfl (Nat.le_of_ble_eq_true rfl) hl.1 ⟨Nat.le_refl _, Nat.le_refl _⟩ dX6_markLooked_73 (fun H locs hP hS => ?_)
            refine lv_if_eq (tgt := 89) hx hb dX6_markLooked_76 (by decide) (fun hc => ?_) (fun hc => ?_)
            · have h := ite_t hc h
              obtain rfl := Option.some.inj h
              exact hend _ _ _ _ dX6_markLooked_89 hP hS
            · have h := ite_f hc h
              refine lv_aload_n hx hb dX6_markLooked_79 rfl (lv_at hl 0 rfl) ?_
              refine x_getr hx hb hts inX6 hown hK hP tF_0 (C := RX6) (F := TX6) (N := 5) rfl 3 (by decide) q171 rfl 4 rfl dX6_markLooked_80 ?_
              refine lv_bipush (v := (60 : Int32)) hx hb dX6_markLooked_83 (by decide) ?_
              refine lv_iconst (v := (1 : Int32)) hx hb dX6_markLooked_85 (by decide) ?_
              obtain ⟨g86, hcal, h⟩ := bnd_s h
              refine x_VV (As := [.int (60 : Int32), .int (1 : Int32)]) hx hb hml hown hts hK hP hS (ct_X0_write l D a cA cT hI g73 5 62 (60 : Int32) (1 : Int32) 4 tF_4 tF_5 g86 hcal) tF_4 (C := RX0) (F := TX0) (N := 1) rfl (g_V q549 q424 q425 q38 q426) yd_X0_write ⟨Nat.le_of_ble_eq_true rfl, Nat.le_of_ble_eq_true rfl⟩ [] rfl (Nat.le_of_ble_eq_true rfl) hl.1 ⟨Nat.le_refl _, Nat.le_refl _⟩ dX6_markLooked_86 (fun H locs hP hS => ?_)
              obtain rfl := Option.some.inj h
              exact hend _ _ _ _ dX6_markLooked_89 hP hS
      · have h := ite_f hc h
        refine lv_aload_n hx hb dX6_markLooked_23 rfl (lv_at hl 0 rfl) ?_
        refine lv_iload_n hx hb dX6_markLooked_24 rfl (lv_at hl 2 rfl) ?_
        refine lv_iload_n hx hb dX6_markLooked_25 rfl (lv_at hl 1 rfl) ?_
        obtain ⟨r26, g26, hcal, h⟩ := bnd2_s h
        refine x_VI (As := [.int v2, .int x0]) hx hb hml hown hts hK hP hS (ct_X6_sliceMayHold l D a cA cT hI g9 v2 x0 r26 g26 hcal) tF_0 (C := RX6) (F := TX6) (N := 5) rfl (g_V q675 q676 q24 q35 q677) yd_X6_sliceMayHold ⟨Nat.le_of_ble_eq_true rfl, Nat.le_of_ble_eq_true rfl⟩ [] rfl (Nat.le_of_ble_eq_true rfl) hl.1 ⟨Nat.le_refl _, Nat.le_refl _⟩ dX6_markLooked_26 (fun H locs hP hS => ?_)
        refine lv_if_eq (tgt := 51) hx hb dX6_markLooked_29 (by decide) (fun hc => ?_) (fun hc => ?_)
        · have h := ite_t hc h
          refine lv_iinc (v := (v2 + (1 : Int32))) (lv' := [(2, .int (v2 + (1 : Int32))), (0, .ref (a 0)), (1, .int x0)]) hx hb dX6_markLooked_51 hl (k := 2) rfl rfl (by decide) rfl (fun ls hl => ?_)
          refine lv_goto (tgt := 9) hx hb dX6_markLooked_54 (by decide) ?_
          exact ih9 (v2 + (1 : Int32)) g26 _ _ _ hP hS (lv_sub hl [1, 2, 0] rfl) h
        · have h := ite_f hc h
          refine lv_aload_n hx hb dX6_markLooked_32 rfl (lv_at hl 0 rfl) ?_
          refine x_getr hx hb hts inX6 hown hK hP tF_0 (C := RX6) (F := TX6) (N := 5) rfl 3 (by decide) q171 rfl 4 rfl dX6_markLooked_33 ?_
          refine lv_aload_n hx hb dX6_markLooked_36 rfl (lv_at hl 0 rfl) ?_
          refine x_getr hx hb hts inX6 hown hK hP tF_0 (C := RX6) (F := TX6) (N := 5) rfl 0 (by decide) q168 rfl (20 + 15 * 0) rfl dX6_markLooked_37 ?_
          refine x_getr hx hb hts inX5 hown hK hP (tT_20 hz0) (C := RX5) (F := TX5) (N := 5) rfl 1 (by decide) q103 rfl (22 + 15 * 0) rfl dX6_markLooked_40 ?_
          refine lv_iload_n hx hb dX6_markLooked_43 rfl (lv_at hl 2 rfl) ?_
          obtain ⟨r44, hcal, h⟩ := bnd_s h
          refine x_VI (As := [.int v2]) hx hb hml hown hts hK hP hS (ct_X4_numberAt l D a cA cT hI g26 0 v2 hz0 r44 hcal) (tT_22 hz0) (C := RX4) (F := TX4) (N := 5) rfl (g_V q369 q275 q276 q39 q277) yd_X4_numberAt ⟨Nat.le_of_ble_eq_true rfl, Nat.le_of_ble_eq_true rfl⟩ [.ref (a 4)] rfl (Nat.le_of_ble_eq_true rfl) hl.1 ⟨Nat.le_refl _, Nat.le_refl _⟩ dX6_markLooked_44 (fun H locs hP hS => ?_)
          refine lv_iconst (v := (1 : Int32)) hx hb dX6_markLooked_47 (by decide) ?_
          obtain ⟨g48, hcal, h⟩ := bnd_s h
          refine x_VV (As := [.int r44, .int (1 : Int32)]) hx hb hml hown hts hK hP hS (ct_X0_write l D a cA cT hI g26 5 62 r44 (1 : Int32) 4 tF_4 tF_5 g48 hcal) tF_4 (C := RX0) (F := TX0) (N := 1) rfl (g_V q549 q424 q425 q38 q426) yd_X0_write ⟨Nat.le_of_ble_eq_true rfl, Nat.le_of_ble_eq_true rfl⟩ [] rfl (Nat.le_of_ble_eq_true rfl) hl.1 ⟨Nat.le_refl _, Nat.le_refl _⟩ dX6_markLooked_48 (fun H locs hP hS => ?_)
          refine lv_iinc (v := (v2 + (1 : Int32))) (lv' := [(2, .int (v2 + (1 : Int32))), (0, .ref (a 0)), (1, .int x0)]) hx hb dX6_markLooked_51 hl (k := 2) rfl rfl (by decide) rfl (fun ls hl => ?_)
          refine lv_goto (tgt := 9) hx hb dX6_markLooked_54 (by decide) ?_
          exact ih9 (v2 + (1 : Int32)) g48 _ _ _ hP hS (lv_sub hl [1, 2, 0] rfl) h
  exact K9 fuelN (0 : Int32) g4 _ _ _ hP hS (lv_sub hl [1, 2, 0] rfl) h
set_option maxHeartbeats 4000000 in
set_option maxRecDepth 100000 in
theorem ct_X6_isLooked (l : Launch) (D : va_G) (a : Nat → Nat) (cA cT : ClassId) (hI : WI a TC) (g : MG) (x0 : Int32)  (r : Int32) (h : m_X6_isLooked g x0 = some r) :
    CtI l D a cA cT TC yX6_isLooked (Cond.code yX6_isLooked cX6_isLooked 2 (some .boolean) :: lw_all) (rmm 2 42) [.ref (a 0), .int x0] g r g := by
  refine CtI.of (by decide +kernel) (Nat.le_of_ble_eq_true rfl) ?_
  intro p e s m args below meth c Q ls hx hb hml hown hts hK hP hS hl hend
  have hl : lv_has ls 2 [(0, .ref (a 0)), (1, .int x0)] := hl
  unfold m_X6_isLooked at h
  refine lv_aload_n hx hb dX6_isLooked_0 rfl (lv_at hl 0 rfl) ?_
  refine x_getr hx hb hts inX6 hown hK hP tF_0 (C := RX6) (F := TX6) (N := 5) rfl 3 (by decide) q171 rfl 4 rfl dX6_isLooked_1 ?_
  refine lv_aload_n hx hb dX6_isLooked_4 rfl (lv_at hl 0 rfl) ?_
  refine x_getr hx hb hts inX6 hown hK hP tF_0 (C := RX6) (F := TX6) (N := 5) rfl 0 (by decide) q168 rfl (20 + 15 * 0) rfl dX6_isLooked_5 ?_
  refine x_getr hx hb hts inX5 hown hK hP (tT_20 hz0) (C := RX5) (F := TX5) (N := 5) rfl 0 (by decide) q101 rfl (21 + 15 * 0) rfl dX6_isLooked_8 ?_
  refine lv_iload_n hx hb dX6_isLooked_11 rfl (lv_at hl 1 rfl) ?_
  obtain ⟨r12, hcal, h⟩ := bnd_s h
  refine x_VI (As := [.int x0]) hx hb hml hown hts hK hP hS (ct_X3_placeOf l D a cA cT hI g 0 x0 hz0 r12 hcal) (tT_21 hz0) (C := RX3) (F := TX3) (N := 4) rfl (g_V q319 q225 q226 q37 q227) yd_X3_placeOf ⟨Nat.le_of_ble_eq_true rfl, Nat.le_of_ble_eq_true rfl⟩ [.ref (a 4)] rfl (Nat.le_of_ble_eq_true rfl) hl.1 ⟨Nat.le_refl _, Nat.le_refl _⟩ dX6_isLooked_12 (fun H locs hP hS => ?_)
  obtain ⟨r15, hcal, h⟩ := bnd_s h
  refine x_VI (As := [.int r12]) hx hb hml hown hts hK hP hS (ct_X0_at l D a cA cT hI g 5 62 r12 4 tF_4 tF_5 r15 hcal) tF_4 (C := RX0) (F := TX0) (N := 1) rfl (g_V q548 q229 q230 q38 q231) yd_X0_at ⟨Nat.le_of_ble_eq_true rfl, Nat.le_of_ble_eq_true rfl⟩ [] rfl (Nat.le_of_ble_eq_true rfl) hl.1 ⟨Nat.le_refl _, Nat.le_refl _⟩ dX6_isLooked_15 (fun H locs hP hS => ?_)
  refine lv_iconst (v := (1 : Int32)) hx hb dX6_isLooked_18 (by decide) ?_
  refine lv_icmp_ne (tgt := 26) hx hb dX6_isLooked_19 (by decide) (fun hc => ?_) (fun hc => ?_)
  · have h := ite_f hc h
    refine lv_iconst (v := (0 : Int32)) hx hb dX6_isLooked_26 (by decide) ?_
    obtain rfl := Option.some.inj h
    exact hend _ _ _ _ dX6_isLooked_27 rfl hP hS
  · have h := ite_t hc h
    refine lv_iconst (v := (1 : Int32)) hx hb dX6_isLooked_22 (by decide) ?_
    refine lv_goto (tgt := 27) hx hb dX6_isLooked_23 (by decide) ?_
    obtain rfl := Option.some.inj h
    exact hend _ _ _ _ dX6_isLooked_27 rfl hP hS
set_option maxHeartbeats 4000000 in
set_option maxRecDepth 100000 in
theorem ct_X6_rowPasses (l : Launch) (D : va_G) (a : Nat → Nat) (cA cT : ClassId) (hI : WI a TC) (g : MG) (x0 : Int32)  (r : Int32) (g' : MG) (h : m_X6_rowPasses g x0 = some (r, g')) :
    CtI l D a cA cT TC yX6_rowPasses (Cond.code yX6_rowPasses cX6_rowPasses 3 (some .boolean) :: lw_all) (rmm 3 75) [.ref (a 0), .int x0] g r g' := by
  refine CtI.of (by decide +kernel) (Nat.le_of_ble_eq_true rfl) ?_
  intro p e s m args below meth c Q ls hx hb hml hown hts hK hP hS hl hend
  have hl : lv_has ls 3 [(0, .ref (a 0)), (1, .int x0)] := hl
  unfold m_X6_rowPasses at h
  refine lv_aload_n hx hb dX6_rowPasses_0 rfl (lv_at hl 0 rfl) ?_
  refine x_getr hx hb hts inX6 hown hK hP tF_0 (C := RX6) (F := TX6) (N := 5) rfl 0 (by decide) q168 rfl (20 + 15 * 0) rfl dX6_rowPasses_1 ?_
  refine x_getr hx hb hts inX5 hown hK hP (tT_20 hz0) (C := RX5) (F := TX5) (N := 5) rfl 0 (by decide) q101 rfl (21 + 15 * 0) rfl dX6_rowPasses_4 ?_
  refine lv_iload_n hx hb dX6_rowPasses_7 rfl (lv_at hl 1 rfl) ?_
  obtain ⟨r8, hcal, h⟩ := bnd_s h
  refine x_VI (As := [.int x0]) hx hb hml hown hts hK hP hS (ct_X3_keyOf l D a cA cT hI g 0 x0 hz0 r8 hcal) (tT_21 hz0) (C := RX3) (F := TX3) (N := 4) rfl (g_V q314 q244 q245 q37 q246) yd_X3_keyOf ⟨Nat.le_of_ble_eq_true rfl, Nat.le_of_ble_eq_true rfl⟩ [] rfl (Nat.le_of_ble_eq_true rfl) hl.1 ⟨Nat.le_refl _, Nat.le_refl _⟩ dX6_rowPasses_8 (fun H locs hP hS => ?_)
  refine lv_istore_n (lv' := [(2, .int r8), (0, .ref (a 0)), (1, .int x0)]) hx hb dX6_rowPasses_11 rfl hl (by decide) rfl (fun ls hl => ?_)
  refine lv_aload_n hx hb dX6_rowPasses_12 rfl (lv_at hl 1 rfl) ?_
  refine x_getr hx hb hts inX6 hown hK hP tF_0 (C := RX6) (F := TX6) (N := 5) rfl 2 (by decide) q170 rfl 3 rfl dX6_rowPasses_13 ?_
  refine lv_iload_n hx hb dX6_rowPasses_16 rfl (lv_at hl 0 rfl) ?_
  refine lv_iload_n hx hb dX6_rowPasses_17 rfl (lv_at hl 0 rfl) ?_
  refine lv_iconst (v := (1 : Int32)) hx hb dX6_rowPasses_18 (by decide) ?_
  refine lv_aload_n hx hb dX6_rowPasses_19 rfl (lv_at hl 1 rfl) ?_
  refine x_getr hx hb hts inX6 hown hK hP tF_0 (C := RX6) (F := TX6) (N := 5) rfl 0 (by decide) q168 rfl (20 + 15 * 0) rfl dX6_rowPasses_20 ?_
  refine x_getr hx hb hts inX5 hown hK hP (tT_20 hz0) (C := RX5) (F := TX5) (N := 5) rfl 0 (by decide) q101 rfl (21 + 15 * 0) rfl dX6_rowPasses_23 ?_
  refine lv_iload_n hx hb dX6_rowPasses_26 rfl (lv_at hl 2 rfl) ?_
  obtain ⟨r27, hcal, h⟩ := bnd_s h
  refine x_VI (As := [.int x0]) hx hb hml hown hts hK hP hS (ct_X3_valueOf l D a cA cT hI g 0 x0 hz0 r27 hcal) (tT_21 hz0) (C := RX3) (F := TX3) (N := 4) rfl (g_V q315 q316 q317 q37 q318) yd_X3_valueOf ⟨Nat.le_of_ble_eq_true rfl, Nat.le_of_ble_eq_true rfl⟩ [.int (1 : Int32), .int r8, .int r8, .ref (a 3)] rfl (Nat.le_of_ble_eq_true rfl) hl.1 ⟨Nat.le_refl _, Nat.le_refl _⟩ dX6_rowPasses_27 (fun H locs hP hS => ?_)
  obtain ⟨r30, g30, hcal, h⟩ := bnd2_s h
  refine x_VI (As := [.int r8, .int r8, .int (1 : Int32), .int r27]) hx hb hml hown hts hK hP hS (ct_X2_truth l D a cA cT hI g r8 r8 (1 : Int32) r27 r30 g30 hcal) tF_3 (C := RX2) (F := TX2) (N := 14) rfl (g_V q646 q647 q648 q41 q649) yd_X2_truth ⟨Nat.le_of_ble_eq_true rfl, Nat.le_of_ble_eq_true rfl⟩ [] rfl (Nat.le_of_ble_eq_true rfl) hl.1 ⟨Nat.le_refl _, Nat.le_refl _⟩ dX6_rowPasses_30 (fun H locs hP hS => ?_)
  refine lv_iconst (v := (2 : Int32)) hx hb dX6_rowPasses_33 (by decide) ?_
  refine lv_icmp_ne (tgt := 41) hx hb dX6_rowPasses_34 (by decide) (fun hc => ?_) (fun hc => ?_)
  · have h := ite_f hc h
    refine lv_iconst (v := (0 : Int32)) hx hb dX6_rowPasses_41 (by decide) ?_
    obtain ⟨rfl, rfl⟩ := Prod.mk.inj (Option.some.inj h)
    exact hend _ _ _ _ dX6_rowPasses_42 rfl hP hS
  · have h := ite_t hc h
    refine lv_iconst (v := (1 : Int32)) hx hb dX6_rowPasses_37 (by decide) ?_
    refine lv_goto (tgt := 42) hx hb dX6_rowPasses_38 (by decide) ?_
    obtain ⟨rfl, rfl⟩ := Prod.mk.inj (Option.some.inj h)
    exact hend _ _ _ _ dX6_rowPasses_42 rfl hP hS
set_option maxHeartbeats 4000000 in
set_option maxRecDepth 100000 in
theorem ct_X6_isAnswer (l : Launch) (D : va_G) (a : Nat → Nat) (cA cT : ClassId) (hI : WI a TC) (g : MG) (x0 : Int32)  (r : Int32) (g' : MG) (h : m_X6_isAnswer g x0 = some (r, g')) :
    CtI l D a cA cT TC yX6_isAnswer (Cond.code yX6_isAnswer cX6_isAnswer 2 (some .boolean) :: lw_all) (rmm 4 97) [.ref (a 0), .int x0] g r g' := by
  refine CtI.of (by decide +kernel) (Nat.le_of_ble_eq_true rfl) ?_
  intro p e s m args below meth c Q ls hx hb hml hown hts hK hP hS hl hend
  have hl : lv_has ls 2 [(0, .ref (a 0)), (1, .int x0)] := hl
  unfold m_X6_isAnswer at h
  refine lv_aload_n hx hb dX6_isAnswer_0 rfl (lv_at hl 0 rfl) ?_
  refine lv_iload_n hx hb dX6_isAnswer_1 rfl (lv_at hl 1 rfl) ?_
  obtain ⟨r2, hcal, h⟩ := bnd_s h
  refine x_VI (As := [.int x0]) hx hb hml hown hts hK hP hS (ct_X6_isLooked l D a cA cT hI g x0 r2 hcal) tF_0 (C := RX6) (F := TX6) (N := 5) rfl (g_V q695 q696 q29 q35 q697) yd_X6_isLooked ⟨Nat.le_of_ble_eq_true rfl, Nat.le_of_ble_eq_true rfl⟩ [] rfl (Nat.le_of_ble_eq_true rfl) hl.1 ⟨Nat.le_refl _, Nat.le_refl _⟩ dX6_isAnswer_2 (fun H locs hP hS => ?_)
  refine lv_if_eq (tgt := 20) hx hb dX6_isAnswer_5 (by decide) (fun hc => ?_) (fun hc => ?_)
  · have h := ite_t hc h
    refine lv_iconst (v := (0 : Int32)) hx hb dX6_isAnswer_20 (by decide) ?_
    obtain ⟨rfl, rfl⟩ := Prod.mk.inj (Option.some.inj h)
    exact hend _ _ _ _ dX6_isAnswer_21 rfl hP hS
  · have h := ite_f hc h
    refine lv_aload_n hx hb dX6_isAnswer_8 rfl (lv_at hl 0 rfl) ?_
    refine lv_iload_n hx hb dX6_isAnswer_9 rfl (lv_at hl 1 rfl) ?_
    obtain ⟨r10, g10, hcal, h⟩ := bnd2_s h
    refine x_VI (As := [.int x0]) hx hb hml hown hts hK hP hS (ct_X6_rowPasses l D a cA cT hI g x0 r10 g10 hcal) tF_0 (C := RX6) (F := TX6) (N := 5) rfl (g_V q643 q644 q18 q35 q645) yd_X6_rowPasses ⟨Nat.le_of_ble_eq_true rfl, Nat.le_of_ble_eq_true rfl⟩ [] rfl (Nat.le_of_ble_eq_true rfl) hl.1 ⟨Nat.le_refl _, Nat.le_refl _⟩ dX6_isAnswer_10 (fun H locs hP hS => ?_)
    refine lv_if_eq (tgt := 20) hx hb dX6_isAnswer_13 (by decide) (fun hc => ?_) (fun hc => ?_)
    · have h := ite_t hc h
      refine lv_iconst (v := (0 : Int32)) hx hb dX6_isAnswer_20 (by decide) ?_
      obtain ⟨rfl, rfl⟩ := Prod.mk.inj (Option.some.inj h)
      exact hend _ _ _ _ dX6_isAnswer_21 rfl hP hS
    · have h := ite_f hc h
      refine lv_iconst (v := (1 : Int32)) hx hb dX6_isAnswer_16 (by decide) ?_
      refine lv_goto (tgt := 21) hx hb dX6_isAnswer_17 (by decide) ?_
      obtain ⟨rfl, rfl⟩ := Prod.mk.inj (Option.some.inj h)
      exact hend _ _ _ _ dX6_isAnswer_21 rfl hP hS
set_option maxHeartbeats 4000000 in
set_option maxRecDepth 100000 in
theorem ct_X6_answerAmount (l : Launch) (D : va_G) (a : Nat → Nat) (cA cT : ClassId) (hI : WI a TC) (g : MG)   (r : Int32) (g' : MG) (h : m_X6_answerAmount g = some (r, g')) :
    CtI l D a cA cT TC yX6_answerAmount (Cond.code yX6_answerAmount cX6_answerAmount 3 (some .int) :: lw_all) (rmm 5 118) [.ref (a 0)] g r g' := by
  refine CtI.of (by decide +kernel) (Nat.le_of_ble_eq_true rfl) ?_
  intro p e s m args below meth c Q ls hx hb hml hown hts hK hP hS hl hend
  have hl : lv_has ls 3 [(0, .ref (a 0))] := hl
  unfold m_X6_answerAmount at h
  refine lv_iconst (v := (0 : Int32)) hx hb dX6_answerAmount_0 (by decide) ?_
  refine lv_istore_n (lv' := [(1, .int (0 : Int32)), (0, .ref (a 0))]) hx hb dX6_answerAmount_1 rfl hl (by decide) rfl (fun ls hl => ?_)
  refine lv_iconst (v := (0 : Int32)) hx hb dX6_answerAmount_2 (by decide) ?_
  refine lv_istore_n (lv' := [(2, .int (0 : Int32)), (1, .int (0 : Int32)), (0, .ref (a 0))]) hx hb dX6_answerAmount_3 rfl hl (by decide) rfl (fun ls hl => ?_)
  have K4 : ∀ (n4 : Nat) (v1 : Int32) (v2 : Int32) (g4 : MG) (H : Heap) (locs : List Loc) (ls : Array Slot), WP D a cA cT TC g4 H → va_S (AA a TC) s.heap H locs → lv_has ls 3 [(0, .ref (a 0)), (1, .int v1), (2, .int v2)] → lpo (b_X6_answerAmount_L4) n4 (v1, v2, g4) = some (r, g') → W p l e (rmm 5 118) s m args below meth c H locs 0 0 Q (F0 m 4 ls []) := by
    intro n4
    induction n4 with
    | zero => intro v1 v2 g4 H locs ls hP hS hl h; exact (lpo_0 h).elim
    | succ n4 ih4 =>
      intro v1 v2 g4 H locs ls hP hS hl h
      have h : m_X6_answerAmount_L4 (lpo (b_X6_answerAmount_L4) n4)  v1 v2 g4 = some (r, g') := h
      unfold m_X6_answerAmount_L4 at h
      refine lv_iload_n hx hb dX6_answerAmount_4 rfl (lv_at hl 2 rfl) ?_
      refine lv_aload_n hx hb dX6_answerAmount_5 rfl (lv_at hl 0 rfl) ?_
      refine x_getr hx hb hts inX6 hown hK hP tF_0 (C := RX6) (F := TX6) (N := 5) rfl 0 (by decide) q168 rfl (20 + 15 * 0) rfl dX6_answerAmount_6 ?_
      refine x_getr hx hb hts inX5 hown hK hP (tT_20 hz0) (C := RX5) (F := TX5) (N := 5) rfl 0 (by decide) q101 rfl (21 + 15 * 0) rfl dX6_answerAmount_9 ?_
      refine x_get hx hb hts inX3 hown hK hP (tT_21 hz0) (C := RX3) (F := TX3) (N := 4) rfl 3 (by decide) q75 rfl rfl dX6_answerAmount_12 ?_
      refine lv_icmp_ge (tgt := 35) hx hb dX6_answerAmount_15 (by decide) (fun hc => ?_) (fun hc => ?_)
      · have h := ite_t hc h
        refine lv_iload_n hx hb dX6_answerAmount_35 rfl (lv_at hl 1 rfl) ?_
        obtain ⟨rfl, rfl⟩ := Prod.mk.inj (Option.some.inj h)
        exact hend _ _ _ _ dX6_answerAmount_36 rfl hP hS
      · have h := ite_f hc h
        refine lv_aload_n hx hb dX6_answerAmount_18 rfl (lv_at hl 0 rfl) ?_
        refine lv_iload_n hx hb dX6_answerAmount_19 rfl (lv_at hl 2 rfl) ?_
        obtain ⟨r20, g20, hcal, h⟩ := bnd2_s h
        refine x_VI (As := [.int v2]) hx hb hml hown hts hK hP hS (ct_X6_isAnswer l D a cA cT hI g4 v2 r20 g20 hcal) tF_0 (C := RX6) (F := TX6) (N := 5) rfl (g_V q692 q693 q28 q35 q694) yd_X6_isAnswer ⟨Nat.le_of_ble_eq_true rfl, Nat.le_of_ble_eq_true rfl⟩ [] rfl (Nat.le_of_ble_eq_true rfl) hl.1 ⟨Nat.le_refl _, Nat.le_refl _⟩ dX6_answerAmount_20 (fun H locs hP hS => ?_)
        refine lv_if_eq (tgt := 29) hx hb dX6_answerAmount_23 (by decide) (fun hc => ?_) (fun hc => ?_)
        · have h := ite_t hc h
          refine lv_iinc (v := (v2 + (1 : Int32))) (lv' := [(2, .int (v2 + (1 : Int32))), (0, .ref (a 0)), (1, .int v1)]) hx hb dX6_answerAmount_29 hl (k := 2) rfl rfl (by decide) rfl (fun ls hl => ?_)
          refine lv_goto (tgt := 4) hx hb dX6_answerAmount_32 (by decide) ?_
          exact ih4 v1 (v2 + (1 : Int32)) g20 _ _ _ hP hS (lv_sub hl [1, 2, 0] rfl) h
        · have h := ite_f hc h
          refine lv_iinc (v := (v1 + (1 : Int32))) (lv' := [(1, .int (v1 + (1 : Int32))), (0, .ref (a 0)), (2, .int v2)]) hx hb dX6_answerAmount_26 hl (k := 1) rfl rfl (by decide) rfl (fun ls hl => ?_)
          refine lv_iinc (v := (v2 + (1 : Int32))) (lv' := [(2, .int (v2 + (1 : Int32))), (1, .int (v1 + (1 : Int32))), (0, .ref (a 0))]) hx hb dX6_answerAmount_29 hl (k := 2) rfl rfl (by decide) rfl (fun ls hl => ?_)
          refine lv_goto (tgt := 4) hx hb dX6_answerAmount_32 (by decide) ?_
          exact ih4 (v1 + (1 : Int32)) (v2 + (1 : Int32)) g20 _ _ _ hP hS (lv_sub hl [2, 1, 0] rfl) h
  exact K4 fuelN (0 : Int32) (0 : Int32) g _ _ _ hP hS (lv_sub hl [2, 1, 0] rfl) h
set_option maxHeartbeats 4000000 in
set_option maxRecDepth 100000 in
theorem ct_X6_answerSum (l : Launch) (D : va_G) (a : Nat → Nat) (cA cT : ClassId) (hI : WI a TC) (g : MG)   (r : Int32) (g' : MG) (h : m_X6_answerSum g = some (r, g')) :
    CtI l D a cA cT TC yX6_answerSum (Cond.code yX6_answerSum cX6_answerSum 3 (some .int) :: lw_all) (rmm 5 118) [.ref (a 0)] g r g' := by
  refine CtI.of (by decide +kernel) (Nat.le_of_ble_eq_true rfl) ?_
  intro p e s m args below meth c Q ls hx hb hml hown hts hK hP hS hl hend
  have hl : lv_has ls 3 [(0, .ref (a 0))] := hl
  unfold m_X6_answerSum at h
  refine lv_iconst (v := (0 : Int32)) hx hb dX6_answerSum_0 (by decide) ?_
  refine lv_istore_n (lv' := [(1, .int (0 : Int32)), (0, .ref (a 0))]) hx hb dX6_answerSum_1 rfl hl (by decide) rfl (fun ls hl => ?_)
  refine lv_iconst (v := (0 : Int32)) hx hb dX6_answerSum_2 (by decide) ?_
  refine lv_istore_n (lv' := [(2, .int (0 : Int32)), (1, .int (0 : Int32)), (0, .ref (a 0))]) hx hb dX6_answerSum_3 rfl hl (by decide) rfl (fun ls hl => ?_)
  have K4 : ∀ (n4 : Nat) (v1 : Int32) (v2 : Int32) (g4 : MG) (H : Heap) (locs : List Loc) (ls : Array Slot), WP D a cA cT TC g4 H → va_S (AA a TC) s.heap H locs → lv_has ls 3 [(0, .ref (a 0)), (1, .int v1), (2, .int v2)] → lpo (b_X6_answerSum_L4) n4 (v1, v2, g4) = some (r, g') → W p l e (rmm 5 118) s m args below meth c H locs 0 0 Q (F0 m 4 ls []) := by
    intro n4
    induction n4 with
    | zero => intro v1 v2 g4 H locs ls hP hS hl h; exact (lpo_0 h).elim
    | succ n4 ih4 =>
      intro v1 v2 g4 H locs ls hP hS hl h
      have h : m_X6_answerSum_L4 (lpo (b_X6_answerSum_L4) n4)  v1 v2 g4 = some (r, g') := h
      unfold m_X6_answerSum_L4 at h
      refine lv_iload_n hx hb dX6_answerSum_4 rfl (lv_at hl 2 rfl) ?_
      refine lv_aload_n hx hb dX6_answerSum_5 rfl (lv_at hl 0 rfl) ?_
      refine x_getr hx hb hts inX6 hown hK hP tF_0 (C := RX6) (F := TX6) (N := 5) rfl 0 (by decide) q168 rfl (20 + 15 * 0) rfl dX6_answerSum_6 ?_
      refine x_getr hx hb hts inX5 hown hK hP (tT_20 hz0) (C := RX5) (F := TX5) (N := 5) rfl 0 (by decide) q101 rfl (21 + 15 * 0) rfl dX6_answerSum_9 ?_
      refine x_get hx hb hts inX3 hown hK hP (tT_21 hz0) (C := RX3) (F := TX3) (N := 4) rfl 3 (by decide) q75 rfl rfl dX6_answerSum_12 ?_
      refine lv_icmp_ge (tgt := 46) hx hb dX6_answerSum_15 (by decide) (fun hc => ?_) (fun hc => ?_)
      · have h := ite_t hc h
        refine lv_iload_n hx hb dX6_answerSum_46 rfl (lv_at hl 1 rfl) ?_
        obtain ⟨rfl, rfl⟩ := Prod.mk.inj (Option.some.inj h)
        exact hend _ _ _ _ dX6_answerSum_47 rfl hP hS
      · have h := ite_f hc h
        refine lv_aload_n hx hb dX6_answerSum_18 rfl (lv_at hl 0 rfl) ?_
        refine lv_iload_n hx hb dX6_answerSum_19 rfl (lv_at hl 2 rfl) ?_
        obtain ⟨r20, g20, hcal, h⟩ := bnd2_s h
        refine x_VI (As := [.int v2]) hx hb hml hown hts hK hP hS (ct_X6_isAnswer l D a cA cT hI g4 v2 r20 g20 hcal) tF_0 (C := RX6) (F := TX6) (N := 5) rfl (g_V q692 q693 q28 q35 q694) yd_X6_isAnswer ⟨Nat.le_of_ble_eq_true rfl, Nat.le_of_ble_eq_true rfl⟩ [] rfl (Nat.le_of_ble_eq_true rfl) hl.1 ⟨Nat.le_refl _, Nat.le_refl _⟩ dX6_answerSum_20 (fun H locs hP hS => ?_)
        refine lv_if_eq (tgt := 40) hx hb dX6_answerSum_23 (by decide) (fun hc => ?_) (fun hc => ?_)
        · have h := ite_t hc h
          refine lv_iinc (v := (v2 + (1 : Int32))) (lv' := [(2, .int (v2 + (1 : Int32))), (0, .ref (a 0)), (1, .int v1)]) hx hb dX6_answerSum_40 hl (k := 2) rfl rfl (by decide) rfl (fun ls hl => ?_)
          refine lv_goto (tgt := 4) hx hb dX6_answerSum_43 (by decide) ?_
          exact ih4 v1 (v2 + (1 : Int32)) g20 _ _ _ hP hS (lv_sub hl [1, 2, 0] rfl) h
        · have h := ite_f hc h
          refine lv_iload_n hx hb dX6_answerSum_26 rfl (lv_at hl 1 rfl) ?_
          refine lv_aload_n hx hb dX6_answerSum_27 rfl (lv_at hl 0 rfl) ?_
          refine x_getr hx hb hts inX6 hown hK hP tF_0 (C := RX6) (F := TX6) (N := 5) rfl 0 (by decide) q168 rfl (20 + 15 * 0) rfl dX6_answerSum_28 ?_
          refine x_getr hx hb hts inX5 hown hK hP (tT_20 hz0) (C := RX5) (F := TX5) (N := 5) rfl 0 (by decide) q101 rfl (21 + 15 * 0) rfl dX6_answerSum_31 ?_
          refine lv_iload_n hx hb dX6_answerSum_34 rfl (lv_at hl 2 rfl) ?_
          obtain ⟨r35, hcal, h⟩ := bnd_s h
          refine x_VI (As := [.int v2]) hx hb hml hown hts hK hP hS (ct_X3_valueOf l D a cA cT hI g20 0 v2 hz0 r35 hcal) (tT_21 hz0) (C := RX3) (F := TX3) (N := 4) rfl (g_V q315 q316 q317 q37 q318) yd_X3_valueOf ⟨Nat.le_of_ble_eq_true rfl, Nat.le_of_ble_eq_true rfl⟩ [.int v1] rfl (Nat.le_of_ble_eq_true rfl) hl.1 ⟨Nat.le_refl _, Nat.le_refl _⟩ dX6_answerSum_35 (fun H locs hP hS => ?_)
          refine lv_iadd hx hb dX6_answerSum_38 ?_
          refine lv_istore_n (lv' := [(1, .int (v1 + r35)), (0, .ref (a 0)), (2, .int v2)]) hx hb dX6_answerSum_39 rfl hl (by decide) rfl (fun ls hl => ?_)
          refine lv_iinc (v := (v2 + (1 : Int32))) (lv' := [(2, .int (v2 + (1 : Int32))), (1, .int (v1 + r35)), (0, .ref (a 0))]) hx hb dX6_answerSum_40 hl (k := 2) rfl rfl (by decide) rfl (fun ls hl => ?_)
          refine lv_goto (tgt := 4) hx hb dX6_answerSum_43 (by decide) ?_
          exact ih4 (v1 + r35) (v2 + (1 : Int32)) g20 _ _ _ hP hS (lv_sub hl [2, 1, 0] rfl) h
  exact K4 fuelN (0 : Int32) (0 : Int32) g _ _ _ hP hS (lv_sub hl [2, 1, 0] rfl) h
set_option maxHeartbeats 4000000 in
set_option maxRecDepth 100000 in
theorem ct_X6_lookedPlaces (l : Launch) (D : va_G) (a : Nat → Nat) (cA cT : ClassId) (hI : WI a TC) (g : MG)   (r : Int32) (h : m_X6_lookedPlaces g = some r) :
    CtI l D a cA cT TC yX6_lookedPlaces (Cond.code yX6_lookedPlaces cX6_lookedPlaces 3 (some .int) :: lw_all) (rmm 1 21) [.ref (a 0)] g r g := by
  refine CtI.of (by decide +kernel) (Nat.le_of_ble_eq_true rfl) ?_
  intro p e s m args below meth c Q ls hx hb hml hown hts hK hP hS hl hend
  have hl : lv_has ls 3 [(0, .ref (a 0))] := hl
  unfold m_X6_lookedPlaces at h
  refine lv_iconst (v := (0 : Int32)) hx hb dX6_lookedPlaces_0 (by decide) ?_
  refine lv_istore_n (lv' := [(1, .int (0 : Int32)), (0, .ref (a 0))]) hx hb dX6_lookedPlaces_1 rfl hl (by decide) rfl (fun ls hl => ?_)
  refine lv_iconst (v := (0 : Int32)) hx hb dX6_lookedPlaces_2 (by decide) ?_
  refine lv_istore_n (lv' := [(2, .int (0 : Int32)), (1, .int (0 : Int32)), (0, .ref (a 0))]) hx hb dX6_lookedPlaces_3 rfl hl (by decide) rfl (fun ls hl => ?_)
  have K4 : ∀ (n4 : Nat) (v1 : Int32) (v2 : Int32) (H : Heap) (locs : List Loc) (ls : Array Slot), WP D a cA cT TC g H → va_S (AA a TC) s.heap H locs → lv_has ls 3 [(0, .ref (a 0)), (1, .int v1), (2, .int v2)] → lpo (b_X6_lookedPlaces_L4 g) n4 (v1, v2) = some r → W p l e (rmm 1 21) s m args below meth c H locs 0 0 Q (F0 m 4 ls []) := by
    intro n4
    induction n4 with
    | zero => intro v1 v2 H locs ls hP hS hl h; exact (lpo_0 h).elim
    | succ n4 ih4 =>
      intro v1 v2 H locs ls hP hS hl h
      have h : m_X6_lookedPlaces_L4 (lpo (b_X6_lookedPlaces_L4 g) n4) g v1 v2 = some r := h
      unfold m_X6_lookedPlaces_L4 at h
      refine lv_iload_n hx hb dX6_lookedPlaces_4 rfl (lv_at hl 2 rfl) ?_
      refine lv_bipush (v := (62 : Int32)) hx hb dX6_lookedPlaces_5 (by decide) ?_
      refine lv_icmp_ge (tgt := 27) hx hb dX6_lookedPlaces_7 (by decide) (fun hc => ?_) (fun hc => ?_)
      · have h := ite_t hc h
        refine lv_iload_n hx hb dX6_lookedPlaces_27 rfl (lv_at hl 1 rfl) ?_
        obtain rfl := Option.some.inj h
        exact hend _ _ _ _ dX6_lookedPlaces_28 rfl hP hS
      · have h := ite_f hc h
        refine lv_iload_n hx hb dX6_lookedPlaces_10 rfl (lv_at hl 1 rfl) ?_
        refine lv_aload_n hx hb dX6_lookedPlaces_11 rfl (lv_at hl 0 rfl) ?_
        refine x_getr hx hb hts inX6 hown hK hP tF_0 (C := RX6) (F := TX6) (N := 5) rfl 3 (by decide) q171 rfl 4 rfl dX6_lookedPlaces_12 ?_
        refine lv_iload_n hx hb dX6_lookedPlaces_15 rfl (lv_at hl 2 rfl) ?_
        obtain ⟨r16, hcal, h⟩ := bnd_s h
        refine x_VI (As := [.int v2]) hx hb hml hown hts hK hP hS (ct_X0_at l D a cA cT hI g 5 62 v2 4 tF_4 tF_5 r16 hcal) tF_4 (C := RX0) (F := TX0) (N := 1) rfl (g_V q548 q229 q230 q38 q231) yd_X0_at ⟨Nat.le_of_ble_eq_true rfl, Nat.le_of_ble_eq_true rfl⟩ [.int v1] rfl (Nat.le_of_ble_eq_true rfl) hl.1 ⟨Nat.le_refl _, Nat.le_refl _⟩ dX6_lookedPlaces_16 (fun H locs hP hS => ?_)
        refine lv_iadd hx hb dX6_lookedPlaces_19 ?_
        refine lv_istore_n (lv' := [(1, .int (v1 + r16)), (0, .ref (a 0)), (2, .int v2)]) hx hb dX6_lookedPlaces_20 rfl hl (by decide) rfl (fun ls hl => ?_)
        refine lv_iinc (v := (v2 + (1 : Int32))) (lv' := [(2, .int (v2 + (1 : Int32))), (1, .int (v1 + r16)), (0, .ref (a 0))]) hx hb dX6_lookedPlaces_21 hl (k := 2) rfl rfl (by decide) rfl (fun ls hl => ?_)
        refine lv_goto (tgt := 4) hx hb dX6_lookedPlaces_24 (by decide) ?_
        exact ih4 (v1 + r16) (v2 + (1 : Int32)) _ _ _ hP hS (lv_sub hl [2, 1, 0] rfl) h
  exact K4 fuelN (0 : Int32) (0 : Int32) _ _ _ hP hS (lv_sub hl [2, 1, 0] rfl) h
set_option maxHeartbeats 4000000 in
set_option maxRecDepth 100000 in
theorem ct_X6_lookedRows (l : Launch) (D : va_G) (a : Nat → Nat) (cA cT : ClassId) (hI : WI a TC) (g : MG)   (r : Int32) (h : m_X6_lookedRows g = some r) :
    CtI l D a cA cT TC yX6_lookedRows (Cond.code yX6_lookedRows cX6_lookedRows 3 (some .int) :: lw_all) (rmm 3 63) [.ref (a 0)] g r g := by
  refine CtI.of (by decide +kernel) (Nat.le_of_ble_eq_true rfl) ?_
  intro p e s m args below meth c Q ls hx hb hml hown hts hK hP hS hl hend
  have hl : lv_has ls 3 [(0, .ref (a 0))] := hl
  unfold m_X6_lookedRows at h
  refine lv_iconst (v := (0 : Int32)) hx hb dX6_lookedRows_0 (by decide) ?_
  refine lv_istore_n (lv' := [(1, .int (0 : Int32)), (0, .ref (a 0))]) hx hb dX6_lookedRows_1 rfl hl (by decide) rfl (fun ls hl => ?_)
  refine lv_iconst (v := (0 : Int32)) hx hb dX6_lookedRows_2 (by decide) ?_
  refine lv_istore_n (lv' := [(2, .int (0 : Int32)), (1, .int (0 : Int32)), (0, .ref (a 0))]) hx hb dX6_lookedRows_3 rfl hl (by decide) rfl (fun ls hl => ?_)
  have K4 : ∀ (n4 : Nat) (v1 : Int32) (v2 : Int32) (H : Heap) (locs : List Loc) (ls : Array Slot), WP D a cA cT TC g H → va_S (AA a TC) s.heap H locs → lv_has ls 3 [(0, .ref (a 0)), (1, .int v1), (2, .int v2)] → lpo (b_X6_lookedRows_L4 g) n4 (v1, v2) = some r → W p l e (rmm 3 63) s m args below meth c H locs 0 0 Q (F0 m 4 ls []) := by
    intro n4
    induction n4 with
    | zero => intro v1 v2 H locs ls hP hS hl h; exact (lpo_0 h).elim
    | succ n4 ih4 =>
      intro v1 v2 H locs ls hP hS hl h
      have h : m_X6_lookedRows_L4 (lpo (b_X6_lookedRows_L4 g) n4) g v1 v2 = some r := h
      unfold m_X6_lookedRows_L4 at h
      refine lv_iload_n hx hb dX6_lookedRows_4 rfl (lv_at hl 2 rfl) ?_
      refine lv_aload_n hx hb dX6_lookedRows_5 rfl (lv_at hl 0 rfl) ?_
      refine x_getr hx hb hts inX6 hown hK hP tF_0 (C := RX6) (F := TX6) (N := 5) rfl 0 (by decide) q168 rfl (20 + 15 * 0) rfl dX6_lookedRows_6 ?_
      refine x_getr hx hb hts inX5 hown hK hP (tT_20 hz0) (C := RX5) (F := TX5) (N := 5) rfl 0 (by decide) q101 rfl (21 + 15 * 0) rfl dX6_lookedRows_9 ?_
      refine x_get hx hb hts inX3 hown hK hP (tT_21 hz0) (C := RX3) (F := TX3) (N := 4) rfl 3 (by decide) q75 rfl rfl dX6_lookedRows_12 ?_
      refine lv_icmp_ge (tgt := 35) hx hb dX6_lookedRows_15 (by decide) (fun hc => ?_) (fun hc => ?_)
      · have h := ite_t hc h
        refine lv_iload_n hx hb dX6_lookedRows_35 rfl (lv_at hl 1 rfl) ?_
        obtain rfl := Option.some.inj h
        exact hend _ _ _ _ dX6_lookedRows_36 rfl hP hS
      · have h := ite_f hc h
        refine lv_aload_n hx hb dX6_lookedRows_18 rfl (lv_at hl 0 rfl) ?_
        refine lv_iload_n hx hb dX6_lookedRows_19 rfl (lv_at hl 2 rfl) ?_
        obtain ⟨r20, hcal, h⟩ := bnd_s h
        refine x_VI (As := [.int v2]) hx hb hml hown hts hK hP hS (ct_X6_isLooked l D a cA cT hI g v2 r20 hcal) tF_0 (C := RX6) (F := TX6) (N := 5) rfl (g_V q695 q696 q29 q35 q697) yd_X6_isLooked ⟨Nat.le_of_ble_eq_true rfl, Nat.le_of_ble_eq_true rfl⟩ [] rfl (Nat.le_of_ble_eq_true rfl) hl.1 ⟨Nat.le_refl _, Nat.le_refl _⟩ dX6_lookedRows_20 (fun H locs hP hS => ?_)
        refine lv_if_eq (tgt := 29) hx hb dX6_lookedRows_23 (by decide) (fun hc => ?_) (fun hc => ?_)
        · have h := ite_t hc h
          refine lv_iinc (v := (v2 + (1 : Int32))) (lv' := [(2, .int (v2 + (1 : Int32))), (0, .ref (a 0)), (1, .int v1)]) hx hb dX6_lookedRows_29 hl (k := 2) rfl rfl (by decide) rfl (fun ls hl => ?_)
          refine lv_goto (tgt := 4) hx hb dX6_lookedRows_32 (by decide) ?_
          exact ih4 v1 (v2 + (1 : Int32)) _ _ _ hP hS (lv_sub hl [1, 2, 0] rfl) h
        · have h := ite_f hc h
          refine lv_iinc (v := (v1 + (1 : Int32))) (lv' := [(1, .int (v1 + (1 : Int32))), (0, .ref (a 0)), (2, .int v2)]) hx hb dX6_lookedRows_26 hl (k := 1) rfl rfl (by decide) rfl (fun ls hl => ?_)
          refine lv_iinc (v := (v2 + (1 : Int32))) (lv' := [(2, .int (v2 + (1 : Int32))), (1, .int (v1 + (1 : Int32))), (0, .ref (a 0))]) hx hb dX6_lookedRows_29 hl (k := 2) rfl rfl (by decide) rfl (fun ls hl => ?_)
          refine lv_goto (tgt := 4) hx hb dX6_lookedRows_32 (by decide) ?_
          exact ih4 (v1 + (1 : Int32)) (v2 + (1 : Int32)) _ _ _ hP hS (lv_sub hl [2, 1, 0] rfl) h
  exact K4 fuelN (0 : Int32) (0 : Int32) _ _ _ hP hS (lv_sub hl [2, 1, 0] rfl) h
set_option maxHeartbeats 4000000 in
set_option maxRecDepth 100000 in
theorem ct_X6_wholeAmount (l : Launch) (D : va_G) (a : Nat → Nat) (cA cT : ClassId) (hI : WI a TC) (g : MG)   (r : Int32) (g' : MG) (h : m_X6_wholeAmount g = some (r, g')) :
    CtI l D a cA cT TC yX6_wholeAmount (Cond.code yX6_wholeAmount cX6_wholeAmount 3 (some .int) :: lw_all) (rmm 4 97) [.ref (a 0)] g r g' := by
  refine CtI.of (by decide +kernel) (Nat.le_of_ble_eq_true rfl) ?_
  intro p e s m args below meth c Q ls hx hb hml hown hts hK hP hS hl hend
  have hl : lv_has ls 3 [(0, .ref (a 0))] := hl
  unfold m_X6_wholeAmount at h
  refine lv_iconst (v := (0 : Int32)) hx hb dX6_wholeAmount_0 (by decide) ?_
  refine lv_istore_n (lv' := [(1, .int (0 : Int32)), (0, .ref (a 0))]) hx hb dX6_wholeAmount_1 rfl hl (by decide) rfl (fun ls hl => ?_)
  refine lv_iconst (v := (0 : Int32)) hx hb dX6_wholeAmount_2 (by decide) ?_
  refine lv_istore_n (lv' := [(2, .int (0 : Int32)), (1, .int (0 : Int32)), (0, .ref (a 0))]) hx hb dX6_wholeAmount_3 rfl hl (by decide) rfl (fun ls hl => ?_)
  have K4 : ∀ (n4 : Nat) (v1 : Int32) (v2 : Int32) (g4 : MG) (H : Heap) (locs : List Loc) (ls : Array Slot), WP D a cA cT TC g4 H → va_S (AA a TC) s.heap H locs → lv_has ls 3 [(0, .ref (a 0)), (1, .int v1), (2, .int v2)] → lpo (b_X6_wholeAmount_L4) n4 (v1, v2, g4) = some (r, g') → W p l e (rmm 4 97) s m args below meth c H locs 0 0 Q (F0 m 4 ls []) := by
    intro n4
    induction n4 with
    | zero => intro v1 v2 g4 H locs ls hP hS hl h; exact (lpo_0 h).elim
    | succ n4 ih4 =>
      intro v1 v2 g4 H locs ls hP hS hl h
      have h : m_X6_wholeAmount_L4 (lpo (b_X6_wholeAmount_L4) n4)  v1 v2 g4 = some (r, g') := h
      unfold m_X6_wholeAmount_L4 at h
      refine lv_iload_n hx hb dX6_wholeAmount_4 rfl (lv_at hl 2 rfl) ?_
      refine lv_aload_n hx hb dX6_wholeAmount_5 rfl (lv_at hl 0 rfl) ?_
      refine x_getr hx hb hts inX6 hown hK hP tF_0 (C := RX6) (F := TX6) (N := 5) rfl 0 (by decide) q168 rfl (20 + 15 * 0) rfl dX6_wholeAmount_6 ?_
      refine x_getr hx hb hts inX5 hown hK hP (tT_20 hz0) (C := RX5) (F := TX5) (N := 5) rfl 0 (by decide) q101 rfl (21 + 15 * 0) rfl dX6_wholeAmount_9 ?_
      refine x_get hx hb hts inX3 hown hK hP (tT_21 hz0) (C := RX3) (F := TX3) (N := 4) rfl 3 (by decide) q75 rfl rfl dX6_wholeAmount_12 ?_
      refine lv_icmp_ge (tgt := 49) hx hb dX6_wholeAmount_15 (by decide) (fun hc => ?_) (fun hc => ?_)
      · have h := ite_t hc h
        refine lv_iload_n hx hb dX6_wholeAmount_49 rfl (lv_at hl 1 rfl) ?_
        obtain ⟨rfl, rfl⟩ := Prod.mk.inj (Option.some.inj h)
        exact hend _ _ _ _ dX6_wholeAmount_50 rfl hP hS
      · have h := ite_f hc h
        refine lv_aload_n hx hb dX6_wholeAmount_18 rfl (lv_at hl 0 rfl) ?_
        refine x_getr hx hb hts inX6 hown hK hP tF_0 (C := RX6) (F := TX6) (N := 5) rfl 0 (by decide) q168 rfl (20 + 15 * 0) rfl dX6_wholeAmount_19 ?_
        refine x_getr hx hb hts inX5 hown hK hP (tT_20 hz0) (C := RX5) (F := TX5) (N := 5) rfl 0 (by decide) q101 rfl (21 + 15 * 0) rfl dX6_wholeAmount_22 ?_
        refine lv_iload_n hx hb dX6_wholeAmount_25 rfl (lv_at hl 2 rfl) ?_
        obtain ⟨r26, hcal, h⟩ := bnd_s h
        refine x_VI (As := [.int v2]) hx hb hml hown hts hK hP hS (ct_X3_isInTable l D a cA cT hI g4 0 v2 hz0 r26 hcal) (tT_21 hz0) (C := RX3) (F := TX3) (N := 4) rfl (g_V q710 q221 q222 q37 q223) yd_X3_isInTable ⟨Nat.le_of_ble_eq_true rfl, Nat.le_of_ble_eq_true rfl⟩ [] rfl (Nat.le_of_ble_eq_true rfl) hl.1 ⟨Nat.le_refl _, Nat.le_refl _⟩ dX6_wholeAmount_26 (fun H locs hP hS => ?_)
        refine lv_if_eq (tgt := 43) hx hb dX6_wholeAmount_29 (by decide) (fun hc => ?_) (fun hc => ?_)
        · have h := ite_t hc h
          refine lv_iinc (v := (v2 + (1 : Int32))) (lv' := [(2, .int (v2 + (1 : Int32))), (0, .ref (a 0)), (1, .int v1)]) hx hb dX6_wholeAmount_43 hl (k := 2) rfl rfl (by decide) rfl (fun ls hl => ?_)
          refine lv_goto (tgt := 4) hx hb dX6_wholeAmount_46 (by decide) ?_
          exact ih4 v1 (v2 + (1 : Int32)) g4 _ _ _ hP hS (lv_sub hl [1, 2, 0] rfl) h
        · have h := ite_f hc h
          refine lv_aload_n hx hb dX6_wholeAmount_32 rfl (lv_at hl 0 rfl) ?_
          refine lv_iload_n hx hb dX6_wholeAmount_33 rfl (lv_at hl 2 rfl) ?_
          obtain ⟨r34, g34, hcal, h⟩ := bnd2_s h
          refine x_VI (As := [.int v2]) hx hb hml hown hts hK hP hS (ct_X6_rowPasses l D a cA cT hI g4 v2 r34 g34 hcal) tF_0 (C := RX6) (F := TX6) (N := 5) rfl (g_V q643 q644 q18 q35 q645) yd_X6_rowPasses ⟨Nat.le_of_ble_eq_true rfl, Nat.le_of_ble_eq_true rfl⟩ [] rfl (Nat.le_of_ble_eq_true rfl) hl.1 ⟨Nat.le_refl _, Nat.le_refl _⟩ dX6_wholeAmount_34 (fun H locs hP hS => ?_)
          refine lv_if_eq (tgt := 43) hx hb dX6_wholeAmount_37 (by decide) (fun hc => ?_) (fun hc => ?_)
          · have h := ite_t hc h
            refine lv_iinc (v := (v2 + (1 : Int32))) (lv' := [(2, .int (v2 + (1 : Int32))), (0, .ref (a 0)), (1, .int v1)]) hx hb dX6_wholeAmount_43 hl (k := 2) rfl rfl (by decide) rfl (fun ls hl => ?_)
            refine lv_goto (tgt := 4) hx hb dX6_wholeAmount_46 (by decide) ?_
            exact ih4 v1 (v2 + (1 : Int32)) g34 _ _ _ hP hS (lv_sub hl [1, 2, 0] rfl) h
          · have h := ite_f hc h
            refine lv_iinc (v := (v1 + (1 : Int32))) (lv' := [(1, .int (v1 + (1 : Int32))), (0, .ref (a 0)), (2, .int v2)]) hx hb dX6_wholeAmount_40 hl (k := 1) rfl rfl (by decide) rfl (fun ls hl => ?_)
            refine lv_iinc (v := (v2 + (1 : Int32))) (lv' := [(2, .int (v2 + (1 : Int32))), (1, .int (v1 + (1 : Int32))), (0, .ref (a 0))]) hx hb dX6_wholeAmount_43 hl (k := 2) rfl rfl (by decide) rfl (fun ls hl => ?_)
            refine lv_goto (tgt := 4) hx hb dX6_wholeAmount_46 (by decide) ?_
            exact ih4 (v1 + (1 : Int32)) (v2 + (1 : Int32)) g34 _ _ _ hP hS (lv_sub hl [2, 1, 0] rfl) h
  exact K4 fuelN (0 : Int32) (0 : Int32) g _ _ _ hP hS (lv_sub hl [2, 1, 0] rfl) h
set_option maxHeartbeats 4000000 in
set_option maxRecDepth 100000 in
theorem ct_X6_ask (l : Launch) (D : va_G) (a : Nat → Nat) (cA cT : ClassId) (hI : WI a TC) (g : MG) (x0 : Int32)  (r : Int32) (g' : MG) (h : m_X6_ask g x0 = some (r, g')) :
    CtI l D a cA cT TC yX6_ask (Cond.code yX6_ask cX6_ask 2 (some .int) :: lw_all) (rmm 7 168) [.ref (a 0), .int x0] g r g' := by
  refine CtI.of (by decide +kernel) (Nat.le_of_ble_eq_true rfl) ?_
  intro p e s m args below meth c Q ls hx hb hml hown hts hK hP hS hl hend
  have hl : lv_has ls 2 [(0, .ref (a 0)), (1, .int x0)] := hl
  unfold m_X6_ask at h
  refine lv_aload_n hx hb dX6_ask_0 rfl (lv_at hl 0 rfl) ?_
  refine x_getr hx hb hts inX6 hown hK hP tF_0 (C := RX6) (F := TX6) (N := 5) rfl 2 (by decide) q170 rfl 3 rfl dX6_ask_1 ?_
  obtain ⟨r4, hcal, h⟩ := bnd_s h
  refine x_VI (As := []) hx hb hml hown hts hK hP hS (ct_X2_isFaulty l D a cA cT hI g r4 hcal) tF_3 (C := RX2) (F := TX2) (N := 14) rfl (g_V q635 q636 q637 q41 q638) yd_X2_isFaulty ⟨Nat.le_of_ble_eq_true rfl, Nat.le_of_ble_eq_true rfl⟩ [] rfl (Nat.le_of_ble_eq_true rfl) hl.1 ⟨Nat.le_refl _, Nat.le_refl _⟩ dX6_ask_4 (fun H locs hP hS => ?_)
  refine lv_if_eq (tgt := 14) hx hb dX6_ask_7 (by decide) (fun hc => ?_) (fun hc => ?_)
  · have h := ite_t hc h
    refine lv_aload_n hx hb dX6_ask_14 rfl (lv_at hl 0 rfl) ?_
    refine lv_aload_n hx hb dX6_ask_15 rfl (lv_at hl 0 rfl) ?_
    refine x_getr hx hb hts inX6 hown hK hP tF_0 (C := RX6) (F := TX6) (N := 5) rfl 0 (by decide) q168 rfl (20 + 15 * 0) rfl dX6_ask_16 ?_
    refine x_get hx hb hts inX5 hown hK hP (tT_20 hz0) (C := RX5) (F := TX5) (N := 5) rfl 3 (by decide) q107 rfl rfl dX6_ask_19 ?_
    obtain ⟨g22, hcal, h⟩ := bnd_s h
    refine x_VV (As := [.int (g.1 (20 + 15 * 0) 3)]) hx hb hml hown hts hK hP hS (ct_X6_markLooked l D a cA cT hI g (g.1 (20 + 15 * 0) 3) g22 hcal) tF_0 (C := RX6) (F := TX6) (N := 5) rfl (g_V q672 q673 q23 q35 q674) yd_X6_markLooked ⟨Nat.le_of_ble_eq_true rfl, Nat.le_of_ble_eq_true rfl⟩ [] rfl (Nat.le_of_ble_eq_true rfl) hl.1 ⟨Nat.le_refl _, Nat.le_refl _⟩ dX6_ask_22 (fun H locs hP hS => ?_)
    refine lv_iload_n hx hb dX6_ask_25 rfl (lv_at hl 1 rfl) ?_
    by_cases hs0 : x0 = (0 : Int32)
    · have h := ite_t hs0 h
      refine lv_tableIn (off := 38) (tgt := 64) hx hb dX6_ask_26 (by rw [hs0]; decide) (by rw [hs0]; decide) (by rw [hs0]; rfl) (by decide) ?_
      refine lv_aload_n hx hb dX6_ask_64 rfl (lv_at hl 0 rfl) ?_
      obtain ⟨r65, g65, hcal, h⟩ := bnd2_s h
      refine x_VI (As := []) hx hb hml hown hts hK hP hS (ct_X6_answerAmount l D a cA cT hI g22 r65 g65 hcal) tF_0 (C := RX6) (F := TX6) (N := 5) rfl (g_V q689 q690 q27 q35 q691) yd_X6_answerAmount ⟨Nat.le_of_ble_eq_true rfl, Nat.le_of_ble_eq_true rfl⟩ [] rfl (Nat.le_of_ble_eq_true rfl) hl.1 ⟨Nat.le_refl _, Nat.le_refl _⟩ dX6_ask_65 (fun H locs hP hS => ?_)
      obtain ⟨rfl, rfl⟩ := Prod.mk.inj (Option.some.inj h)
      exact hend _ _ _ _ dX6_ask_68 rfl hP hS
    have h := ite_f hs0 h
    by_cases hs1 : x0 = (1 : Int32)
    · have h := ite_t hs1 h
      refine lv_tableIn (off := 43) (tgt := 69) hx hb dX6_ask_26 (by rw [hs1]; decide) (by rw [hs1]; decide) (by rw [hs1]; rfl) (by decide) ?_
      refine lv_aload_n hx hb dX6_ask_69 rfl (lv_at hl 0 rfl) ?_
      obtain ⟨r70, g70, hcal, h⟩ := bnd2_s h
      refine x_VI (As := []) hx hb hml hown hts hK hP hS (ct_X6_answerSum l D a cA cT hI g22 r70 g70 hcal) tF_0 (C := RX6) (F := TX6) (N := 5) rfl (g_V q698 q699 q30 q35 q700) yd_X6_answerSum ⟨Nat.le_of_ble_eq_true rfl, Nat.le_of_ble_eq_true rfl⟩ [] rfl (Nat.le_of_ble_eq_true rfl) hl.1 ⟨Nat.le_refl _, Nat.le_refl _⟩ dX6_ask_70 (fun H locs hP hS => ?_)
      obtain ⟨rfl, rfl⟩ := Prod.mk.inj (Option.some.inj h)
      exact hend _ _ _ _ dX6_ask_73 rfl hP hS
    have h := ite_f hs1 h
    by_cases hs2 : x0 = (2 : Int32)
    · have h := ite_t hs2 h
      refine lv_tableIn (off := 48) (tgt := 74) hx hb dX6_ask_26 (by rw [hs2]; decide) (by rw [hs2]; decide) (by rw [hs2]; rfl) (by decide) ?_
      refine lv_aload_n hx hb dX6_ask_74 rfl (lv_at hl 0 rfl) ?_
      obtain ⟨r75, hcal, h⟩ := bnd_s h
      refine x_VI (As := []) hx hb hml hown hts hK hP hS (ct_X6_lookedPlaces l D a cA cT hI g22 r75 hcal) tF_0 (C := RX6) (F := TX6) (N := 5) rfl (g_V q701 q702 q31 q35 q703) yd_X6_lookedPlaces ⟨Nat.le_of_ble_eq_true rfl, Nat.le_of_ble_eq_true rfl⟩ [] rfl (Nat.le_of_ble_eq_true rfl) hl.1 ⟨Nat.le_refl _, Nat.le_refl _⟩ dX6_ask_75 (fun H locs hP hS => ?_)
      obtain ⟨rfl, rfl⟩ := Prod.mk.inj (Option.some.inj h)
      exact hend _ _ _ _ dX6_ask_78 rfl hP hS
    have h := ite_f hs2 h
    by_cases hs3 : x0 = (3 : Int32)
    · have h := ite_t hs3 h
      refine lv_tableIn (off := 53) (tgt := 79) hx hb dX6_ask_26 (by rw [hs3]; decide) (by rw [hs3]; decide) (by rw [hs3]; rfl) (by decide) ?_
      refine lv_aload_n hx hb dX6_ask_79 rfl (lv_at hl 0 rfl) ?_
      obtain ⟨r80, hcal, h⟩ := bnd_s h
      refine x_VI (As := []) hx hb hml hown hts hK hP hS (ct_X6_lookedRows l D a cA cT hI g22 r80 hcal) tF_0 (C := RX6) (F := TX6) (N := 5) rfl (g_V q704 q705 q32 q35 q706) yd_X6_lookedRows ⟨Nat.le_of_ble_eq_true rfl, Nat.le_of_ble_eq_true rfl⟩ [] rfl (Nat.le_of_ble_eq_true rfl) hl.1 ⟨Nat.le_refl _, Nat.le_refl _⟩ dX6_ask_80 (fun H locs hP hS => ?_)
      obtain ⟨rfl, rfl⟩ := Prod.mk.inj (Option.some.inj h)
      exact hend _ _ _ _ dX6_ask_83 rfl hP hS
    have h := ite_f hs3 h
    by_cases hs4 : x0 = (4 : Int32)
    · have h := ite_t hs4 h
      refine lv_tableIn (off := 58) (tgt := 84) hx hb dX6_ask_26 (by rw [hs4]; decide) (by rw [hs4]; decide) (by rw [hs4]; rfl) (by decide) ?_
      refine lv_aload_n hx hb dX6_ask_84 rfl (lv_at hl 0 rfl) ?_
      obtain ⟨r85, g85, hcal, h⟩ := bnd2_s h
      refine x_VI (As := []) hx hb hml hown hts hK hP hS (ct_X6_wholeAmount l D a cA cT hI g22 r85 g85 hcal) tF_0 (C := RX6) (F := TX6) (N := 5) rfl (g_V q707 q708 q33 q35 q709) yd_X6_wholeAmount ⟨Nat.le_of_ble_eq_true rfl, Nat.le_of_ble_eq_true rfl⟩ [] rfl (Nat.le_of_ble_eq_true rfl) hl.1 ⟨Nat.le_refl _, Nat.le_refl _⟩ dX6_ask_85 (fun H locs hP hS => ?_)
      obtain ⟨rfl, rfl⟩ := Prod.mk.inj (Option.some.inj h)
      exact hend _ _ _ _ dX6_ask_88 rfl hP hS
    have h := ite_f hs4 h
    by_cases hs5 : x0 = (5 : Int32)
    · have h := ite_t hs5 h
      refine lv_tableIn (off := 63) (tgt := 89) hx hb dX6_ask_26 (by rw [hs5]; decide) (by rw [hs5]; decide) (by rw [hs5]; rfl) (by decide) ?_
      refine lv_aload_n hx hb dX6_ask_89 rfl (lv_at hl 0 rfl) ?_
      obtain ⟨r90, g90, hcal, h⟩ := bnd2_s h
      refine x_VI (As := []) hx hb hml hown hts hK hP hS (ct_X6_wholeAmount l D a cA cT hI g22 r90 g90 hcal) tF_0 (C := RX6) (F := TX6) (N := 5) rfl (g_V q707 q708 q33 q35 q709) yd_X6_wholeAmount ⟨Nat.le_of_ble_eq_true rfl, Nat.le_of_ble_eq_true rfl⟩ [] rfl (Nat.le_of_ble_eq_true rfl) hl.1 ⟨Nat.le_refl _, Nat.le_refl _⟩ dX6_ask_90 (fun H locs hP hS => ?_)
      refine lv_aload_n hx hb dX6_ask_93 rfl (lv_at hl 0 rfl) ?_
      obtain ⟨r94, g94, hcal, h⟩ := bnd2_s h
      refine x_VI (As := []) hx hb hml hown hts hK hP hS (ct_X6_answerAmount l D a cA cT hI g90 r94 g94 hcal) tF_0 (C := RX6) (F := TX6) (N := 5) rfl (g_V q689 q690 q27 q35 q691) yd_X6_answerAmount ⟨Nat.le_of_ble_eq_true rfl, Nat.le_of_ble_eq_true rfl⟩ [.int r90] rfl (Nat.le_of_ble_eq_true rfl) hl.1 ⟨Nat.le_refl _, Nat.le_refl _⟩ dX6_ask_94 (fun H locs hP hS => ?_)
      refine lv_isub hx hb dX6_ask_97 ?_
      obtain ⟨rfl, rfl⟩ := Prod.mk.inj (Option.some.inj h)
      exact hend _ _ _ _ dX6_ask_98 rfl hP hS
    have h := ite_f hs5 h
    have hq : x0.toInt ≠ 0 ∧ x0.toInt ≠ 1 ∧ x0.toInt ≠ 2 ∧ x0.toInt ≠ 3 ∧ x0.toInt ≠ 4 ∧ x0.toInt ≠ 5 := ⟨sw_ne hs0 rfl, sw_ne hs1 rfl, sw_ne hs2 rfl, sw_ne hs3 rfl, sw_ne hs4 rfl, sw_ne hs5 rfl⟩
    refine lv_tableOut (tgt := 99) hx hb dX6_ask_26 (by omega) (by decide) ?_
    refine lv_sipush (v := (-1002 : Int32)) hx hb dX6_ask_99 (by decide) ?_
    obtain ⟨rfl, rfl⟩ := Prod.mk.inj (Option.some.inj h)
    exact hend _ _ _ _ dX6_ask_102 rfl hP hS
  · have h := ite_f hc h
    refine lv_sipush (v := (-1001 : Int32)) hx hb dX6_ask_10 (by decide) ?_
    obtain ⟨rfl, rfl⟩ := Prod.mk.inj (Option.some.inj h)
    exact hend _ _ _ _ dX6_ask_13 rfl hP hS
set_option maxHeartbeats 4000000 in
set_option maxRecDepth 100000 in
theorem ct_X6_answer (l : Launch) (D : va_G) (a : Nat → Nat) (cA cT : ClassId) (hI : WI a TC) (g : MG) (x0 : Int32)  (r : Int32) (g' : MG) (h : m_X6_answer g x0 = some (r, g')) :
    CtI l D a cA cT TC yX6_answer (Cond.code yX6_answer cX6_answer 4 (some .int) :: lw_all) (rmm 7 168) [.ref (a 0), .int x0] g r g' := by
  refine CtI.of (by decide +kernel) (Nat.le_of_ble_eq_true rfl) ?_
  intro p e s m args below meth c Q ls hx hb hml hown hts hK hP hS hl hend
  have hl : lv_has ls 4 [(0, .ref (a 0)), (1, .int x0)] := hl
  unfold m_X6_answer at h
  refine lv_aload_n hx hb dX6_answer_0 rfl (lv_at hl 0 rfl) ?_
  refine x_getr hx hb hts inX6 hown hK hP tF_0 (C := RX6) (F := TX6) (N := 5) rfl 2 (by decide) q170 rfl 3 rfl dX6_answer_1 ?_
  obtain ⟨r4, hcal, h⟩ := bnd_s h
  refine x_VI (As := []) hx hb hml hown hts hK hP hS (ct_X2_isFaulty l D a cA cT hI g r4 hcal) tF_3 (C := RX2) (F := TX2) (N := 14) rfl (g_V q635 q636 q637 q41 q638) yd_X2_isFaulty ⟨Nat.le_of_ble_eq_true rfl, Nat.le_of_ble_eq_true rfl⟩ [] rfl (Nat.le_of_ble_eq_true rfl) hl.1 ⟨Nat.le_refl _, Nat.le_refl _⟩ dX6_answer_4 (fun H locs hP hS => ?_)
  refine lv_if_eq (tgt := 14) hx hb dX6_answer_7 (by decide) (fun hc => ?_) (fun hc => ?_)
  · have h := ite_t hc h
    refine lv_iload_n hx hb dX6_answer_14 rfl (lv_at hl 1 rfl) ?_
    refine lv_if_ge (tgt := 22) hx hb dX6_answer_15 (by decide) (fun hc => ?_) (fun hc => ?_)
    · have h := ite_t hc h
      refine lv_aload_n hx hb dX6_answer_22 rfl (lv_at hl 0 rfl) ?_
      refine lv_aload_n hx hb dX6_answer_23 rfl (lv_at hl 0 rfl) ?_
      refine x_getr hx hb hts inX6 hown hK hP tF_0 (C := RX6) (F := TX6) (N := 5) rfl 0 (by decide) q168 rfl (20 + 15 * 0) rfl dX6_answer_24 ?_
      refine x_get hx hb hts inX5 hown hK hP (tT_20 hz0) (C := RX5) (F := TX5) (N := 5) rfl 3 (by decide) q107 rfl rfl dX6_answer_27 ?_
      obtain ⟨g30, hcal, h⟩ := bnd_s h
      refine x_VV (As := [.int (g.1 (20 + 15 * 0) 3)]) hx hb hml hown hts hK hP hS (ct_X6_markLooked l D a cA cT hI g (g.1 (20 + 15 * 0) 3) g30 hcal) tF_0 (C := RX6) (F := TX6) (N := 5) rfl (g_V q672 q673 q23 q35 q674) yd_X6_markLooked ⟨Nat.le_of_ble_eq_true rfl, Nat.le_of_ble_eq_true rfl⟩ [] rfl (Nat.le_of_ble_eq_true rfl) hl.1 ⟨Nat.le_refl _, Nat.le_refl _⟩ dX6_answer_30 (fun H locs hP hS => ?_)
      refine lv_iconst (v := (0 : Int32)) hx hb dX6_answer_33 (by decide) ?_
      refine lv_istore_n (lv' := [(2, .int (0 : Int32)), (0, .ref (a 0)), (1, .int x0)]) hx hb dX6_answer_34 rfl hl (by decide) rfl (fun ls hl => ?_)
      refine lv_iconst (v := (0 : Int32)) hx hb dX6_answer_35 (by decide) ?_
      refine lv_istore_n (lv' := [(3, .int (0 : Int32)), (2, .int (0 : Int32)), (0, .ref (a 0)), (1, .int x0)]) hx hb dX6_answer_36 rfl hl (by decide) rfl (fun ls hl => ?_)
      have K37 : ∀ (n37 : Nat) (v2 : Int32) (v3 : Int32) (g37 : MG) (H : Heap) (locs : List Loc) (ls : Array Slot), WP D a cA cT TC g37 H → va_S (AA a TC) s.heap H locs → lv_has ls 4 [(0, .ref (a 0)), (1, .int x0), (2, .int v2), (3, .int v3)] → lpo (b_X6_answer_L37 x0) n37 (v2, v3, g37) = some (r, g') → W p l e (rmm 7 168) s m args below meth c H locs 0 0 Q (F0 m 37 ls []) := by
        intro n37
        induction n37 with
        | zero => intro v2 v3 g37 H locs ls hP hS hl h; exact (lpo_0 h).elim
        | succ n37 ih37 =>
          intro v2 v3 g37 H locs ls hP hS hl h
          have h : m_X6_answer_L37 (lpo (b_X6_answer_L37 x0) n37) x0 v2 v3 g37 = some (r, g') := h
          unfold m_X6_answer_L37 at h
          refine lv_iload_n hx hb dX6_answer_37 rfl (lv_at hl 3 rfl) ?_
          refine lv_aload_n hx hb dX6_answer_38 rfl (lv_at hl 0 rfl) ?_
          refine x_getr hx hb hts inX6 hown hK hP tF_0 (C := RX6) (F := TX6) (N := 5) rfl 0 (by decide) q168 rfl (20 + 15 * 0) rfl dX6_answer_39 ?_
          refine x_getr hx hb hts inX5 hown hK hP (tT_20 hz0) (C := RX5) (F := TX5) (N := 5) rfl 0 (by decide) q101 rfl (21 + 15 * 0) rfl dX6_answer_42 ?_
          refine x_get hx hb hts inX3 hown hK hP (tT_21 hz0) (C := RX3) (F := TX3) (N := 4) rfl 3 (by decide) q75 rfl rfl dX6_answer_45 ?_
          refine lv_icmp_ge (tgt := 75) hx hb dX6_answer_48 (by decide) (fun hc => ?_) (fun hc => ?_)
          · have h := ite_t hc h
            refine lv_sipush (v := (-1005 : Int32)) hx hb dX6_answer_75 (by decide) ?_
            obtain ⟨rfl, rfl⟩ := Prod.mk.inj (Option.some.inj h)
            exact hend _ _ _ _ dX6_answer_78 rfl hP hS
          · have h := ite_f hc h
            refine lv_aload_n hx hb dX6_answer_51 rfl (lv_at hl 0 rfl) ?_
            refine lv_iload_n hx hb dX6_answer_52 rfl (lv_at hl 3 rfl) ?_
            obtain ⟨r53, g53, hcal, h⟩ := bnd2_s h
            refine x_VI (As := [.int v3]) hx hb hml hown hts hK hP hS (ct_X6_isAnswer l D a cA cT hI g37 v3 r53 g53 hcal) tF_0 (C := RX6) (F := TX6) (N := 5) rfl (g_V q692 q693 q28 q35 q694) yd_X6_isAnswer ⟨Nat.le_of_ble_eq_true rfl, Nat.le_of_ble_eq_true rfl⟩ [] rfl (Nat.le_of_ble_eq_true rfl) hl.1 ⟨Nat.le_refl _, Nat.le_refl _⟩ dX6_answer_53 (fun H locs hP hS => ?_)
            refine lv_if_eq (tgt := 69) hx hb dX6_answer_56 (by decide) (fun hc => ?_) (fun hc => ?_)
            · have h := ite_t hc h
              refine lv_iinc (v := (v3 + (1 : Int32))) (lv' := [(3, .int (v3 + (1 : Int32))), (0, .ref (a 0)), (1, .int x0), (2, .int v2)]) hx hb dX6_answer_69 hl (k := 3) rfl rfl (by decide) rfl (fun ls hl => ?_)
              refine lv_goto (tgt := 37) hx hb dX6_answer_72 (by decide) ?_
              exact ih37 v2 (v3 + (1 : Int32)) g53 _ _ _ hP hS (lv_sub hl [1, 2, 3, 0] rfl) h
            · have h := ite_f hc h
              refine lv_iload_n hx hb dX6_answer_59 rfl (lv_at hl 2 rfl) ?_
              refine lv_iload_n hx hb dX6_answer_60 rfl (lv_at hl 1 rfl) ?_
              refine lv_icmp_ne (tgt := 66) hx hb dX6_answer_61 (by decide) (fun hc => ?_) (fun hc => ?_)
              · have h := ite_f hc h
                refine lv_iinc (v := (v2 + (1 : Int32))) (lv' := [(2, .int (v2 + (1 : Int32))), (0, .ref (a 0)), (1, .int x0), (3, .int v3)]) hx hb dX6_answer_66 hl (k := 2) rfl rfl (by decide) rfl (fun ls hl => ?_)
                refine lv_iinc (v := (v3 + (1 : Int32))) (lv' := [(3, .int (v3 + (1 : Int32))), (2, .int (v2 + (1 : Int32))), (0, .ref (a 0)), (1, .int x0)]) hx hb dX6_answer_69 hl (k := 3) rfl rfl (by decide) rfl (fun ls hl => ?_)
                refine lv_goto (tgt := 37) hx hb dX6_answer_72 (by decide) ?_
                exact ih37 (v2 + (1 : Int32)) (v3 + (1 : Int32)) g53 _ _ _ hP hS (lv_sub hl [2, 3, 1, 0] rfl) h
              · have h := ite_t hc h
                refine lv_iload_n hx hb dX6_answer_64 rfl (lv_at hl 3 rfl) ?_
                obtain ⟨rfl, rfl⟩ := Prod.mk.inj (Option.some.inj h)
                exact hend _ _ _ _ dX6_answer_65 rfl hP hS
      exact K37 fuelN (0 : Int32) (0 : Int32) g30 _ _ _ hP hS (lv_sub hl [2, 3, 1, 0] rfl) h
    · have h := ite_f hc h
      refine lv_sipush (v := (-1002 : Int32)) hx hb dX6_answer_18 (by decide) ?_
      obtain ⟨rfl, rfl⟩ := Prod.mk.inj (Option.some.inj h)
      exact hend _ _ _ _ dX6_answer_21 rfl hP hS
  · have h := ite_f hc h
    refine lv_sipush (v := (-1001 : Int32)) hx hb dX6_answer_10 (by decide) ?_
    obtain ⟨rfl, rfl⟩ := Prod.mk.inj (Option.some.inj h)
    exact hend _ _ _ _ dX6_answer_13 rfl hP hS
set_option maxHeartbeats 4000000 in
set_option maxRecDepth 100000 in
theorem ct_X6_passes (l : Launch) (D : va_G) (a : Nat → Nat) (cA cT : ClassId) (hI : WI a TC) (g : MG) (x0 : Int32)  (r : Int32) (g' : MG) (h : m_X6_passes g x0 = some (r, g')) :
    CtI l D a cA cT TC yX6_passes (Cond.code yX6_passes cX6_passes 2 (some .int) :: lw_all) (rmm 4 97) [.ref (a 0), .int x0] g r g' := by
  refine CtI.of (by decide +kernel) (Nat.le_of_ble_eq_true rfl) ?_
  intro p e s m args below meth c Q ls hx hb hml hown hts hK hP hS hl hend
  have hl : lv_has ls 2 [(0, .ref (a 0)), (1, .int x0)] := hl
  unfold m_X6_passes at h
  refine lv_aload_n hx hb dX6_passes_0 rfl (lv_at hl 0 rfl) ?_
  refine x_getr hx hb hts inX6 hown hK hP tF_0 (C := RX6) (F := TX6) (N := 5) rfl 0 (by decide) q168 rfl (20 + 15 * 0) rfl dX6_passes_1 ?_
  refine x_getr hx hb hts inX5 hown hK hP (tT_20 hz0) (C := RX5) (F := TX5) (N := 5) rfl 0 (by decide) q101 rfl (21 + 15 * 0) rfl dX6_passes_4 ?_
  refine lv_iload_n hx hb dX6_passes_7 rfl (lv_at hl 1 rfl) ?_
  obtain ⟨r8, hcal, h⟩ := bnd_s h
  refine x_VI (As := [.int x0]) hx hb hml hown hts hK hP hS (ct_X3_has l D a cA cT hI g 0 x0 hz0 r8 hcal) (tT_21 hz0) (C := RX3) (F := TX3) (N := 4) rfl (g_V q310 q311 q312 q37 q313) yd_X3_has ⟨Nat.le_of_ble_eq_true rfl, Nat.le_of_ble_eq_true rfl⟩ [] rfl (Nat.le_of_ble_eq_true rfl) hl.1 ⟨Nat.le_refl _, Nat.le_refl _⟩ dX6_passes_8 (fun H locs hP hS => ?_)
  refine lv_if_eq (tgt := 24) hx hb dX6_passes_11 (by decide) (fun hc => ?_) (fun hc => ?_)
  · have h := ite_t hc h
    refine lv_sipush (v := (-1001 : Int32)) hx hb dX6_passes_24 (by decide) ?_
    obtain ⟨rfl, rfl⟩ := Prod.mk.inj (Option.some.inj h)
    exact hend _ _ _ _ dX6_passes_27 rfl hP hS
  · have h := ite_f hc h
    refine lv_aload_n hx hb dX6_passes_14 rfl (lv_at hl 0 rfl) ?_
    refine x_getr hx hb hts inX6 hown hK hP tF_0 (C := RX6) (F := TX6) (N := 5) rfl 2 (by decide) q170 rfl 3 rfl dX6_passes_15 ?_
    obtain ⟨r18, hcal, h⟩ := bnd_s h
    refine x_VI (As := []) hx hb hml hown hts hK hP hS (ct_X2_isFaulty l D a cA cT hI g r18 hcal) tF_3 (C := RX2) (F := TX2) (N := 14) rfl (g_V q635 q636 q637 q41 q638) yd_X2_isFaulty ⟨Nat.le_of_ble_eq_true rfl, Nat.le_of_ble_eq_true rfl⟩ [] rfl (Nat.le_of_ble_eq_true rfl) hl.1 ⟨Nat.le_refl _, Nat.le_refl _⟩ dX6_passes_18 (fun H locs hP hS => ?_)
    refine lv_if_eq (tgt := 28) hx hb dX6_passes_21 (by decide) (fun hc => ?_) (fun hc => ?_)
    · have h := ite_t hc h
      refine lv_aload_n hx hb dX6_passes_28 rfl (lv_at hl 0 rfl) ?_
      refine lv_iload_n hx hb dX6_passes_29 rfl (lv_at hl 1 rfl) ?_
      obtain ⟨r30, g30, hcal, h⟩ := bnd2_s h
      refine x_VI (As := [.int x0]) hx hb hml hown hts hK hP hS (ct_X6_rowPasses l D a cA cT hI g x0 r30 g30 hcal) tF_0 (C := RX6) (F := TX6) (N := 5) rfl (g_V q643 q644 q18 q35 q645) yd_X6_rowPasses ⟨Nat.le_of_ble_eq_true rfl, Nat.le_of_ble_eq_true rfl⟩ [] rfl (Nat.le_of_ble_eq_true rfl) hl.1 ⟨Nat.le_refl _, Nat.le_refl _⟩ dX6_passes_30 (fun H locs hP hS => ?_)
      refine lv_if_eq (tgt := 40) hx hb dX6_passes_33 (by decide) (fun hc => ?_) (fun hc => ?_)
      · have h := ite_t hc h
        refine lv_iconst (v := (0 : Int32)) hx hb dX6_passes_40 (by decide) ?_
        obtain ⟨rfl, rfl⟩ := Prod.mk.inj (Option.some.inj h)
        exact hend _ _ _ _ dX6_passes_41 rfl hP hS
      · have h := ite_f hc h
        refine lv_iconst (v := (1 : Int32)) hx hb dX6_passes_36 (by decide) ?_
        refine lv_goto (tgt := 41) hx hb dX6_passes_37 (by decide) ?_
        obtain ⟨rfl, rfl⟩ := Prod.mk.inj (Option.some.inj h)
        exact hend _ _ _ _ dX6_passes_41 rfl hP hS
    · have h := ite_f hc h
      refine lv_sipush (v := (-1001 : Int32)) hx hb dX6_passes_24 (by decide) ?_
      obtain ⟨rfl, rfl⟩ := Prod.mk.inj (Option.some.inj h)
      exact hend _ _ _ _ dX6_passes_27 rfl hP hS
set_option maxHeartbeats 4000000 in
set_option maxRecDepth 100000 in
theorem ct_X6_unfit (l : Launch) (D : va_G) (a : Nat → Nat) (cA cT : ClassId) (hI : WI a TC) (g : MG) (x0 : Int32)  (r : Int32) (h : m_X6_unfit g x0 = some r) :
    CtI l D a cA cT TC yX6_unfit (Cond.code yX6_unfit cX6_unfit 3 (some .int) :: lw_all) (rmm 6 134) [.ref (a 0), .int x0] g r g := by
  refine CtI.of (by decide +kernel) (Nat.le_of_ble_eq_true rfl) ?_
  intro p e s m args below meth c Q ls hx hb hml hown hts hK hP hS hl hend
  have hl : lv_has ls 3 [(0, .ref (a 0)), (1, .int x0)] := hl
  unfold m_X6_unfit at h
  refine lv_aload_n hx hb dX6_unfit_0 rfl (lv_at hl 0 rfl) ?_
  refine x_getr hx hb hts inX6 hown hK hP tF_0 (C := RX6) (F := TX6) (N := 5) rfl 0 (by decide) q168 rfl (20 + 15 * 0) rfl dX6_unfit_1 ?_
  refine x_getr hx hb hts inX5 hown hK hP (tT_20 hz0) (C := RX5) (F := TX5) (N := 5) rfl 1 (by decide) q103 rfl (22 + 15 * 0) rfl dX6_unfit_4 ?_
  refine lv_iload_n hx hb dX6_unfit_7 rfl (lv_at hl 1 rfl) ?_
  obtain ⟨r8, hcal, h⟩ := bnd_s h
  refine x_VI (As := [.int x0]) hx hb hml hown hts hK hP hS (ct_X4_positionOf l D a cA cT hI g 0 x0 hz0 r8 hcal) (tT_22 hz0) (C := RX4) (F := TX4) (N := 5) rfl (g_V q343 q340 q341 q39 q342) yd_X4_positionOf ⟨Nat.le_of_ble_eq_true rfl, Nat.le_of_ble_eq_true rfl⟩ [] rfl (Nat.le_of_ble_eq_true rfl) hl.1 ⟨Nat.le_refl _, Nat.le_refl _⟩ dX6_unfit_8 (fun H locs hP hS => ?_)
  refine lv_istore_n (lv' := [(2, .int r8), (0, .ref (a 0)), (1, .int x0)]) hx hb dX6_unfit_11 rfl hl (by decide) rfl (fun ls hl => ?_)
  refine lv_iload_n hx hb dX6_unfit_12 rfl (lv_at hl 0 rfl) ?_
  refine lv_sipush (v := (-1005 : Int32)) hx hb dX6_unfit_13 (by decide) ?_
  refine lv_icmp_ne (tgt := 23) hx hb dX6_unfit_16 (by decide) (fun hc => ?_) (fun hc => ?_)
  · have h := ite_f hc h
    refine lv_aload_n hx hb dX6_unfit_23 rfl (lv_at hl 1 rfl) ?_
    refine x_getr hx hb hts inX6 hown hK hP tF_0 (C := RX6) (F := TX6) (N := 5) rfl 0 (by decide) q168 rfl (20 + 15 * 0) rfl dX6_unfit_24 ?_
    refine lv_aload_n hx hb dX6_unfit_27 rfl (lv_at hl 1 rfl) ?_
    refine x_getr hx hb hts inX6 hown hK hP tF_0 (C := RX6) (F := TX6) (N := 5) rfl 0 (by decide) q168 rfl (20 + 15 * 0) rfl dX6_unfit_28 ?_
    refine x_getr hx hb hts inX5 hown hK hP (tT_20 hz0) (C := RX5) (F := TX5) (N := 5) rfl 1 (by decide) q103 rfl (22 + 15 * 0) rfl dX6_unfit_31 ?_
    refine lv_iload_n hx hb dX6_unfit_34 rfl (lv_at hl 0 rfl) ?_
    obtain ⟨r35, hcal, h⟩ := bnd_s h
    refine x_VI (As := [.int r8]) hx hb hml hown hts hK hP hS (ct_X4_lowAt l D a cA cT hI g 0 r8 hz0 r35 hcal) (tT_22 hz0) (C := RX4) (F := TX4) (N := 5) rfl (g_V q344 q266 q267 q39 q268) yd_X4_lowAt ⟨Nat.le_of_ble_eq_true rfl, Nat.le_of_ble_eq_true rfl⟩ [.ref (a (20 + 15 * 0))] rfl (Nat.le_of_ble_eq_true rfl) hl.1 ⟨Nat.le_refl _, Nat.le_refl _⟩ dX6_unfit_35 (fun H locs hP hS => ?_)
    refine lv_aload_n hx hb dX6_unfit_38 rfl (lv_at hl 1 rfl) ?_
    refine x_getr hx hb hts inX6 hown hK hP tF_0 (C := RX6) (F := TX6) (N := 5) rfl 0 (by decide) q168 rfl (20 + 15 * 0) rfl dX6_unfit_39 ?_
    refine x_getr hx hb hts inX5 hown hK hP (tT_20 hz0) (C := RX5) (F := TX5) (N := 5) rfl 1 (by decide) q103 rfl (22 + 15 * 0) rfl dX6_unfit_42 ?_
    refine lv_iload_n hx hb dX6_unfit_45 rfl (lv_at hl 0 rfl) ?_
    obtain ⟨r46, hcal, h⟩ := bnd_s h
    refine x_VI (As := [.int r8]) hx hb hml hown hts hK hP hS (ct_X4_highAt l D a cA cT hI g 0 r8 hz0 r46 hcal) (tT_22 hz0) (C := RX4) (F := TX4) (N := 5) rfl (g_V q345 q271 q272 q39 q273) yd_X4_highAt ⟨Nat.le_of_ble_eq_true rfl, Nat.le_of_ble_eq_true rfl⟩ [.int r35, .ref (a (20 + 15 * 0))] rfl (Nat.le_of_ble_eq_true rfl) hl.1 ⟨Nat.le_refl _, Nat.le_refl _⟩ dX6_unfit_46 (fun H locs hP hS => ?_)
    obtain ⟨r49, hcal, h⟩ := bnd_s h
    refine x_VI (As := [.int r35, .int r46]) hx hb hml hown hts hK hP hS (ct_X5_unfitRows l D a cA cT hI g 0 r35 r46 hz0 r49 hcal) (tT_20 hz0) (C := RX5) (F := TX5) (N := 5) rfl (g_V q519 q520 q521 q36 q522) yd_X5_unfitRows ⟨Nat.le_of_ble_eq_true rfl, Nat.le_of_ble_eq_true rfl⟩ [] rfl (Nat.le_of_ble_eq_true rfl) hl.1 ⟨Nat.le_refl _, Nat.le_refl _⟩ dX6_unfit_49 (fun H locs hP hS => ?_)
    obtain rfl := Option.some.inj h
    exact hend _ _ _ _ dX6_unfit_52 rfl hP hS
  · have h := ite_t hc h
    refine lv_sipush (v := (-1001 : Int32)) hx hb dX6_unfit_19 (by decide) ?_
    obtain rfl := Option.some.inj h
    exact hend _ _ _ _ dX6_unfit_22 rfl hP hS
