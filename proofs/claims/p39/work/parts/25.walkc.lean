set_option maxHeartbeats 4000000 in
set_option maxRecDepth 100000 in
theorem ct_X6_unevenness (l : Launch) (D : va_G) (a : Nat → Nat) (cA cT : ClassId) (hI : WI a TC) (g : MG) (x0 : Int32) (x1 : Int32) (x2 : Int32)  (r : Int32) (h : m_X6_unevenness g x0 x1 x2 = some r) :
    CtI l D a cA cT TC yX6_unevenness (Cond.code yX6_unevenness cX6_unevenness 5 (some .int) :: lw_all) (rmm 4 91) [.ref (a 0), .int x0, .int x1, .int x2] g r g := by
  refine CtI.of (by decide +kernel) (Nat.le_of_ble_eq_true rfl) ?_
  intro p e s m args below meth c Q ls hx hb hml hown hts hK hP hS hl hend
  have hl : lv_has ls 5 [(0, .ref (a 0)), (1, .int x0), (2, .int x1), (3, .int x2)] := hl
  unfold m_X6_unevenness at h
  refine lv_aload_n hx hb dX6_unevenness_0 rfl (lv_at hl 0 rfl) ?_
  refine x_getr hx hb hts inX6 hown hK hP tF_0 (C := RX6) (F := TX6) (N := 5) rfl 0 (by decide) q168 rfl (20 + 15 * 0) rfl dX6_unevenness_1 ?_
  refine x_getr hx hb hts inX5 hown hK hP (tT_20 hz0) (C := RX5) (F := TX5) (N := 5) rfl 0 (by decide) q101 rfl (21 + 15 * 0) rfl dX6_unevenness_4 ?_
  refine lv_iload_n hx hb dX6_unevenness_7 rfl (lv_at hl 1 rfl) ?_
  refine lv_iconst (v := (0 : Int32)) hx hb dX6_unevenness_8 (by decide) ?_
  refine lv_iload_n hx hb dX6_unevenness_9 rfl (lv_at hl 2 rfl) ?_
  obtain ⟨r10, hcal, h⟩ := bnd_s h
  refine x_VI (As := [.int x0, .int (0 : Int32), .int x1]) hx hb hml hown hts hK hP hS (ct_X3_amountWithKeys l D a cA cT hI g 0 x0 (0 : Int32) x1 hz0 r10 hcal) (tT_21 hz0) (C := RX3) (F := TX3) (N := 4) rfl (g_V q438 q237 q238 q37 q239) yd_X3_amountWithKeys ⟨Nat.le_of_ble_eq_true rfl, Nat.le_of_ble_eq_true rfl⟩ [] rfl (Nat.le_of_ble_eq_true rfl) hl.1 ⟨Nat.le_refl _, Nat.le_refl _⟩ dX6_unevenness_10 (fun H locs hP hS => ?_)
  refine lv_istore (lv' := [(4, .int r10), (0, .ref (a 0)), (1, .int x0), (2, .int x1), (3, .int x2)]) hx hb dX6_unevenness_13 hl (by decide) rfl (fun ls hl => ?_)
  refine lv_iload_n hx hb dX6_unevenness_15 rfl (lv_at hl 4 rfl) ?_
  refine lv_iconst (v := (2 : Int32)) hx hb dX6_unevenness_16 (by decide) ?_
  refine lv_iload hx hb dX6_unevenness_17 (lv_at hl 0 rfl) ?_
  refine lv_imul hx hb dX6_unevenness_19 ?_
  refine lv_isub hx hb dX6_unevenness_20 ?_
  refine va_mabs hx hb (hml.trans hl.1.symm) hown (hts _ q577) (hts _ q578) (hts _ q42) (hts _ q579) (Nat.le_of_ble_eq_true rfl) (Nat.le_of_ble_eq_true rfl) (Nat.le_refl _) (Nat.le_refl _) dX6_unevenness_21 ?_
  obtain rfl := Option.some.inj h
  exact hend _ _ _ _ dX6_unevenness_24 rfl hP hS
set_option maxHeartbeats 4000000 in
set_option maxRecDepth 100000 in
theorem ct_X6_bestSplit (l : Launch) (D : va_G) (a : Nat → Nat) (cA cT : ClassId) (hI : WI a TC) (g : MG) (x0 : Int32)  (r : Int32) (h : m_X6_bestSplit g x0 = some r) :
    CtI l D a cA cT TC yX6_bestSplit (Cond.code yX6_bestSplit cX6_bestSplit 11 (some .int) :: lw_all) (rmm 5 115) [.ref (a 0), .int x0] g r g := by
  refine CtI.of (by decide +kernel) (Nat.le_of_ble_eq_true rfl) ?_
  intro p e s m args below meth c Q ls hx hb hml hown hts hK hP hS hl hend
  have hl : lv_has ls 11 [(0, .ref (a 0)), (1, .int x0)] := hl
  unfold m_X6_bestSplit at h
  refine lv_aload_n hx hb dX6_bestSplit_0 rfl (lv_at hl 0 rfl) ?_
  refine x_getr hx hb hts inX6 hown hK hP tF_0 (C := RX6) (F := TX6) (N := 5) rfl 0 (by decide) q168 rfl (20 + 15 * 0) rfl dX6_bestSplit_1 ?_
  refine x_getr hx hb hts inX5 hown hK hP (tT_20 hz0) (C := RX5) (F := TX5) (N := 5) rfl 1 (by decide) q103 rfl (22 + 15 * 0) rfl dX6_bestSplit_4 ?_
  refine lv_iload_n hx hb dX6_bestSplit_7 rfl (lv_at hl 1 rfl) ?_
  obtain ⟨r8, hcal, h⟩ := bnd_s h
  refine x_VI (As := [.int x0]) hx hb hml hown hts hK hP hS (ct_X4_positionOf l D a cA cT hI g 0 x0 hz0 r8 hcal) (tT_22 hz0) (C := RX4) (F := TX4) (N := 5) rfl (g_V q343 q340 q341 q39 q342) yd_X4_positionOf ⟨Nat.le_of_ble_eq_true rfl, Nat.le_of_ble_eq_true rfl⟩ [] rfl (Nat.le_of_ble_eq_true rfl) hl.1 ⟨Nat.le_refl _, Nat.le_refl _⟩ dX6_bestSplit_8 (fun H locs hP hS => ?_)
  refine lv_istore_n (lv' := [(2, .int r8), (0, .ref (a 0)), (1, .int x0)]) hx hb dX6_bestSplit_11 rfl hl (by decide) rfl (fun ls hl => ?_)
  refine lv_iload_n hx hb dX6_bestSplit_12 rfl (lv_at hl 0 rfl) ?_
  refine lv_sipush (v := (-1005 : Int32)) hx hb dX6_bestSplit_13 (by decide) ?_
  refine lv_icmp_ne (tgt := 23) hx hb dX6_bestSplit_16 (by decide) (fun hc => ?_) (fun hc => ?_)
  · have h := ite_f hc h
    refine lv_aload_n hx hb dX6_bestSplit_23 rfl (lv_at hl 1 rfl) ?_
    refine x_getr hx hb hts inX6 hown hK hP tF_0 (C := RX6) (F := TX6) (N := 5) rfl 0 (by decide) q168 rfl (20 + 15 * 0) rfl dX6_bestSplit_24 ?_
    refine x_getr hx hb hts inX5 hown hK hP (tT_20 hz0) (C := RX5) (F := TX5) (N := 5) rfl 1 (by decide) q103 rfl (22 + 15 * 0) rfl dX6_bestSplit_27 ?_
    refine lv_iload_n hx hb dX6_bestSplit_30 rfl (lv_at hl 0 rfl) ?_
    obtain ⟨r31, hcal, h⟩ := bnd_s h
    refine x_VI (As := [.int r8]) hx hb hml hown hts hK hP hS (ct_X4_lowAt l D a cA cT hI g 0 r8 hz0 r31 hcal) (tT_22 hz0) (C := RX4) (F := TX4) (N := 5) rfl (g_V q344 q266 q267 q39 q268) yd_X4_lowAt ⟨Nat.le_of_ble_eq_true rfl, Nat.le_of_ble_eq_true rfl⟩ [] rfl (Nat.le_of_ble_eq_true rfl) hl.1 ⟨Nat.le_refl _, Nat.le_refl _⟩ dX6_bestSplit_31 (fun H locs hP hS => ?_)
    refine lv_istore_n (lv' := [(3, .int r31), (2, .int r8), (0, .ref (a 0)), (1, .int x0)]) hx hb dX6_bestSplit_34 rfl hl (by decide) rfl (fun ls hl => ?_)
    refine lv_aload_n hx hb dX6_bestSplit_35 rfl (lv_at hl 2 rfl) ?_
    refine x_getr hx hb hts inX6 hown hK hP tF_0 (C := RX6) (F := TX6) (N := 5) rfl 0 (by decide) q168 rfl (20 + 15 * 0) rfl dX6_bestSplit_36 ?_
    refine x_getr hx hb hts inX5 hown hK hP (tT_20 hz0) (C := RX5) (F := TX5) (N := 5) rfl 1 (by decide) q103 rfl (22 + 15 * 0) rfl dX6_bestSplit_39 ?_
    refine lv_iload_n hx hb dX6_bestSplit_42 rfl (lv_at hl 1 rfl) ?_
    obtain ⟨r43, hcal, h⟩ := bnd_s h
    refine x_VI (As := [.int r8]) hx hb hml hown hts hK hP hS (ct_X4_highAt l D a cA cT hI g 0 r8 hz0 r43 hcal) (tT_22 hz0) (C := RX4) (F := TX4) (N := 5) rfl (g_V q345 q271 q272 q39 q273) yd_X4_highAt ⟨Nat.le_of_ble_eq_true rfl, Nat.le_of_ble_eq_true rfl⟩ [] rfl (Nat.le_of_ble_eq_true rfl) hl.1 ⟨Nat.le_refl _, Nat.le_refl _⟩ dX6_bestSplit_43 (fun H locs hP hS => ?_)
    refine lv_istore (lv' := [(4, .int r43), (3, .int r31), (2, .int r8), (0, .ref (a 0)), (1, .int x0)]) hx hb dX6_bestSplit_46 hl (by decide) rfl (fun ls hl => ?_)
    refine lv_iload hx hb dX6_bestSplit_48 (lv_at hl 0 rfl) ?_
    refine lv_iload_n hx hb dX6_bestSplit_50 rfl (lv_at hl 1 rfl) ?_
    refine lv_isub hx hb dX6_bestSplit_51 ?_
    refine lv_iconst (v := (2 : Int32)) hx hb dX6_bestSplit_52 (by decide) ?_
    refine lv_icmp_ge (tgt := 60) hx hb dX6_bestSplit_53 (by decide) (fun hc => ?_) (fun hc => ?_)
    · have h := ite_t hc h
      refine lv_aload_n hx hb dX6_bestSplit_60 rfl (lv_at hl 3 rfl) ?_
      refine x_getr hx hb hts inX6 hown hK hP tF_0 (C := RX6) (F := TX6) (N := 5) rfl 0 (by decide) q168 rfl (20 + 15 * 0) rfl dX6_bestSplit_61 ?_
      refine x_getr hx hb hts inX5 hown hK hP (tT_20 hz0) (C := RX5) (F := TX5) (N := 5) rfl 0 (by decide) q101 rfl (21 + 15 * 0) rfl dX6_bestSplit_64 ?_
      refine lv_iload_n hx hb dX6_bestSplit_67 rfl (lv_at hl 4 rfl) ?_
      obtain ⟨r68, hcal, h⟩ := bnd_s h
      refine x_VI (As := [.int x0]) hx hb hml hown hts hK hP hS (ct_X3_amountAt l D a cA cT hI g 0 x0 hz0 r68 hcal) (tT_21 hz0) (C := RX3) (F := TX3) (N := 4) rfl (g_V q232 q233 q234 q37 q235) yd_X3_amountAt ⟨Nat.le_of_ble_eq_true rfl, Nat.le_of_ble_eq_true rfl⟩ [] rfl (Nat.le_of_ble_eq_true rfl) hl.1 ⟨Nat.le_refl _, Nat.le_refl _⟩ dX6_bestSplit_68 (fun H locs hP hS => ?_)
      refine lv_istore (lv' := [(5, .int r68), (4, .int r43), (3, .int r31), (2, .int r8), (0, .ref (a 0)), (1, .int x0)]) hx hb dX6_bestSplit_71 hl (by decide) rfl (fun ls hl => ?_)
      refine lv_iload_n hx hb dX6_bestSplit_73 rfl (lv_at hl 2 rfl) ?_
      refine lv_iconst (v := (1 : Int32)) hx hb dX6_bestSplit_74 (by decide) ?_
      refine lv_iadd hx hb dX6_bestSplit_75 ?_
      refine lv_istore (lv' := [(6, .int (r31 + (1 : Int32))), (5, .int r68), (4, .int r43), (3, .int r31), (2, .int r8), (0, .ref (a 0)), (1, .int x0)]) hx hb dX6_bestSplit_76 hl (by decide) rfl (fun ls hl => ?_)
      refine lv_aload_n hx hb dX6_bestSplit_78 rfl (lv_at hl 5 rfl) ?_
      refine lv_iload_n hx hb dX6_bestSplit_79 rfl (lv_at hl 6 rfl) ?_
      refine lv_iload hx hb dX6_bestSplit_80 (lv_at hl 0 rfl) ?_
      refine lv_iload hx hb dX6_bestSplit_82 (lv_at hl 1 rfl) ?_
      obtain ⟨r84, hcal, h⟩ := bnd_s h
      refine x_VI (As := [.int x0, .int (r31 + (1 : Int32)), .int r68]) hx hb hml hown hts hK hP hS (ct_X6_unevenness l D a cA cT hI g x0 (r31 + (1 : Int32)) r68 r84 hcal) tF_0 (C := RX6) (F := TX6) (N := 5) rfl (g_V q574 q575 q8 q35 q576) yd_X6_unevenness ⟨Nat.le_of_ble_eq_true rfl, Nat.le_of_ble_eq_true rfl⟩ [] rfl (Nat.le_of_ble_eq_true rfl) hl.1 ⟨Nat.le_refl _, Nat.le_refl _⟩ dX6_bestSplit_84 (fun H locs hP hS => ?_)
      refine lv_istore (lv' := [(7, .int r84), (6, .int (r31 + (1 : Int32))), (5, .int r68), (4, .int r43), (3, .int r31), (2, .int r8), (0, .ref (a 0)), (1, .int x0)]) hx hb dX6_bestSplit_87 hl (by decide) rfl (fun ls hl => ?_)
      refine lv_iconst (v := (0 : Int32)) hx hb dX6_bestSplit_89 (by decide) ?_
      refine lv_istore (lv' := [(8, .int (0 : Int32)), (7, .int r84), (6, .int (r31 + (1 : Int32))), (5, .int r68), (4, .int r43), (3, .int r31), (2, .int r8), (0, .ref (a 0)), (1, .int x0)]) hx hb dX6_bestSplit_90 hl (by decide) rfl (fun ls hl => ?_)
      have K92 : ∀ (n92 : Nat) (v6 : Int32) (v7 : Int32) (v8 : Int32) (H : Heap) (locs : List Loc) (ls : Array Slot), WP D a cA cT TC g H → va_S (AA a TC) s.heap H locs → lv_has ls 11 [(0, .ref (a 0)), (1, .int x0), (3, .int r31), (4, .int r43), (5, .int r68), (6, .int v6), (7, .int v7), (8, .int v8)] → lpo (b_X6_bestSplit_L92 g x0 r31 r43 r68) n92 (v6, v7, v8) = some r → W p l e (rmm 5 115) s m args below meth c H locs 0 0 Q (F0 m 92 ls []) := by
        intro n92
        induction n92 with
        | zero => intro v6 v7 v8 H locs ls hP hS hl h; exact (lpo_0 h).elim
        | succ n92 ih92 =>
          intro v6 v7 v8 H locs ls hP hS hl h
          have h : m_X6_bestSplit_L92 (lpo (b_X6_bestSplit_L92 g x0 r31 r43 r68) n92) g x0 r31 r43 r68 v6 v7 v8 = some r := h
          unfold m_X6_bestSplit_L92 at h
          refine lv_iload hx hb dX6_bestSplit_92 (lv_at hl 7 rfl) ?_
          refine lv_aload_n hx hb dX6_bestSplit_94 rfl (lv_at hl 0 rfl) ?_
          refine x_getr hx hb hts inX6 hown hK hP tF_0 (C := RX6) (F := TX6) (N := 5) rfl 0 (by decide) q168 rfl (20 + 15 * 0) rfl dX6_bestSplit_95 ?_
          refine x_getr hx hb hts inX5 hown hK hP (tT_20 hz0) (C := RX5) (F := TX5) (N := 5) rfl 0 (by decide) q101 rfl (21 + 15 * 0) rfl dX6_bestSplit_98 ?_
          refine x_get hx hb hts inX3 hown hK hP (tT_21 hz0) (C := RX3) (F := TX3) (N := 4) rfl 3 (by decide) q75 rfl rfl dX6_bestSplit_101 ?_
          refine lv_icmp_ge (tgt := 198) hx hb dX6_bestSplit_104 (by decide) (fun hc => ?_) (fun hc => ?_)
          · have h := ite_t hc h
            refine lv_iload hx hb dX6_bestSplit_198 (lv_at hl 5 rfl) ?_
            obtain rfl := Option.some.inj h
            exact hend _ _ _ _ dX6_bestSplit_200 rfl hP hS
          · have h := ite_f hc h
            refine lv_aload_n hx hb dX6_bestSplit_107 rfl (lv_at hl 0 rfl) ?_
            refine x_getr hx hb hts inX6 hown hK hP tF_0 (C := RX6) (F := TX6) (N := 5) rfl 0 (by decide) q168 rfl (20 + 15 * 0) rfl dX6_bestSplit_108 ?_
            refine x_getr hx hb hts inX5 hown hK hP (tT_20 hz0) (C := RX5) (F := TX5) (N := 5) rfl 0 (by decide) q101 rfl (21 + 15 * 0) rfl dX6_bestSplit_111 ?_
            refine lv_iload hx hb dX6_bestSplit_114 (lv_at hl 7 rfl) ?_
            obtain ⟨r116, hcal, h⟩ := bnd_s h
            refine x_VI (As := [.int v8]) hx hb hml hown hts hK hP hS (ct_X3_keyOf l D a cA cT hI g 0 v8 hz0 r116 hcal) (tT_21 hz0) (C := RX3) (F := TX3) (N := 4) rfl (g_V q314 q244 q245 q37 q246) yd_X3_keyOf ⟨Nat.le_of_ble_eq_true rfl, Nat.le_of_ble_eq_true rfl⟩ [] rfl (Nat.le_of_ble_eq_true rfl) hl.1 ⟨Nat.le_refl _, Nat.le_refl _⟩ dX6_bestSplit_116 (fun H locs hP hS => ?_)
            refine lv_iconst (v := (1 : Int32)) hx hb dX6_bestSplit_119 (by decide) ?_
            refine lv_iadd hx hb dX6_bestSplit_120 ?_
            refine lv_istore (lv' := [(9, .int (r116 + (1 : Int32))), (0, .ref (a 0)), (1, .int x0), (3, .int r31), (4, .int r43), (5, .int r68), (6, .int v6), (7, .int v7), (8, .int v8)]) hx hb dX6_bestSplit_121 hl (by decide) rfl (fun ls hl => ?_)
            refine lv_aload_n hx hb dX6_bestSplit_123 rfl (lv_at hl 1 rfl) ?_
            refine x_getr hx hb hts inX6 hown hK hP tF_0 (C := RX6) (F := TX6) (N := 5) rfl 0 (by decide) q168 rfl (20 + 15 * 0) rfl dX6_bestSplit_124 ?_
            refine x_getr hx hb hts inX5 hown hK hP (tT_20 hz0) (C := RX5) (F := TX5) (N := 5) rfl 0 (by decide) q101 rfl (21 + 15 * 0) rfl dX6_bestSplit_127 ?_
            refine lv_iload hx hb dX6_bestSplit_130 (lv_at hl 8 rfl) ?_
            obtain ⟨r132, hcal, h⟩ := bnd_s h
            refine x_VI (As := [.int v8]) hx hb hml hown hts hK hP hS (ct_X3_placeOf l D a cA cT hI g 0 v8 hz0 r132 hcal) (tT_21 hz0) (C := RX3) (F := TX3) (N := 4) rfl (g_V q319 q225 q226 q37 q227) yd_X3_placeOf ⟨Nat.le_of_ble_eq_true rfl, Nat.le_of_ble_eq_true rfl⟩ [] rfl (Nat.le_of_ble_eq_true rfl) hl.1 ⟨Nat.le_refl _, Nat.le_refl _⟩ dX6_bestSplit_132 (fun H locs hP hS => ?_)
            refine lv_iload_n hx hb dX6_bestSplit_135 rfl (lv_at hl 2 rfl) ?_
            refine lv_icmp_ne (tgt := 192) hx hb dX6_bestSplit_136 (by decide) (fun hc => ?_) (fun hc => ?_)
            · have h := ite_f hc h
              refine lv_iinc (v := (v8 + (1 : Int32))) (lv' := [(8, .int (v8 + (1 : Int32))), (9, .int (r116 + (1 : Int32))), (0, .ref (a 0)), (1, .int x0), (3, .int r31), (4, .int r43), (5, .int r68), (6, .int v6), (7, .int v7)]) hx hb dX6_bestSplit_192 hl (k := 8) rfl rfl (by decide) rfl (fun ls hl => ?_)
              refine lv_goto (tgt := 92) hx hb dX6_bestSplit_195 (by decide) ?_
              exact ih92 v6 v7 (v8 + (1 : Int32)) _ _ _ hP hS (lv_sub hl [2, 3, 4, 5, 6, 7, 8, 0] rfl) h
            · have h := ite_t hc h
              refine lv_iload hx hb dX6_bestSplit_139 (lv_at hl 0 rfl) ?_
              refine lv_iload_n hx hb dX6_bestSplit_141 rfl (lv_at hl 3 rfl) ?_
              refine lv_icmp_le (tgt := 192) hx hb dX6_bestSplit_142 (by decide) (fun hc => ?_) (fun hc => ?_)
              · have h := ite_t hc h
                refine lv_iinc (v := (v8 + (1 : Int32))) (lv' := [(8, .int (v8 + (1 : Int32))), (9, .int (r116 + (1 : Int32))), (0, .ref (a 0)), (1, .int x0), (3, .int r31), (4, .int r43), (5, .int r68), (6, .int v6), (7, .int v7)]) hx hb dX6_bestSplit_192 hl (k := 8) rfl rfl (by decide) rfl (fun ls hl => ?_)
                refine lv_goto (tgt := 92) hx hb dX6_bestSplit_195 (by decide) ?_
                exact ih92 v6 v7 (v8 + (1 : Int32)) _ _ _ hP hS (lv_sub hl [2, 3, 4, 5, 6, 7, 8, 0] rfl) h
              · have h := ite_f hc h
                refine lv_iload hx hb dX6_bestSplit_145 (lv_at hl 0 rfl) ?_
                refine lv_iload hx hb dX6_bestSplit_147 (lv_at hl 4 rfl) ?_
                refine lv_icmp_ge (tgt := 192) hx hb dX6_bestSplit_149 (by decide) (fun hc => ?_) (fun hc => ?_)
                · have h := ite_t hc h
                  refine lv_iinc (v := (v8 + (1 : Int32))) (lv' := [(8, .int (v8 + (1 : Int32))), (9, .int (r116 + (1 : Int32))), (0, .ref (a 0)), (1, .int x0), (3, .int r31), (4, .int r43), (5, .int r68), (6, .int v6), (7, .int v7)]) hx hb dX6_bestSplit_192 hl (k := 8) rfl rfl (by decide) rfl (fun ls hl => ?_)
                  refine lv_goto (tgt := 92) hx hb dX6_bestSplit_195 (by decide) ?_
                  exact ih92 v6 v7 (v8 + (1 : Int32)) _ _ _ hP hS (lv_sub hl [2, 3, 4, 5, 6, 7, 8, 0] rfl) h
                · have h := ite_f hc h
                  refine lv_aload_n hx hb dX6_bestSplit_152 rfl (lv_at hl 1 rfl) ?_
                  refine lv_iload_n hx hb dX6_bestSplit_153 rfl (lv_at hl 2 rfl) ?_
                  refine lv_iload hx hb dX6_bestSplit_154 (lv_at hl 0 rfl) ?_
                  refine lv_iload hx hb dX6_bestSplit_156 (lv_at hl 5 rfl) ?_
                  obtain ⟨r158, hcal, h⟩ := bnd_s h
                  refine x_VI (As := [.int x0, .int (r116 + (1 : Int32)), .int r68]) hx hb hml hown hts hK hP hS (ct_X6_unevenness l D a cA cT hI g x0 (r116 + (1 : Int32)) r68 r158 hcal) tF_0 (C := RX6) (F := TX6) (N := 5) rfl (g_V q574 q575 q8 q35 q576) yd_X6_unevenness ⟨Nat.le_of_ble_eq_true rfl, Nat.le_of_ble_eq_true rfl⟩ [] rfl (Nat.le_of_ble_eq_true rfl) hl.1 ⟨Nat.le_refl _, Nat.le_refl _⟩ dX6_bestSplit_158 (fun H locs hP hS => ?_)
                  refine lv_istore (lv' := [(10, .int r158), (9, .int (r116 + (1 : Int32))), (0, .ref (a 0)), (1, .int x0), (3, .int r31), (4, .int r43), (5, .int r68), (6, .int v6), (7, .int v7), (8, .int v8)]) hx hb dX6_bestSplit_161 hl (by decide) rfl (fun ls hl => ?_)
                  refine lv_iload hx hb dX6_bestSplit_163 (lv_at hl 0 rfl) ?_
                  refine lv_iload hx hb dX6_bestSplit_165 (lv_at hl 8 rfl) ?_
                  refine lv_icmp_lt (tgt := 184) hx hb dX6_bestSplit_167 (by decide) (fun hc => ?_) (fun hc => ?_)
                  · have h := ite_t hc h
                    refine lv_iload hx hb dX6_bestSplit_184 (lv_at hl 1 rfl) ?_
                    refine lv_istore (lv' := [(6, .int (r116 + (1 : Int32))), (10, .int r158), (9, .int (r116 + (1 : Int32))), (0, .ref (a 0)), (1, .int x0), (3, .int r31), (4, .int r43), (5, .int r68), (7, .int v7), (8, .int v8)]) hx hb dX6_bestSplit_186 hl (by decide) rfl (fun ls hl => ?_)
                    refine lv_iload hx hb dX6_bestSplit_188 (lv_at hl 1 rfl) ?_
                    refine lv_istore (lv' := [(7, .int r158), (6, .int (r116 + (1 : Int32))), (10, .int r158), (9, .int (r116 + (1 : Int32))), (0, .ref (a 0)), (1, .int x0), (3, .int r31), (4, .int r43), (5, .int r68), (8, .int v8)]) hx hb dX6_bestSplit_190 hl (by decide) rfl (fun ls hl => ?_)
                    refine lv_iinc (v := (v8 + (1 : Int32))) (lv' := [(8, .int (v8 + (1 : Int32))), (7, .int r158), (6, .int (r116 + (1 : Int32))), (10, .int r158), (9, .int (r116 + (1 : Int32))), (0, .ref (a 0)), (1, .int x0), (3, .int r31), (4, .int r43), (5, .int r68)]) hx hb dX6_bestSplit_192 hl (k := 9) rfl rfl (by decide) rfl (fun ls hl => ?_)
                    refine lv_goto (tgt := 92) hx hb dX6_bestSplit_195 (by decide) ?_
                    exact ih92 (r116 + (1 : Int32)) r158 (v8 + (1 : Int32)) _ _ _ hP hS (lv_sub hl [5, 6, 7, 8, 9, 2, 1, 0] rfl) h
                  · have h := ite_f hc h
                    refine lv_iload hx hb dX6_bestSplit_170 (lv_at hl 0 rfl) ?_
                    refine lv_iload hx hb dX6_bestSplit_172 (lv_at hl 8 rfl) ?_
                    refine lv_icmp_ne (tgt := 192) hx hb dX6_bestSplit_174 (by decide) (fun hc => ?_) (fun hc => ?_)
                    · have h := ite_f hc h
                      refine lv_iinc (v := (v8 + (1 : Int32))) (lv' := [(8, .int (v8 + (1 : Int32))), (10, .int r158), (9, .int (r116 + (1 : Int32))), (0, .ref (a 0)), (1, .int x0), (3, .int r31), (4, .int r43), (5, .int r68), (6, .int v6), (7, .int v7)]) hx hb dX6_bestSplit_192 hl (k := 9) rfl rfl (by decide) rfl (fun ls hl => ?_)
                      refine lv_goto (tgt := 92) hx hb dX6_bestSplit_195 (by decide) ?_
                      exact ih92 v6 v7 (v8 + (1 : Int32)) _ _ _ hP hS (lv_sub hl [3, 4, 5, 6, 7, 8, 9, 0] rfl) h
                    · have h := ite_t hc h
                      refine lv_iload hx hb dX6_bestSplit_177 (lv_at hl 1 rfl) ?_
                      refine lv_iload hx hb dX6_bestSplit_179 (lv_at hl 7 rfl) ?_
                      refine lv_icmp_ge (tgt := 192) hx hb dX6_bestSplit_181 (by decide) (fun hc => ?_) (fun hc => ?_)
                      · have h := ite_t hc h
                        refine lv_iinc (v := (v8 + (1 : Int32))) (lv' := [(8, .int (v8 + (1 : Int32))), (10, .int r158), (9, .int (r116 + (1 : Int32))), (0, .ref (a 0)), (1, .int x0), (3, .int r31), (4, .int r43), (5, .int r68), (6, .int v6), (7, .int v7)]) hx hb dX6_bestSplit_192 hl (k := 9) rfl rfl (by decide) rfl (fun ls hl => ?_)
                        refine lv_goto (tgt := 92) hx hb dX6_bestSplit_195 (by decide) ?_
                        exact ih92 v6 v7 (v8 + (1 : Int32)) _ _ _ hP hS (lv_sub hl [3, 4, 5, 6, 7, 8, 9, 0] rfl) h
                      · have h := ite_f hc h
                        refine lv_iload hx hb dX6_bestSplit_184 (lv_at hl 1 rfl) ?_
                        refine lv_istore (lv' := [(6, .int (r116 + (1 : Int32))), (10, .int r158), (9, .int (r116 + (1 : Int32))), (0, .ref (a 0)), (1, .int x0), (3, .int r31), (4, .int r43), (5, .int r68), (7, .int v7), (8, .int v8)]) hx hb dX6_bestSplit_186 hl (by decide) rfl (fun ls hl => ?_)
                        refine lv_iload hx hb dX6_bestSplit_188 (lv_at hl 1 rfl) ?_
                        refine lv_istore (lv' := [(7, .int r158), (6, .int (r116 + (1 : Int32))), (10, .int r158), (9, .int (r116 + (1 : Int32))), (0, .ref (a 0)), (1, .int x0), (3, .int r31), (4, .int r43), (5, .int r68), (8, .int v8)]) hx hb dX6_bestSplit_190 hl (by decide) rfl (fun ls hl => ?_)
                        refine lv_iinc (v := (v8 + (1 : Int32))) (lv' := [(8, .int (v8 + (1 : Int32))), (7, .int r158), (6, .int (r116 + (1 : Int32))), (10, .int r158), (9, .int (r116 + (1 : Int32))), (0, .ref (a 0)), (1, .int x0), (3, .int r31), (4, .int r43), (5, .int r68)]) hx hb dX6_bestSplit_192 hl (k := 9) rfl rfl (by decide) rfl (fun ls hl => ?_)
                        refine lv_goto (tgt := 92) hx hb dX6_bestSplit_195 (by decide) ?_
                        exact ih92 (r116 + (1 : Int32)) r158 (v8 + (1 : Int32)) _ _ _ hP hS (lv_sub hl [5, 6, 7, 8, 9, 2, 1, 0] rfl) h
      exact K92 fuelN (r31 + (1 : Int32)) r84 (0 : Int32) _ _ _ hP hS (lv_sub hl [7, 8, 5, 4, 3, 2, 1, 0] rfl) h
    · have h := ite_f hc h
      refine lv_sipush (v := (-1005 : Int32)) hx hb dX6_bestSplit_56 (by decide) ?_
      obtain rfl := Option.some.inj h
      exact hend _ _ _ _ dX6_bestSplit_59 rfl hP hS
  · have h := ite_t hc h
    refine lv_sipush (v := (-1001 : Int32)) hx hb dX6_bestSplit_19 (by decide) ?_
    obtain rfl := Option.some.inj h
    exact hend _ _ _ _ dX6_bestSplit_22 rfl hP hS
set_option maxHeartbeats 4000000 in
set_option maxRecDepth 100000 in
theorem ct_X6_heaviest (l : Launch) (D : va_G) (a : Nat → Nat) (cA cT : ClassId) (hI : WI a TC) (g : MG)   (r : Int32) (h : m_X6_heaviest g = some r) :
    CtI l D a cA cT TC yX6_heaviest (Cond.code yX6_heaviest cX6_heaviest 6 (some .int) :: lw_all) (rmm 5 112) [.ref (a 0)] g r g := by
  refine CtI.of (by decide +kernel) (Nat.le_of_ble_eq_true rfl) ?_
  intro p e s m args below meth c Q ls hx hb hml hown hts hK hP hS hl hend
  have hl : lv_has ls 6 [(0, .ref (a 0))] := hl
  unfold m_X6_heaviest at h
  refine lv_sipush (v := (-1005 : Int32)) hx hb dX6_heaviest_0 (by decide) ?_
  refine lv_istore_n (lv' := [(1, .int (-1005 : Int32)), (0, .ref (a 0))]) hx hb dX6_heaviest_3 rfl hl (by decide) rfl (fun ls hl => ?_)
  refine lv_iconst (v := (-1 : Int32)) hx hb dX6_heaviest_4 (by decide) ?_
  refine lv_istore_n (lv' := [(2, .int (-1 : Int32)), (1, .int (-1005 : Int32)), (0, .ref (a 0))]) hx hb dX6_heaviest_5 rfl hl (by decide) rfl (fun ls hl => ?_)
  refine lv_iconst (v := (0 : Int32)) hx hb dX6_heaviest_6 (by decide) ?_
  refine lv_istore_n (lv' := [(3, .int (0 : Int32)), (2, .int (-1 : Int32)), (1, .int (-1005 : Int32)), (0, .ref (a 0))]) hx hb dX6_heaviest_7 rfl hl (by decide) rfl (fun ls hl => ?_)
  have K8 : ∀ (n8 : Nat) (v1 : Int32) (v2 : Int32) (v3 : Int32) (H : Heap) (locs : List Loc) (ls : Array Slot), WP D a cA cT TC g H → va_S (AA a TC) s.heap H locs → lv_has ls 6 [(0, .ref (a 0)), (1, .int v1), (2, .int v2), (3, .int v3)] → lpo (b_X6_heaviest_L8 g) n8 (v1, v2, v3) = some r → W p l e (rmm 5 112) s m args below meth c H locs 0 0 Q (F0 m 8 ls []) := by
    intro n8
    induction n8 with
    | zero => intro v1 v2 v3 H locs ls hP hS hl h; exact (lpo_0 h).elim
    | succ n8 ih8 =>
      intro v1 v2 v3 H locs ls hP hS hl h
      have h : m_X6_heaviest_L8 (lpo (b_X6_heaviest_L8 g) n8) g v1 v2 v3 = some r := h
      unfold m_X6_heaviest_L8 at h
      refine lv_iload_n hx hb dX6_heaviest_8 rfl (lv_at hl 3 rfl) ?_
      refine lv_aload_n hx hb dX6_heaviest_9 rfl (lv_at hl 0 rfl) ?_
      refine x_getr hx hb hts inX6 hown hK hP tF_0 (C := RX6) (F := TX6) (N := 5) rfl 0 (by decide) q168 rfl (20 + 15 * 0) rfl dX6_heaviest_10 ?_
      refine x_getr hx hb hts inX5 hown hK hP (tT_20 hz0) (C := RX5) (F := TX5) (N := 5) rfl 1 (by decide) q103 rfl (22 + 15 * 0) rfl dX6_heaviest_13 ?_
      refine x_get hx hb hts inX4 hown hK hP (tT_22 hz0) (C := RX4) (F := TX4) (N := 5) rfl 3 (by decide) q92 rfl rfl dX6_heaviest_16 ?_
      refine lv_icmp_ge (tgt := 79) hx hb dX6_heaviest_19 (by decide) (fun hc => ?_) (fun hc => ?_)
      · have h := ite_t hc h
        refine lv_iload_n hx hb dX6_heaviest_79 rfl (lv_at hl 1 rfl) ?_
        obtain rfl := Option.some.inj h
        exact hend _ _ _ _ dX6_heaviest_80 rfl hP hS
      · have h := ite_f hc h
        refine lv_aload_n hx hb dX6_heaviest_22 rfl (lv_at hl 0 rfl) ?_
        refine x_getr hx hb hts inX6 hown hK hP tF_0 (C := RX6) (F := TX6) (N := 5) rfl 0 (by decide) q168 rfl (20 + 15 * 0) rfl dX6_heaviest_23 ?_
        refine x_getr hx hb hts inX5 hown hK hP (tT_20 hz0) (C := RX5) (F := TX5) (N := 5) rfl 1 (by decide) q103 rfl (22 + 15 * 0) rfl dX6_heaviest_26 ?_
        refine lv_iload_n hx hb dX6_heaviest_29 rfl (lv_at hl 3 rfl) ?_
        obtain ⟨r30, hcal, h⟩ := bnd_s h
        refine x_VI (As := [.int v3]) hx hb hml hown hts hK hP hS (ct_X4_numberAt l D a cA cT hI g 0 v3 hz0 r30 hcal) (tT_22 hz0) (C := RX4) (F := TX4) (N := 5) rfl (g_V q369 q275 q276 q39 q277) yd_X4_numberAt ⟨Nat.le_of_ble_eq_true rfl, Nat.le_of_ble_eq_true rfl⟩ [] rfl (Nat.le_of_ble_eq_true rfl) hl.1 ⟨Nat.le_refl _, Nat.le_refl _⟩ dX6_heaviest_30 (fun H locs hP hS => ?_)
        refine lv_istore (lv' := [(4, .int r30), (0, .ref (a 0)), (1, .int v1), (2, .int v2), (3, .int v3)]) hx hb dX6_heaviest_33 hl (by decide) rfl (fun ls hl => ?_)
        refine lv_aload_n hx hb dX6_heaviest_35 rfl (lv_at hl 1 rfl) ?_
        refine x_getr hx hb hts inX6 hown hK hP tF_0 (C := RX6) (F := TX6) (N := 5) rfl 0 (by decide) q168 rfl (20 + 15 * 0) rfl dX6_heaviest_36 ?_
        refine x_getr hx hb hts inX5 hown hK hP (tT_20 hz0) (C := RX5) (F := TX5) (N := 5) rfl 0 (by decide) q101 rfl (21 + 15 * 0) rfl dX6_heaviest_39 ?_
        refine lv_iload hx hb dX6_heaviest_42 (lv_at hl 0 rfl) ?_
        obtain ⟨r44, hcal, h⟩ := bnd_s h
        refine x_VI (As := [.int r30]) hx hb hml hown hts hK hP hS (ct_X3_amountAt l D a cA cT hI g 0 r30 hz0 r44 hcal) (tT_21 hz0) (C := RX3) (F := TX3) (N := 4) rfl (g_V q232 q233 q234 q37 q235) yd_X3_amountAt ⟨Nat.le_of_ble_eq_true rfl, Nat.le_of_ble_eq_true rfl⟩ [] rfl (Nat.le_of_ble_eq_true rfl) hl.1 ⟨Nat.le_refl _, Nat.le_refl _⟩ dX6_heaviest_44 (fun H locs hP hS => ?_)
        refine lv_istore (lv' := [(5, .int r44), (4, .int r30), (0, .ref (a 0)), (1, .int v1), (2, .int v2), (3, .int v3)]) hx hb dX6_heaviest_47 hl (by decide) rfl (fun ls hl => ?_)
        refine lv_iload hx hb dX6_heaviest_49 (lv_at hl 0 rfl) ?_
        refine lv_iload_n hx hb dX6_heaviest_51 rfl (lv_at hl 4 rfl) ?_
        refine lv_icmp_gt (tgt := 67) hx hb dX6_heaviest_52 (by decide) (fun hc => ?_) (fun hc => ?_)
        · have h := ite_t hc h
          refine lv_iload hx hb dX6_heaviest_67 (lv_at hl 1 rfl) ?_
          refine lv_istore_n (lv' := [(1, .int r30), (5, .int r44), (4, .int r30), (0, .ref (a 0)), (2, .int v2), (3, .int v3)]) hx hb dX6_heaviest_69 rfl hl (by decide) rfl (fun ls hl => ?_)
          refine lv_iload hx hb dX6_heaviest_70 (lv_at hl 1 rfl) ?_
          refine lv_istore_n (lv' := [(2, .int r44), (1, .int r30), (5, .int r44), (4, .int r30), (0, .ref (a 0)), (3, .int v3)]) hx hb dX6_heaviest_72 rfl hl (by decide) rfl (fun ls hl => ?_)
          refine lv_iinc (v := (v3 + (1 : Int32))) (lv' := [(3, .int (v3 + (1 : Int32))), (2, .int r44), (1, .int r30), (5, .int r44), (4, .int r30), (0, .ref (a 0))]) hx hb dX6_heaviest_73 hl (k := 5) rfl rfl (by decide) rfl (fun ls hl => ?_)
          refine lv_goto (tgt := 8) hx hb dX6_heaviest_76 (by decide) ?_
          exact ih8 r30 r44 (v3 + (1 : Int32)) _ _ _ hP hS (lv_sub hl [5, 2, 1, 0] rfl) h
        · have h := ite_f hc h
          refine lv_iload hx hb dX6_heaviest_55 (lv_at hl 0 rfl) ?_
          refine lv_iload_n hx hb dX6_heaviest_57 rfl (lv_at hl 4 rfl) ?_
          refine lv_icmp_ne (tgt := 73) hx hb dX6_heaviest_58 (by decide) (fun hc => ?_) (fun hc => ?_)
          · have h := ite_f hc h
            refine lv_iinc (v := (v3 + (1 : Int32))) (lv' := [(3, .int (v3 + (1 : Int32))), (5, .int r44), (4, .int r30), (0, .ref (a 0)), (1, .int v1), (2, .int v2)]) hx hb dX6_heaviest_73 hl (k := 5) rfl rfl (by decide) rfl (fun ls hl => ?_)
            refine lv_goto (tgt := 8) hx hb dX6_heaviest_76 (by decide) ?_
            exact ih8 v1 v2 (v3 + (1 : Int32)) _ _ _ hP hS (lv_sub hl [3, 4, 5, 0] rfl) h
          · have h := ite_t hc h
            refine lv_iload hx hb dX6_heaviest_61 (lv_at hl 1 rfl) ?_
            refine lv_iload_n hx hb dX6_heaviest_63 rfl (lv_at hl 3 rfl) ?_
            refine lv_icmp_ge (tgt := 73) hx hb dX6_heaviest_64 (by decide) (fun hc => ?_) (fun hc => ?_)
            · have h := ite_t hc h
              refine lv_iinc (v := (v3 + (1 : Int32))) (lv' := [(3, .int (v3 + (1 : Int32))), (5, .int r44), (4, .int r30), (0, .ref (a 0)), (1, .int v1), (2, .int v2)]) hx hb dX6_heaviest_73 hl (k := 5) rfl rfl (by decide) rfl (fun ls hl => ?_)
              refine lv_goto (tgt := 8) hx hb dX6_heaviest_76 (by decide) ?_
              exact ih8 v1 v2 (v3 + (1 : Int32)) _ _ _ hP hS (lv_sub hl [3, 4, 5, 0] rfl) h
            · have h := ite_f hc h
              refine lv_iload hx hb dX6_heaviest_67 (lv_at hl 1 rfl) ?_
              refine lv_istore_n (lv' := [(1, .int r30), (5, .int r44), (4, .int r30), (0, .ref (a 0)), (2, .int v2), (3, .int v3)]) hx hb dX6_heaviest_69 rfl hl (by decide) rfl (fun ls hl => ?_)
              refine lv_iload hx hb dX6_heaviest_70 (lv_at hl 1 rfl) ?_
              refine lv_istore_n (lv' := [(2, .int r44), (1, .int r30), (5, .int r44), (4, .int r30), (0, .ref (a 0)), (3, .int v3)]) hx hb dX6_heaviest_72 rfl hl (by decide) rfl (fun ls hl => ?_)
              refine lv_iinc (v := (v3 + (1 : Int32))) (lv' := [(3, .int (v3 + (1 : Int32))), (2, .int r44), (1, .int r30), (5, .int r44), (4, .int r30), (0, .ref (a 0))]) hx hb dX6_heaviest_73 hl (k := 5) rfl rfl (by decide) rfl (fun ls hl => ?_)
              refine lv_goto (tgt := 8) hx hb dX6_heaviest_76 (by decide) ?_
              exact ih8 r30 r44 (v3 + (1 : Int32)) _ _ _ hP hS (lv_sub hl [5, 2, 1, 0] rfl) h
  exact K8 fuelN (-1005 : Int32) (-1 : Int32) (0 : Int32) _ _ _ hP hS (lv_sub hl [3, 2, 1, 0] rfl) h
