set_option maxHeartbeats 4000000 in
set_option maxRecDepth 100000 in
theorem ct_X7_in (l : Launch) (D : va_G) (a : Nat → Nat) (cA cT : ClassId) (hI : WI a TM) (g : MG) (x0 : Int32) (x1 : Int32) (x2 : Int32)  (r : Int32) (h : m_X7_in g x0 x1 x2 = some r) :
    CtI l D a cA cT TM yX7_in (Cond.code yX7_in cX7_in 3 (some .boolean) :: lw_all) (rmm 0 0) [.int x0, .int x1, .int x2] g r g := by
  refine CtI.of (by decide +kernel) (Nat.le_of_ble_eq_true rfl) ?_
  intro p e s m args below meth c Q ls hx hb hml hown hts hK hP hS hl hend
  have hl : lv_has ls 3 [(0, .int x0), (1, .int x1), (2, .int x2)] := hl
  unfold m_X7_in at h
  refine lv_iload_n hx hb dX7_in_0 rfl (lv_at hl 0 rfl) ?_
  refine lv_iload_n hx hb dX7_in_1 rfl (lv_at hl 1 rfl) ?_
  refine lv_icmp_lt (tgt := 14) hx hb dX7_in_2 (by decide) (fun hc => ?_) (fun hc => ?_)
  · have h := ite_t hc h
    refine lv_iconst (v := (0 : Int32)) hx hb dX7_in_14 (by decide) ?_
    obtain rfl := Option.some.inj h
    exact hend _ _ _ _ dX7_in_15 rfl hP hS
  · have h := ite_f hc h
    refine lv_iload_n hx hb dX7_in_5 rfl (lv_at hl 0 rfl) ?_
    refine lv_iload_n hx hb dX7_in_6 rfl (lv_at hl 2 rfl) ?_
    refine lv_icmp_gt (tgt := 14) hx hb dX7_in_7 (by decide) (fun hc => ?_) (fun hc => ?_)
    · have h := ite_t hc h
      refine lv_iconst (v := (0 : Int32)) hx hb dX7_in_14 (by decide) ?_
      obtain rfl := Option.some.inj h
      exact hend _ _ _ _ dX7_in_15 rfl hP hS
    · have h := ite_f hc h
      refine lv_iconst (v := (1 : Int32)) hx hb dX7_in_10 (by decide) ?_
      refine lv_goto (tgt := 15) hx hb dX7_in_11 (by decide) ?_
      obtain rfl := Option.some.inj h
      exact hend _ _ _ _ dX7_in_15 rfl hP hS
set_option maxHeartbeats 4000000 in
set_option maxRecDepth 100000 in
theorem ct_X7_abs (l : Launch) (D : va_G) (a : Nat → Nat) (cA cT : ClassId) (hI : WI a TM) (g : MG) (x0 : Int32)  (r : Int32) (h : m_X7_abs g x0 = some r) :
    CtI l D a cA cT TM yX7_abs (Cond.code yX7_abs cX7_abs 1 (some .int) :: lw_all) (rmm 0 0) [.int x0] g r g := by
  refine CtI.of (by decide +kernel) (Nat.le_of_ble_eq_true rfl) ?_
  intro p e s m args below meth c Q ls hx hb hml hown hts hK hP hS hl hend
  have hl : lv_has ls 1 [(0, .int x0)] := hl
  unfold m_X7_abs at h
  refine lv_iload_n hx hb dX7_abs_0 rfl (lv_at hl 0 rfl) ?_
  refine lv_if_ge (tgt := 9) hx hb dX7_abs_1 (by decide) (fun hc => ?_) (fun hc => ?_)
  · have h := ite_t hc h
    refine lv_iload_n hx hb dX7_abs_9 rfl (lv_at hl 0 rfl) ?_
    obtain rfl := Option.some.inj h
    exact hend _ _ _ _ dX7_abs_10 rfl hP hS
  · have h := ite_f hc h
    refine lv_iload_n hx hb dX7_abs_4 rfl (lv_at hl 0 rfl) ?_
    refine lv_ineg hx hb dX7_abs_5 ?_
    refine lv_goto (tgt := 10) hx hb dX7_abs_6 (by decide) ?_
    obtain rfl := Option.some.inj h
    exact hend _ _ _ _ dX7_abs_10 rfl hP hS
set_option maxHeartbeats 4000000 in
set_option maxRecDepth 100000 in
theorem ct_X7_record (l : Launch) (D : va_G) (a : Nat → Nat) (cA cT : ClassId) (hI : WI a TM) (g : MG)   (g' : MG) (h : m_X7_record g = some g') :
    CtV l D a cA cT TM yX7_record (Cond.code yX7_record cX7_record 2 none :: lw_all) (rmm 0 0) [.ref (a 0)] g g' := by
  refine CtV.of (by decide +kernel) (Nat.le_of_ble_eq_true rfl) ?_
  intro p e s m args below meth c Q ls hx hb hml hown hts hK hP hS hl hend
  have hl : lv_has ls 2 [(0, .ref (a 0))] := hl
  unfold m_X7_record at h
  refine lv_aload_n hx hb dX7_record_0 rfl (lv_at hl 0 rfl) ?_
  refine x_get hx hb hts inX7 hown hK hP tM_0 (C := RX7) (F := TX7) (N := 18) rfl 15 (by decide) q773 rfl rfl dX7_record_1 ?_
  refine lv_iconst (v := (4 : Int32)) hx hb dX7_record_4 (by decide) ?_
  refine lv_icmp_ne (tgt := 49) hx hb dX7_record_5 (by decide) (fun hc => ?_) (fun hc => ?_)
  · have h := ite_f hc h
    refine lv_iconst (v := (0 : Int32)) hx hb dX7_record_49 (by decide) ?_
    refine lv_istore_n (lv' := [(1, .int (0 : Int32)), (0, .ref (a 0))]) hx hb dX7_record_50 rfl hl (by decide) rfl (fun ls hl => ?_)
    have K51 : ∀ (n51 : Nat) (v1 : Int32) (g51 : MG) (H : Heap) (locs : List Loc) (ls : Array Slot), WP D a cA cT TM g51 H → va_S (AA a TM) s.heap H locs → lv_has ls 2 [(0, .ref (a 0)), (1, .int v1)] → lpo (b_X7_record_L51) n51 (v1, g51) = some g' → W p l e (rmm 0 0) s m args below meth c H locs 0 0 Q (F0 m 51 ls []) := by
      intro n51
      induction n51 with
      | zero => intro v1 g51 H locs ls hP hS hl h; exact (lpo_0 h).elim
      | succ n51 ih51 =>
        intro v1 g51 H locs ls hP hS hl h
        have h : m_X7_record_L51 (lpo (b_X7_record_L51) n51)  v1 g51 = some g' := h
        unfold m_X7_record_L51 at h
        refine lv_iload_n hx hb dX7_record_51 rfl (lv_at hl 1 rfl) ?_
        refine lv_sipush (v := (1385 : Int32)) hx hb dX7_record_52 (by decide) ?_
        refine lv_icmp_ge (tgt := 85) hx hb dX7_record_55 (by decide) (fun hc => ?_) (fun hc => ?_)
        · have h := ite_t hc h
          refine lv_aload_n hx hb dX7_record_85 rfl (lv_at hl 0 rfl) ?_
          refine lv_dup hx hb dX7_record_86 rfl ?_
          refine x_get hx hb hts inX7 hown hK hP tM_0 (C := RX7) (F := TX7) (N := 18) rfl 15 (by decide) q773 rfl rfl dX7_record_87 ?_
          refine lv_iconst (v := (1 : Int32)) hx hb dX7_record_90 (by decide) ?_
          refine lv_iadd hx hb dX7_record_91 ?_
          refine x_put hx hb hts inX7 tyX7 tyX7_ok nmX7 hown hK hI hP hS tM_0 (C := RX7) (F := TX7) (N := 18) rfl 15 (by decide) q773 rfl rfl rfl rfl rfl dX7_record_92 (fun H locs hP hS => ?_)
          obtain rfl := Option.some.inj h
          exact hend _ _ _ _ dX7_record_95 hP hS
        · have h := ite_f hc h
          refine lv_aload_n hx hb dX7_record_58 rfl (lv_at hl 0 rfl) ?_
          refine x_getr hx hb hts inX7 hown hK hP tM_0 (C := RX7) (F := TX7) (N := 18) rfl 2 (by decide) q760 rfl 3 rfl dX7_record_59 ?_
          refine lv_sipush (v := (1385 : Int32)) hx hb dX7_record_62 (by decide) ?_
          refine lv_aload_n hx hb dX7_record_65 rfl (lv_at hl 0 rfl) ?_
          refine x_get hx hb hts inX7 hown hK hP tM_0 (C := RX7) (F := TX7) (N := 18) rfl 15 (by decide) q773 rfl rfl dX7_record_66 ?_
          refine lv_imul hx hb dX7_record_69 ?_
          refine lv_iload_n hx hb dX7_record_70 rfl (lv_at hl 1 rfl) ?_
          refine lv_iadd hx hb dX7_record_71 ?_
          refine lv_aload_n hx hb dX7_record_72 rfl (lv_at hl 0 rfl) ?_
          refine x_getr hx hb hts inX7 hown hK hP tM_0 (C := RX7) (F := TX7) (N := 18) rfl 0 (by decide) q758 rfl 1 rfl dX7_record_73 ?_
          refine lv_iload_n hx hb dX7_record_76 rfl (lv_at hl 1 rfl) ?_
          obtain ⟨hz, h⟩ := ite_n h
          refine x_ald hx hb hK hP tM_1 hz dX7_record_77 ?_
          obtain ⟨hz, h⟩ := ite_n h
          refine x_ast hx hb hK hI hP hS tM_3 hz dX7_record_78 (fun H locs hP hS => ?_)
          refine lv_iinc (v := (v1 + (1 : Int32))) (lv' := [(1, .int (v1 + (1 : Int32))), (0, .ref (a 0))]) hx hb dX7_record_79 hl (k := 1) rfl rfl (by decide) rfl (fun ls hl => ?_)
          refine lv_goto (tgt := 51) hx hb dX7_record_82 (by decide) ?_
          exact ih51 (v1 + (1 : Int32)) (g_w g51 3 (((1385 : Int32) * (g51.1 0 15)) + v1).toNatClampNeg (g51.1 1 v1.toNatClampNeg)) _ _ _ hP hS (lv_sub hl [1, 0] rfl) h
    exact K51 fuelN (0 : Int32) g _ _ _ hP hS (lv_sub hl [1, 0] rfl) h
  · have h := ite_t hc h
    refine lv_iconst (v := (0 : Int32)) hx hb dX7_record_8 (by decide) ?_
    refine lv_istore_n (lv' := [(1, .int (0 : Int32)), (0, .ref (a 0))]) hx hb dX7_record_9 rfl hl (by decide) rfl (fun ls hl => ?_)
    have K10 : ∀ (n10 : Nat) (v1 : Int32) (g10 : MG) (H : Heap) (locs : List Loc) (ls : Array Slot), WP D a cA cT TM g10 H → va_S (AA a TM) s.heap H locs → lv_has ls 2 [(0, .ref (a 0)), (1, .int v1)] → lpo (b_X7_record_L10) n10 (v1, g10) = some g' → W p l e (rmm 0 0) s m args below meth c H locs 0 0 Q (F0 m 10 ls []) := by
      intro n10
      induction n10 with
      | zero => intro v1 g10 H locs ls hP hS hl h; exact (lpo_0 h).elim
      | succ n10 ih10 =>
        intro v1 g10 H locs ls hP hS hl h
        have h : m_X7_record_L10 (lpo (b_X7_record_L10) n10)  v1 g10 = some g' := h
        unfold m_X7_record_L10 at h
        refine lv_iload_n hx hb dX7_record_10 rfl (lv_at hl 1 rfl) ?_
        refine lv_sipush (v := (4155 : Int32)) hx hb dX7_record_11 (by decide) ?_
        refine lv_icmp_ge (tgt := 39) hx hb dX7_record_14 (by decide) (fun hc => ?_) (fun hc => ?_)
        · have h := ite_t hc h
          refine lv_aload_n hx hb dX7_record_39 rfl (lv_at hl 0 rfl) ?_
          refine lv_dup hx hb dX7_record_40 rfl ?_
          refine x_get hx hb hts inX7 hown hK hP tM_0 (C := RX7) (F := TX7) (N := 18) rfl 15 (by decide) q773 rfl rfl dX7_record_41 ?_
          refine lv_iconst (v := (1 : Int32)) hx hb dX7_record_44 (by decide) ?_
          refine lv_isub hx hb dX7_record_45 ?_
          refine x_put hx hb hts inX7 tyX7 tyX7_ok nmX7 hown hK hI hP hS tM_0 (C := RX7) (F := TX7) (N := 18) rfl 15 (by decide) q773 rfl rfl rfl rfl rfl dX7_record_46 (fun H locs hP hS => ?_)
          refine lv_iconst (v := (0 : Int32)) hx hb dX7_record_49 (by decide) ?_
          refine lv_istore_n (lv' := [(1, .int (0 : Int32)), (0, .ref (a 0))]) hx hb dX7_record_50 rfl hl (by decide) rfl (fun ls hl => ?_)
          have K51 : ∀ (n51 : Nat) (v1 : Int32) (g51 : MG) (H : Heap) (locs : List Loc) (ls : Array Slot), WP D a cA cT TM g51 H → va_S (AA a TM) s.heap H locs → lv_has ls 2 [(0, .ref (a 0)), (1, .int v1)] → lpo (b_X7_record_L51_1) n51 (v1, g51) = some g' → W p l e (rmm 0 0) s m args below meth c H locs 0 0 Q (F0 m 51 ls []) := by
            intro n51
            induction n51 with
            | zero => intro v1 g51 H locs ls hP hS hl h; exact (lpo_0 h).elim
            | succ n51 ih51 =>
              intro v1 g51 H locs ls hP hS hl h
              have h : m_X7_record_L51_1 (lpo (b_X7_record_L51_1) n51)  v1 g51 = some g' := h
              unfold m_X7_record_L51_1 at h
              refine lv_iload_n hx hb dX7_record_51 rfl (lv_at hl 1 rfl) ?_
              refine lv_sipush (v := (1385 : Int32)) hx hb dX7_record_52 (by decide) ?_
              refine lv_icmp_ge (tgt := 85) hx hb dX7_record_55 (by decide) (fun hc => ?_) (fun hc => ?_)
              · have h := ite_t hc h
                refine lv_aload_n hx hb dX7_record_85 rfl (lv_at hl 0 rfl) ?_
                refine lv_dup hx hb dX7_record_86 rfl ?_
                refine x_get hx hb hts inX7 hown hK hP tM_0 (C := RX7) (F := TX7) (N := 18) rfl 15 (by decide) q773 rfl rfl dX7_record_87 ?_
                refine lv_iconst (v := (1 : Int32)) hx hb dX7_record_90 (by decide) ?_
                refine lv_iadd hx hb dX7_record_91 ?_
                refine x_put hx hb hts inX7 tyX7 tyX7_ok nmX7 hown hK hI hP hS tM_0 (C := RX7) (F := TX7) (N := 18) rfl 15 (by decide) q773 rfl rfl rfl rfl rfl dX7_record_92 (fun H locs hP hS => ?_)
                obtain rfl := Option.some.inj h
                exact hend _ _ _ _ dX7_record_95 hP hS
              · have h := ite_f hc h
                refine lv_aload_n hx hb dX7_record_58 rfl (lv_at hl 0 rfl) ?_
                refine x_getr hx hb hts inX7 hown hK hP tM_0 (C := RX7) (F := TX7) (N := 18) rfl 2 (by decide) q760 rfl 3 rfl dX7_record_59 ?_
                refine lv_sipush (v := (1385 : Int32)) hx hb dX7_record_62 (by decide) ?_
                refine lv_aload_n hx hb dX7_record_65 rfl (lv_at hl 0 rfl) ?_
                refine x_get hx hb hts inX7 hown hK hP tM_0 (C := RX7) (F := TX7) (N := 18) rfl 15 (by decide) q773 rfl rfl dX7_record_66 ?_
                refine lv_imul hx hb dX7_record_69 ?_
                refine lv_iload_n hx hb dX7_record_70 rfl (lv_at hl 1 rfl) ?_
                refine lv_iadd hx hb dX7_record_71 ?_
                refine lv_aload_n hx hb dX7_record_72 rfl (lv_at hl 0 rfl) ?_
                refine x_getr hx hb hts inX7 hown hK hP tM_0 (C := RX7) (F := TX7) (N := 18) rfl 0 (by decide) q758 rfl 1 rfl dX7_record_73 ?_
                refine lv_iload_n hx hb dX7_record_76 rfl (lv_at hl 1 rfl) ?_
                obtain ⟨hz, h⟩ := ite_n h
                refine x_ald hx hb hK hP tM_1 hz dX7_record_77 ?_
                obtain ⟨hz, h⟩ := ite_n h
                refine x_ast hx hb hK hI hP hS tM_3 hz dX7_record_78 (fun H locs hP hS => ?_)
                refine lv_iinc (v := (v1 + (1 : Int32))) (lv' := [(1, .int (v1 + (1 : Int32))), (0, .ref (a 0))]) hx hb dX7_record_79 hl (k := 1) rfl rfl (by decide) rfl (fun ls hl => ?_)
                refine lv_goto (tgt := 51) hx hb dX7_record_82 (by decide) ?_
                exact ih51 (v1 + (1 : Int32)) (g_w g51 3 (((1385 : Int32) * (g51.1 0 15)) + v1).toNatClampNeg (g51.1 1 v1.toNatClampNeg)) _ _ _ hP hS (lv_sub hl [1, 0] rfl) h
          exact K51 fuelN (0 : Int32) (g_w g10 0 15 ((g10.1 0 15) - (1 : Int32))) _ _ _ hP hS (lv_sub hl [1, 0] rfl) h
        · have h := ite_f hc h
          refine lv_aload_n hx hb dX7_record_17 rfl (lv_at hl 0 rfl) ?_
          refine x_getr hx hb hts inX7 hown hK hP tM_0 (C := RX7) (F := TX7) (N := 18) rfl 2 (by decide) q760 rfl 3 rfl dX7_record_18 ?_
          refine lv_iload_n hx hb dX7_record_21 rfl (lv_at hl 1 rfl) ?_
          refine lv_aload_n hx hb dX7_record_22 rfl (lv_at hl 0 rfl) ?_
          refine x_getr hx hb hts inX7 hown hK hP tM_0 (C := RX7) (F := TX7) (N := 18) rfl 2 (by decide) q760 rfl 3 rfl dX7_record_23 ?_
          refine lv_iload_n hx hb dX7_record_26 rfl (lv_at hl 1 rfl) ?_
          refine lv_sipush (v := (1385 : Int32)) hx hb dX7_record_27 (by decide) ?_
          refine lv_iadd hx hb dX7_record_30 ?_
          obtain ⟨hz, h⟩ := ite_n h
          refine x_ald hx hb hK hP tM_3 hz dX7_record_31 ?_
          obtain ⟨hz, h⟩ := ite_n h
          refine x_ast hx hb hK hI hP hS tM_3 hz dX7_record_32 (fun H locs hP hS => ?_)
          refine lv_iinc (v := (v1 + (1 : Int32))) (lv' := [(1, .int (v1 + (1 : Int32))), (0, .ref (a 0))]) hx hb dX7_record_33 hl (k := 1) rfl rfl (by decide) rfl (fun ls hl => ?_)
          refine lv_goto (tgt := 10) hx hb dX7_record_36 (by decide) ?_
          exact ih10 (v1 + (1 : Int32)) (g_w g10 3 v1.toNatClampNeg (g10.1 3 (v1 + (1385 : Int32)).toNatClampNeg)) _ _ _ hP hS (lv_sub hl [1, 0] rfl) h
    exact K10 fuelN (0 : Int32) g _ _ _ hP hS (lv_sub hl [1, 0] rfl) h
set_option maxHeartbeats 4000000 in
set_option maxRecDepth 100000 in
theorem ct_X7_isRow (l : Launch) (D : va_G) (a : Nat → Nat) (cA cT : ClassId) (hI : WI a TM) (g : MG) (x0 : Int32)  (r : Int32) (h : m_X7_isRow g x0 = some r) :
    CtI l D a cA cT TM yX7_isRow (Cond.code yX7_isRow cX7_isRow 2 (some .boolean) :: lw_all) (rmm 1 22) [.ref (a 0), .int x0] g r g := by
  refine CtI.of (by decide +kernel) (Nat.le_of_ble_eq_true rfl) ?_
  intro p e s m args below meth c Q ls hx hb hml hown hts hK hP hS hl hend
  have hl : lv_has ls 2 [(0, .ref (a 0)), (1, .int x0)] := hl
  unfold m_X7_isRow at h
  refine lv_iload_n hx hb dX7_isRow_0 rfl (lv_at hl 1 rfl) ?_
  refine lv_iconst (v := (0 : Int32)) hx hb dX7_isRow_1 (by decide) ?_
  refine lv_aload_n hx hb dX7_isRow_2 rfl (lv_at hl 0 rfl) ?_
  refine x_getr hx hb hts inX7 hown hK hP tM_0 (C := RX7) (F := TX7) (N := 18) rfl 0 (by decide) q758 rfl 1 rfl dX7_isRow_3 ?_
  refine lv_iconst (v := (0 : Int32)) hx hb dX7_isRow_6 (by decide) ?_
  obtain ⟨hz, h⟩ := ite_n h
  refine x_ald hx hb hK hP tM_1 hz dX7_isRow_7 ?_
  refine lv_iconst (v := (1 : Int32)) hx hb dX7_isRow_8 (by decide) ?_
  refine lv_isub hx hb dX7_isRow_9 ?_
  obtain ⟨r10, hcal, h⟩ := bnd_s h
  refine x_SI (As := [.int x0, .int (0 : Int32), .int ((g.1 1 (0 : Int32).toNatClampNeg) - (1 : Int32))]) hx hb hml hown hts hK hP hS (ct_X7_in l D a cA cT hI g x0 (0 : Int32) ((g.1 1 (0 : Int32).toNatClampNeg) - (1 : Int32)) r10 hcal) (g_S q798 q799 q77 q800) yd_X7_in ⟨Nat.le_of_ble_eq_true rfl, Nat.le_of_ble_eq_true rfl⟩ [] rfl (Nat.le_of_ble_eq_true rfl) hl.1 ⟨Nat.le_refl _, Nat.le_refl _⟩ dX7_isRow_10 (fun H locs hP hS => ?_)
  refine lv_if_eq (tgt := 34) hx hb dX7_isRow_13 (by decide) (fun hc => ?_) (fun hc => ?_)
  · have h := ite_t hc h
    refine lv_iconst (v := (0 : Int32)) hx hb dX7_isRow_34 (by decide) ?_
    obtain rfl := Option.some.inj h
    exact hend _ _ _ _ dX7_isRow_35 rfl hP hS
  · have h := ite_f hc h
    refine lv_aload_n hx hb dX7_isRow_16 rfl (lv_at hl 0 rfl) ?_
    refine x_getr hx hb hts inX7 hown hK hP tM_0 (C := RX7) (F := TX7) (N := 18) rfl 0 (by decide) q758 rfl 1 rfl dX7_isRow_17 ?_
    refine lv_sipush (v := (805 : Int32)) hx hb dX7_isRow_20 (by decide) ?_
    refine lv_iload_n hx hb dX7_isRow_23 rfl (lv_at hl 1 rfl) ?_
    refine lv_iadd hx hb dX7_isRow_24 ?_
    obtain ⟨hz, h⟩ := ite_n h
    refine x_ald hx hb hK hP tM_1 hz dX7_isRow_25 ?_
    refine lv_iconst (v := (-1 : Int32)) hx hb dX7_isRow_26 (by decide) ?_
    refine lv_icmp_eq (tgt := 34) hx hb dX7_isRow_27 (by decide) (fun hc => ?_) (fun hc => ?_)
    · have h := ite_t hc h
      refine lv_iconst (v := (0 : Int32)) hx hb dX7_isRow_34 (by decide) ?_
      obtain rfl := Option.some.inj h
      exact hend _ _ _ _ dX7_isRow_35 rfl hP hS
    · have h := ite_f hc h
      refine lv_iconst (v := (1 : Int32)) hx hb dX7_isRow_30 (by decide) ?_
      refine lv_goto (tgt := 35) hx hb dX7_isRow_31 (by decide) ?_
      obtain rfl := Option.some.inj h
      exact hend _ _ _ _ dX7_isRow_35 rfl hP hS
set_option maxHeartbeats 4000000 in
set_option maxRecDepth 100000 in
theorem ct_X7_isSlice (l : Launch) (D : va_G) (a : Nat → Nat) (cA cT : ClassId) (hI : WI a TM) (g : MG) (x0 : Int32)  (r : Int32) (h : m_X7_isSlice g x0 = some r) :
    CtI l D a cA cT TM yX7_isSlice (Cond.code yX7_isSlice cX7_isSlice 2 (some .boolean) :: lw_all) (rmm 1 22) [.ref (a 0), .int x0] g r g := by
  refine CtI.of (by decide +kernel) (Nat.le_of_ble_eq_true rfl) ?_
  intro p e s m args below meth c Q ls hx hb hml hown hts hK hP hS hl hend
  have hl : lv_has ls 2 [(0, .ref (a 0)), (1, .int x0)] := hl
  unfold m_X7_isSlice at h
  refine lv_iload_n hx hb dX7_isSlice_0 rfl (lv_at hl 1 rfl) ?_
  refine lv_iconst (v := (0 : Int32)) hx hb dX7_isSlice_1 (by decide) ?_
  refine lv_aload_n hx hb dX7_isSlice_2 rfl (lv_at hl 0 rfl) ?_
  refine x_getr hx hb hts inX7 hown hK hP tM_0 (C := RX7) (F := TX7) (N := 18) rfl 0 (by decide) q758 rfl 1 rfl dX7_isSlice_3 ?_
  refine lv_iconst (v := (1 : Int32)) hx hb dX7_isSlice_6 (by decide) ?_
  obtain ⟨hz, h⟩ := ite_n h
  refine x_ald hx hb hK hP tM_1 hz dX7_isSlice_7 ?_
  refine lv_iconst (v := (1 : Int32)) hx hb dX7_isSlice_8 (by decide) ?_
  refine lv_isub hx hb dX7_isSlice_9 ?_
  obtain ⟨r10, hcal, h⟩ := bnd_s h
  refine x_SI (As := [.int x0, .int (0 : Int32), .int ((g.1 1 (1 : Int32).toNatClampNeg) - (1 : Int32))]) hx hb hml hown hts hK hP hS (ct_X7_in l D a cA cT hI g x0 (0 : Int32) ((g.1 1 (1 : Int32).toNatClampNeg) - (1 : Int32)) r10 hcal) (g_S q798 q799 q77 q800) yd_X7_in ⟨Nat.le_of_ble_eq_true rfl, Nat.le_of_ble_eq_true rfl⟩ [] rfl (Nat.le_of_ble_eq_true rfl) hl.1 ⟨Nat.le_refl _, Nat.le_refl _⟩ dX7_isSlice_10 (fun H locs hP hS => ?_)
  refine lv_if_eq (tgt := 34) hx hb dX7_isSlice_13 (by decide) (fun hc => ?_) (fun hc => ?_)
  · have h := ite_t hc h
    refine lv_iconst (v := (0 : Int32)) hx hb dX7_isSlice_34 (by decide) ?_
    obtain rfl := Option.some.inj h
    exact hend _ _ _ _ dX7_isSlice_35 rfl hP hS
  · have h := ite_f hc h
    refine lv_aload_n hx hb dX7_isSlice_16 rfl (lv_at hl 0 rfl) ?_
    refine x_getr hx hb hts inX7 hown hK hP tM_0 (C := RX7) (F := TX7) (N := 18) rfl 0 (by decide) q758 rfl 1 rfl dX7_isSlice_17 ?_
    refine lv_sipush (v := (1205 : Int32)) hx hb dX7_isSlice_20 (by decide) ?_
    refine lv_iload_n hx hb dX7_isSlice_23 rfl (lv_at hl 1 rfl) ?_
    refine lv_iadd hx hb dX7_isSlice_24 ?_
    obtain ⟨hz, h⟩ := ite_n h
    refine x_ald hx hb hK hP tM_1 hz dX7_isSlice_25 ?_
    refine lv_iconst (v := (1 : Int32)) hx hb dX7_isSlice_26 (by decide) ?_
    refine lv_icmp_ne (tgt := 34) hx hb dX7_isSlice_27 (by decide) (fun hc => ?_) (fun hc => ?_)
    · have h := ite_f hc h
      refine lv_iconst (v := (0 : Int32)) hx hb dX7_isSlice_34 (by decide) ?_
      obtain rfl := Option.some.inj h
      exact hend _ _ _ _ dX7_isSlice_35 rfl hP hS
    · have h := ite_t hc h
      refine lv_iconst (v := (1 : Int32)) hx hb dX7_isSlice_30 (by decide) ?_
      refine lv_goto (tgt := 35) hx hb dX7_isSlice_31 (by decide) ?_
      obtain rfl := Option.some.inj h
      exact hend _ _ _ _ dX7_isSlice_35 rfl hP hS
set_option maxHeartbeats 4000000 in
set_option maxRecDepth 100000 in
theorem ct_X7_isPlace (l : Launch) (D : va_G) (a : Nat → Nat) (cA cT : ClassId) (hI : WI a TM) (g : MG) (x0 : Int32)  (r : Int32) (h : m_X7_isPlace g x0 = some r) :
    CtI l D a cA cT TM yX7_isPlace (Cond.code yX7_isPlace cX7_isPlace 2 (some .boolean) :: lw_all) (rmm 2 43) [.ref (a 0), .int x0] g r g := by
  refine CtI.of (by decide +kernel) (Nat.le_of_ble_eq_true rfl) ?_
  intro p e s m args below meth c Q ls hx hb hml hown hts hK hP hS hl hend
  have hl : lv_has ls 2 [(0, .ref (a 0)), (1, .int x0)] := hl
  unfold m_X7_isPlace at h
  refine lv_iload_n hx hb dX7_isPlace_0 rfl (lv_at hl 1 rfl) ?_
  refine lv_bipush (v := (60 : Int32)) hx hb dX7_isPlace_1 (by decide) ?_
  refine lv_icmp_eq (tgt := 20) hx hb dX7_isPlace_3 (by decide) (fun hc => ?_) (fun hc => ?_)
  · have h := ite_t hc h
    refine lv_iconst (v := (1 : Int32)) hx hb dX7_isPlace_20 (by decide) ?_
    refine lv_goto (tgt := 25) hx hb dX7_isPlace_21 (by decide) ?_
    obtain rfl := Option.some.inj h
    exact hend _ _ _ _ dX7_isPlace_25 rfl hP hS
  · have h := ite_f hc h
    refine lv_iload_n hx hb dX7_isPlace_6 rfl (lv_at hl 1 rfl) ?_
    refine lv_bipush (v := (61 : Int32)) hx hb dX7_isPlace_7 (by decide) ?_
    refine lv_icmp_eq (tgt := 20) hx hb dX7_isPlace_9 (by decide) (fun hc => ?_) (fun hc => ?_)
    · have h := ite_t hc h
      refine lv_iconst (v := (1 : Int32)) hx hb dX7_isPlace_20 (by decide) ?_
      refine lv_goto (tgt := 25) hx hb dX7_isPlace_21 (by decide) ?_
      obtain rfl := Option.some.inj h
      exact hend _ _ _ _ dX7_isPlace_25 rfl hP hS
    · have h := ite_f hc h
      refine lv_aload_n hx hb dX7_isPlace_12 rfl (lv_at hl 0 rfl) ?_
      refine lv_iload_n hx hb dX7_isPlace_13 rfl (lv_at hl 1 rfl) ?_
      obtain ⟨r14, hcal, h⟩ := bnd_s h
      refine x_VI (As := [.int x0]) hx hb hml hown hts hK hP hS (ct_X7_isSlice l D a cA cT hI g x0 r14 hcal) tM_0 (C := RX7) (F := TX7) (N := 18) rfl (g_V q807 q808 q36 q77 q809) yd_X7_isSlice ⟨Nat.le_of_ble_eq_true rfl, Nat.le_of_ble_eq_true rfl⟩ [] rfl (Nat.le_of_ble_eq_true rfl) hl.1 ⟨Nat.le_refl _, Nat.le_refl _⟩ dX7_isPlace_14 (fun H locs hP hS => ?_)
      refine lv_if_eq (tgt := 24) hx hb dX7_isPlace_17 (by decide) (fun hc => ?_) (fun hc => ?_)
      · have h := ite_t hc h
        refine lv_iconst (v := (0 : Int32)) hx hb dX7_isPlace_24 (by decide) ?_
        obtain rfl := Option.some.inj h
        exact hend _ _ _ _ dX7_isPlace_25 rfl hP hS
      · have h := ite_f hc h
        refine lv_iconst (v := (1 : Int32)) hx hb dX7_isPlace_20 (by decide) ?_
        refine lv_goto (tgt := 25) hx hb dX7_isPlace_21 (by decide) ?_
        obtain rfl := Option.some.inj h
        exact hend _ _ _ _ dX7_isPlace_25 rfl hP hS
set_option maxHeartbeats 4000000 in
set_option maxRecDepth 100000 in
theorem ct_X7_has (l : Launch) (D : va_G) (a : Nat → Nat) (cA cT : ClassId) (hI : WI a TM) (g : MG) (x0 : Int32) (x1 : Int32)  (r : Int32) (h : m_X7_has g x0 x1 = some r) :
    CtI l D a cA cT TM yX7_has (Cond.code yX7_has cX7_has 3 (some .boolean) :: lw_all) (rmm 1 22) [.ref (a 0), .int x0, .int x1] g r g := by
  refine CtI.of (by decide +kernel) (Nat.le_of_ble_eq_true rfl) ?_
  intro p e s m args below meth c Q ls hx hb hml hown hts hK hP hS hl hend
  have hl : lv_has ls 3 [(0, .ref (a 0)), (1, .int x0), (2, .int x1)] := hl
  unfold m_X7_has at h
  refine lv_iload_n hx hb dX7_has_0 rfl (lv_at hl 2 rfl) ?_
  refine lv_aload_n hx hb dX7_has_1 rfl (lv_at hl 0 rfl) ?_
  refine x_getr hx hb hts inX7 hown hK hP tM_0 (C := RX7) (F := TX7) (N := 18) rfl 0 (by decide) q758 rfl 1 rfl dX7_has_2 ?_
  refine lv_sipush (v := (1265 : Int32)) hx hb dX7_has_5 (by decide) ?_
  refine lv_iload_n hx hb dX7_has_8 rfl (lv_at hl 1 rfl) ?_
  refine lv_iadd hx hb dX7_has_9 ?_
  obtain ⟨hz, h⟩ := ite_n h
  refine x_ald hx hb hK hP tM_1 hz dX7_has_10 ?_
  refine lv_aload_n hx hb dX7_has_11 rfl (lv_at hl 0 rfl) ?_
  refine x_getr hx hb hts inX7 hown hK hP tM_0 (C := RX7) (F := TX7) (N := 18) rfl 0 (by decide) q758 rfl 1 rfl dX7_has_12 ?_
  refine lv_sipush (v := (1325 : Int32)) hx hb dX7_has_15 (by decide) ?_
  refine lv_iload_n hx hb dX7_has_18 rfl (lv_at hl 1 rfl) ?_
  refine lv_iadd hx hb dX7_has_19 ?_
  obtain ⟨hz, h⟩ := ite_n h
  refine x_ald hx hb hK hP tM_1 hz dX7_has_20 ?_
  refine lv_iconst (v := (1 : Int32)) hx hb dX7_has_21 (by decide) ?_
  refine lv_isub hx hb dX7_has_22 ?_
  obtain ⟨r23, hcal, h⟩ := bnd_s h
  refine x_SI (As := [.int x1, .int (g.1 1 ((1265 : Int32) + x0).toNatClampNeg), .int ((g.1 1 ((1325 : Int32) + x0).toNatClampNeg) - (1 : Int32))]) hx hb hml hown hts hK hP hS (ct_X7_in l D a cA cT hI g x1 (g.1 1 ((1265 : Int32) + x0).toNatClampNeg) ((g.1 1 ((1325 : Int32) + x0).toNatClampNeg) - (1 : Int32)) r23 hcal) (g_S q798 q799 q77 q800) yd_X7_in ⟨Nat.le_of_ble_eq_true rfl, Nat.le_of_ble_eq_true rfl⟩ [] rfl (Nat.le_of_ble_eq_true rfl) hl.1 ⟨Nat.le_refl _, Nat.le_refl _⟩ dX7_has_23 (fun H locs hP hS => ?_)
  obtain ⟨hz, h⟩ := ite_n h
  obtain rfl := Option.some.inj h
  exact hend _ _ _ _ dX7_has_26 (bz_n hz) hP hS
set_option maxHeartbeats 4000000 in
set_option maxRecDepth 100000 in
theorem ct_X7_owner (l : Launch) (D : va_G) (a : Nat → Nat) (cA cT : ClassId) (hI : WI a TM) (g : MG) (x0 : Int32)  (r : Int32) (h : m_X7_owner g x0 = some r) :
    CtI l D a cA cT TM yX7_owner (Cond.code yX7_owner cX7_owner 3 (some .int) :: lw_all) (rmm 2 44) [.ref (a 0), .int x0] g r g := by
  refine CtI.of (by decide +kernel) (Nat.le_of_ble_eq_true rfl) ?_
  intro p e s m args below meth c Q ls hx hb hml hown hts hK hP hS hl hend
  have hl : lv_has ls 3 [(0, .ref (a 0)), (1, .int x0)] := hl
  unfold m_X7_owner at h
  refine lv_iconst (v := (0 : Int32)) hx hb dX7_owner_0 (by decide) ?_
  refine lv_istore_n (lv' := [(2, .int (0 : Int32)), (0, .ref (a 0)), (1, .int x0)]) hx hb dX7_owner_1 rfl hl (by decide) rfl (fun ls hl => ?_)
  have K2 : ∀ (n2 : Nat) (v2 : Int32) (H : Heap) (locs : List Loc) (ls : Array Slot), WP D a cA cT TM g H → va_S (AA a TM) s.heap H locs → lv_has ls 3 [(0, .ref (a 0)), (1, .int x0), (2, .int v2)] → lpo (b_X7_owner_L2 g x0) n2 v2 = some r → W p l e (rmm 2 44) s m args below meth c H locs 0 0 Q (F0 m 2 ls []) := by
    intro n2
    induction n2 with
    | zero => intro v2 H locs ls hP hS hl h; exact (lpo_0 h).elim
    | succ n2 ih2 =>
      intro v2 H locs ls hP hS hl h
      have h : m_X7_owner_L2 (lpo (b_X7_owner_L2 g x0) n2) g x0 v2 = some r := h
      unfold m_X7_owner_L2 at h
      refine lv_iload_n hx hb dX7_owner_2 rfl (lv_at hl 2 rfl) ?_
      refine lv_aload_n hx hb dX7_owner_3 rfl (lv_at hl 0 rfl) ?_
      refine x_getr hx hb hts inX7 hown hK hP tM_0 (C := RX7) (F := TX7) (N := 18) rfl 0 (by decide) q758 rfl 1 rfl dX7_owner_4 ?_
      refine lv_iconst (v := (1 : Int32)) hx hb dX7_owner_7 (by decide) ?_
      obtain ⟨hz, h⟩ := ite_n h
      refine x_ald hx hb hK hP tM_1 hz dX7_owner_8 ?_
      refine lv_icmp_ge (tgt := 37) hx hb dX7_owner_9 (by decide) (fun hc => ?_) (fun hc => ?_)
      · have h := ite_t hc h
        refine lv_sipush (v := (-1005 : Int32)) hx hb dX7_owner_37 (by decide) ?_
        obtain rfl := Option.some.inj h
        exact hend _ _ _ _ dX7_owner_40 rfl hP hS
      · have h := ite_f hc h
        refine lv_aload_n hx hb dX7_owner_12 rfl (lv_at hl 0 rfl) ?_
        refine lv_iload_n hx hb dX7_owner_13 rfl (lv_at hl 2 rfl) ?_
        obtain ⟨r14, hcal, h⟩ := bnd_s h
        refine x_VI (As := [.int v2]) hx hb hml hown hts hK hP hS (ct_X7_isSlice l D a cA cT hI g v2 r14 hcal) tM_0 (C := RX7) (F := TX7) (N := 18) rfl (g_V q807 q808 q36 q77 q809) yd_X7_isSlice ⟨Nat.le_of_ble_eq_true rfl, Nat.le_of_ble_eq_true rfl⟩ [] rfl (Nat.le_of_ble_eq_true rfl) hl.1 ⟨Nat.le_refl _, Nat.le_refl _⟩ dX7_owner_14 (fun H locs hP hS => ?_)
        refine lv_if_eq (tgt := 31) hx hb dX7_owner_17 (by decide) (fun hc => ?_) (fun hc => ?_)
        · have h := ite_t hc h
          refine lv_iinc (v := (v2 + (1 : Int32))) (lv' := [(2, .int (v2 + (1 : Int32))), (0, .ref (a 0)), (1, .int x0)]) hx hb dX7_owner_31 hl (k := 2) rfl rfl (by decide) rfl (fun ls hl => ?_)
          refine lv_goto (tgt := 2) hx hb dX7_owner_34 (by decide) ?_
          exact ih2 (v2 + (1 : Int32)) _ _ _ hP hS (lv_sub hl [1, 2, 0] rfl) h
        · have h := ite_f hc h
          refine lv_aload_n hx hb dX7_owner_20 rfl (lv_at hl 0 rfl) ?_
          refine lv_iload_n hx hb dX7_owner_21 rfl (lv_at hl 2 rfl) ?_
          refine lv_iload_n hx hb dX7_owner_22 rfl (lv_at hl 1 rfl) ?_
          obtain ⟨r23, hcal, h⟩ := bnd_s h
          refine x_VI (As := [.int v2, .int x0]) hx hb hml hown hts hK hP hS (ct_X7_has l D a cA cT hI g v2 x0 r23 hcal) tM_0 (C := RX7) (F := TX7) (N := 18) rfl (g_V q810 q811 q37 q77 q812) yd_X7_has ⟨Nat.le_of_ble_eq_true rfl, Nat.le_of_ble_eq_true rfl⟩ [] rfl (Nat.le_of_ble_eq_true rfl) hl.1 ⟨Nat.le_refl _, Nat.le_refl _⟩ dX7_owner_23 (fun H locs hP hS => ?_)
          refine lv_if_eq (tgt := 31) hx hb dX7_owner_26 (by decide) (fun hc => ?_) (fun hc => ?_)
          · have h := ite_t hc h
            refine lv_iinc (v := (v2 + (1 : Int32))) (lv' := [(2, .int (v2 + (1 : Int32))), (0, .ref (a 0)), (1, .int x0)]) hx hb dX7_owner_31 hl (k := 2) rfl rfl (by decide) rfl (fun ls hl => ?_)
            refine lv_goto (tgt := 2) hx hb dX7_owner_34 (by decide) ?_
            exact ih2 (v2 + (1 : Int32)) _ _ _ hP hS (lv_sub hl [1, 2, 0] rfl) h
          · have h := ite_f hc h
            refine lv_iload_n hx hb dX7_owner_29 rfl (lv_at hl 2 rfl) ?_
            obtain rfl := Option.some.inj h
            exact hend _ _ _ _ dX7_owner_30 rfl hP hS
  exact K2 fuelN (0 : Int32) _ _ _ hP hS (lv_sub hl [1, 2, 0] rfl) h
set_option maxHeartbeats 4000000 in
set_option maxRecDepth 100000 in
theorem ct_X7_belongsTo (l : Launch) (D : va_G) (a : Nat → Nat) (cA cT : ClassId) (hI : WI a TM) (g : MG) (x0 : Int32)  (r : Int32) (h : m_X7_belongsTo g x0 = some r) :
    CtI l D a cA cT TM yX7_belongsTo (Cond.code yX7_belongsTo cX7_belongsTo 3 (some .int) :: lw_all) (rmm 3 66) [.ref (a 0), .int x0] g r g := by
  refine CtI.of (by decide +kernel) (Nat.le_of_ble_eq_true rfl) ?_
  intro p e s m args below meth c Q ls hx hb hml hown hts hK hP hS hl hend
  have hl : lv_has ls 3 [(0, .ref (a 0)), (1, .int x0)] := hl
  unfold m_X7_belongsTo at h
  refine lv_aload_n hx hb dX7_belongsTo_0 rfl (lv_at hl 0 rfl) ?_
  refine lv_iload_n hx hb dX7_belongsTo_1 rfl (lv_at hl 1 rfl) ?_
  obtain ⟨r2, hcal, h⟩ := bnd_s h
  refine x_VI (As := [.int x0]) hx hb hml hown hts hK hP hS (ct_X7_owner l D a cA cT hI g x0 r2 hcal) tM_0 (C := RX7) (F := TX7) (N := 18) rfl (g_V q804 q805 q35 q77 q806) yd_X7_owner ⟨Nat.le_of_ble_eq_true rfl, Nat.le_of_ble_eq_true rfl⟩ [] rfl (Nat.le_of_ble_eq_true rfl) hl.1 ⟨Nat.le_refl _, Nat.le_refl _⟩ dX7_belongsTo_2 (fun H locs hP hS => ?_)
  refine lv_istore_n (lv' := [(2, .int r2), (0, .ref (a 0)), (1, .int x0)]) hx hb dX7_belongsTo_5 rfl hl (by decide) rfl (fun ls hl => ?_)
  refine lv_iload_n hx hb dX7_belongsTo_6 rfl (lv_at hl 0 rfl) ?_
  refine lv_sipush (v := (-1005 : Int32)) hx hb dX7_belongsTo_7 (by decide) ?_
  refine lv_icmp_eq (tgt := 17) hx hb dX7_belongsTo_10 (by decide) (fun hc => ?_) (fun hc => ?_)
  · have h := ite_t hc h
    refine lv_aload_n hx hb dX7_belongsTo_17 rfl (lv_at hl 1 rfl) ?_
    refine x_getr hx hb hts inX7 hown hK hP tM_0 (C := RX7) (F := TX7) (N := 18) rfl 0 (by decide) q758 rfl 1 rfl dX7_belongsTo_18 ?_
    refine lv_iconst (v := (2 : Int32)) hx hb dX7_belongsTo_21 (by decide) ?_
    obtain ⟨hz, h⟩ := ite_n h
    refine x_ald hx hb hK hP tM_1 hz dX7_belongsTo_22 ?_
    refine lv_iconst (v := (1 : Int32)) hx hb dX7_belongsTo_23 (by decide) ?_
    refine lv_icmp_ne (tgt := 32) hx hb dX7_belongsTo_24 (by decide) (fun hc => ?_) (fun hc => ?_)
    · have h := ite_f hc h
      refine lv_sipush (v := (-1005 : Int32)) hx hb dX7_belongsTo_32 (by decide) ?_
      obtain rfl := Option.some.inj h
      exact hend _ _ _ _ dX7_belongsTo_35 rfl hP hS
    · have h := ite_t hc h
      refine lv_bipush (v := (60 : Int32)) hx hb dX7_belongsTo_27 (by decide) ?_
      refine lv_goto (tgt := 35) hx hb dX7_belongsTo_29 (by decide) ?_
      obtain rfl := Option.some.inj h
      exact hend _ _ _ _ dX7_belongsTo_35 rfl hP hS
  · have h := ite_f hc h
    refine lv_iload_n hx hb dX7_belongsTo_13 rfl (lv_at hl 0 rfl) ?_
    refine lv_goto (tgt := 35) hx hb dX7_belongsTo_14 (by decide) ?_
    obtain rfl := Option.some.inj h
    exact hend _ _ _ _ dX7_belongsTo_35 rfl hP hS
set_option maxHeartbeats 4000000 in
set_option maxRecDepth 100000 in
theorem ct_X7_rowsIn (l : Launch) (D : va_G) (a : Nat → Nat) (cA cT : ClassId) (hI : WI a TM) (g : MG) (x0 : Int32)  (r : Int32) (h : m_X7_rowsIn g x0 = some r) :
    CtI l D a cA cT TM yX7_rowsIn (Cond.code yX7_rowsIn cX7_rowsIn 4 (some .int) :: lw_all) (rmm 0 0) [.ref (a 0), .int x0] g r g := by
  refine CtI.of (by decide +kernel) (Nat.le_of_ble_eq_true rfl) ?_
  intro p e s m args below meth c Q ls hx hb hml hown hts hK hP hS hl hend
  have hl : lv_has ls 4 [(0, .ref (a 0)), (1, .int x0)] := hl
  unfold m_X7_rowsIn at h
  refine lv_iconst (v := (0 : Int32)) hx hb dX7_rowsIn_0 (by decide) ?_
  refine lv_istore_n (lv' := [(2, .int (0 : Int32)), (0, .ref (a 0)), (1, .int x0)]) hx hb dX7_rowsIn_1 rfl hl (by decide) rfl (fun ls hl => ?_)
  refine lv_iconst (v := (0 : Int32)) hx hb dX7_rowsIn_2 (by decide) ?_
  refine lv_istore_n (lv' := [(3, .int (0 : Int32)), (2, .int (0 : Int32)), (0, .ref (a 0)), (1, .int x0)]) hx hb dX7_rowsIn_3 rfl hl (by decide) rfl (fun ls hl => ?_)
  have K4 : ∀ (n4 : Nat) (v2 : Int32) (v3 : Int32) (H : Heap) (locs : List Loc) (ls : Array Slot), WP D a cA cT TM g H → va_S (AA a TM) s.heap H locs → lv_has ls 4 [(0, .ref (a 0)), (1, .int x0), (2, .int v2), (3, .int v3)] → lpo (b_X7_rowsIn_L4 g x0) n4 (v2, v3) = some r → W p l e (rmm 0 0) s m args below meth c H locs 0 0 Q (F0 m 4 ls []) := by
    intro n4
    induction n4 with
    | zero => intro v2 v3 H locs ls hP hS hl h; exact (lpo_0 h).elim
    | succ n4 ih4 =>
      intro v2 v3 H locs ls hP hS hl h
      have h : m_X7_rowsIn_L4 (lpo (b_X7_rowsIn_L4 g x0) n4) g x0 v2 v3 = some r := h
      unfold m_X7_rowsIn_L4 at h
      refine lv_iload_n hx hb dX7_rowsIn_4 rfl (lv_at hl 3 rfl) ?_
      refine lv_aload_n hx hb dX7_rowsIn_5 rfl (lv_at hl 0 rfl) ?_
      refine x_getr hx hb hts inX7 hown hK hP tM_0 (C := RX7) (F := TX7) (N := 18) rfl 0 (by decide) q758 rfl 1 rfl dX7_rowsIn_6 ?_
      refine lv_iconst (v := (0 : Int32)) hx hb dX7_rowsIn_9 (by decide) ?_
      obtain ⟨hz, h⟩ := ite_n h
      refine x_ald hx hb hK hP tM_1 hz dX7_rowsIn_10 ?_
      refine lv_icmp_ge (tgt := 42) hx hb dX7_rowsIn_11 (by decide) (fun hc => ?_) (fun hc => ?_)
      · have h := ite_t hc h
        refine lv_iload_n hx hb dX7_rowsIn_42 rfl (lv_at hl 2 rfl) ?_
        obtain rfl := Option.some.inj h
        exact hend _ _ _ _ dX7_rowsIn_43 rfl hP hS
      · have h := ite_f hc h
        refine lv_iload_n hx hb dX7_rowsIn_14 rfl (lv_at hl 2 rfl) ?_
        refine lv_aload_n hx hb dX7_rowsIn_15 rfl (lv_at hl 0 rfl) ?_
        refine x_getr hx hb hts inX7 hown hK hP tM_0 (C := RX7) (F := TX7) (N := 18) rfl 0 (by decide) q758 rfl 1 rfl dX7_rowsIn_16 ?_
        refine lv_sipush (v := (805 : Int32)) hx hb dX7_rowsIn_19 (by decide) ?_
        refine lv_iload_n hx hb dX7_rowsIn_22 rfl (lv_at hl 3 rfl) ?_
        refine lv_iadd hx hb dX7_rowsIn_23 ?_
        obtain ⟨hz, h⟩ := ite_n h
        refine x_ald hx hb hK hP tM_1 hz dX7_rowsIn_24 ?_
        refine lv_iload_n hx hb dX7_rowsIn_25 rfl (lv_at hl 1 rfl) ?_
        refine lv_icmp_ne (tgt := 33) hx hb dX7_rowsIn_26 (by decide) (fun hc => ?_) (fun hc => ?_)
        · have h := ite_f hc h
          refine lv_iconst (v := (0 : Int32)) hx hb dX7_rowsIn_33 (by decide) ?_
          refine lv_iadd hx hb dX7_rowsIn_34 ?_
          refine lv_istore_n (lv' := [(2, .int (v2 + (0 : Int32))), (0, .ref (a 0)), (1, .int x0), (3, .int v3)]) hx hb dX7_rowsIn_35 rfl hl (by decide) rfl (fun ls hl => ?_)
          refine lv_iinc (v := (v3 + (1 : Int32))) (lv' := [(3, .int (v3 + (1 : Int32))), (2, .int (v2 + (0 : Int32))), (0, .ref (a 0)), (1, .int x0)]) hx hb dX7_rowsIn_36 hl (k := 3) rfl rfl (by decide) rfl (fun ls hl => ?_)
          refine lv_goto (tgt := 4) hx hb dX7_rowsIn_39 (by decide) ?_
          exact ih4 (v2 + (0 : Int32)) (v3 + (1 : Int32)) _ _ _ hP hS (lv_sub hl [2, 3, 1, 0] rfl) h
        · have h := ite_t hc h
          refine lv_iconst (v := (1 : Int32)) hx hb dX7_rowsIn_29 (by decide) ?_
          refine lv_goto (tgt := 34) hx hb dX7_rowsIn_30 (by decide) ?_
          refine lv_iadd hx hb dX7_rowsIn_34 ?_
          refine lv_istore_n (lv' := [(2, .int (v2 + (1 : Int32))), (0, .ref (a 0)), (1, .int x0), (3, .int v3)]) hx hb dX7_rowsIn_35 rfl hl (by decide) rfl (fun ls hl => ?_)
          refine lv_iinc (v := (v3 + (1 : Int32))) (lv' := [(3, .int (v3 + (1 : Int32))), (2, .int (v2 + (1 : Int32))), (0, .ref (a 0)), (1, .int x0)]) hx hb dX7_rowsIn_36 hl (k := 3) rfl rfl (by decide) rfl (fun ls hl => ?_)
          refine lv_goto (tgt := 4) hx hb dX7_rowsIn_39 (by decide) ?_
          exact ih4 (v2 + (1 : Int32)) (v3 + (1 : Int32)) _ _ _ hP hS (lv_sub hl [2, 3, 1, 0] rfl) h
  exact K4 fuelN (0 : Int32) (0 : Int32) _ _ _ hP hS (lv_sub hl [2, 3, 1, 0] rfl) h
set_option maxHeartbeats 4000000 in
set_option maxRecDepth 100000 in
theorem ct_X7_isStray (l : Launch) (D : va_G) (a : Nat → Nat) (cA cT : ClassId) (hI : WI a TM) (g : MG) (x0 : Int32)  (r : Int32) (h : m_X7_isStray g x0 = some r) :
    CtI l D a cA cT TM yX7_isStray (Cond.code yX7_isStray cX7_isStray 3 (some .boolean) :: lw_all) (rmm 4 88) [.ref (a 0), .int x0] g r g := by
  refine CtI.of (by decide +kernel) (Nat.le_of_ble_eq_true rfl) ?_
  intro p e s m args below meth c Q ls hx hb hml hown hts hK hP hS hl hend
  have hl : lv_has ls 3 [(0, .ref (a 0)), (1, .int x0)] := hl
  unfold m_X7_isStray at h
  refine lv_aload_n hx hb dX7_isStray_0 rfl (lv_at hl 0 rfl) ?_
  refine x_getr hx hb hts inX7 hown hK hP tM_0 (C := RX7) (F := TX7) (N := 18) rfl 0 (by decide) q758 rfl 1 rfl dX7_isStray_1 ?_
  refine lv_sipush (v := (805 : Int32)) hx hb dX7_isStray_4 (by decide) ?_
  refine lv_iload_n hx hb dX7_isStray_7 rfl (lv_at hl 1 rfl) ?_
  refine lv_iadd hx hb dX7_isStray_8 ?_
  obtain ⟨hz, h⟩ := ite_n h
  refine x_ald hx hb hK hP tM_1 hz dX7_isStray_9 ?_
  refine lv_istore_n (lv' := [(2, .int (g.1 1 ((805 : Int32) + x0).toNatClampNeg)), (0, .ref (a 0)), (1, .int x0)]) hx hb dX7_isStray_10 rfl hl (by decide) rfl (fun ls hl => ?_)
  refine lv_iload_n hx hb dX7_isStray_11 rfl (lv_at hl 0 rfl) ?_
  refine lv_iconst (v := (-1 : Int32)) hx hb dX7_isStray_12 (by decide) ?_
  refine lv_icmp_eq (tgt := 42) hx hb dX7_isStray_13 (by decide) (fun hc => ?_) (fun hc => ?_)
  · have h := ite_t hc h
    refine lv_iconst (v := (0 : Int32)) hx hb dX7_isStray_42 (by decide) ?_
    obtain rfl := Option.some.inj h
    exact hend _ _ _ _ dX7_isStray_43 rfl hP hS
  · have h := ite_f hc h
    refine lv_iload_n hx hb dX7_isStray_16 rfl (lv_at hl 0 rfl) ?_
    refine lv_bipush (v := (61 : Int32)) hx hb dX7_isStray_17 (by decide) ?_
    refine lv_icmp_eq (tgt := 42) hx hb dX7_isStray_19 (by decide) (fun hc => ?_) (fun hc => ?_)
    · have h := ite_t hc h
      refine lv_iconst (v := (0 : Int32)) hx hb dX7_isStray_42 (by decide) ?_
      obtain rfl := Option.some.inj h
      exact hend _ _ _ _ dX7_isStray_43 rfl hP hS
    · have h := ite_f hc h
      refine lv_iload_n hx hb dX7_isStray_22 rfl (lv_at hl 0 rfl) ?_
      refine lv_aload_n hx hb dX7_isStray_23 rfl (lv_at hl 1 rfl) ?_
      refine lv_aload_n hx hb dX7_isStray_24 rfl (lv_at hl 1 rfl) ?_
      refine x_getr hx hb hts inX7 hown hK hP tM_0 (C := RX7) (F := TX7) (N := 18) rfl 0 (by decide) q758 rfl 1 rfl dX7_isStray_25 ?_
      refine lv_iconst (v := (5 : Int32)) hx hb dX7_isStray_28 (by decide) ?_
      refine lv_iload_n hx hb dX7_isStray_29 rfl (lv_at hl 2 rfl) ?_
      refine lv_iadd hx hb dX7_isStray_30 ?_
      obtain ⟨hz, h⟩ := ite_n h
      refine x_ald hx hb hK hP tM_1 hz dX7_isStray_31 ?_
      obtain ⟨r32, hcal, h⟩ := bnd_s h
      refine x_VI (As := [.int (g.1 1 ((5 : Int32) + x0).toNatClampNeg)]) hx hb hml hown hts hK hP hS (ct_X7_belongsTo l D a cA cT hI g (g.1 1 ((5 : Int32) + x0).toNatClampNeg) r32 hcal) tM_0 (C := RX7) (F := TX7) (N := 18) rfl (g_V q801 q802 q34 q77 q803) yd_X7_belongsTo ⟨Nat.le_of_ble_eq_true rfl, Nat.le_of_ble_eq_true rfl⟩ [.int (g.1 1 ((805 : Int32) + x0).toNatClampNeg)] rfl (Nat.le_of_ble_eq_true rfl) hl.1 ⟨Nat.le_refl _, Nat.le_refl _⟩ dX7_isStray_32 (fun H locs hP hS => ?_)
      refine lv_icmp_eq (tgt := 42) hx hb dX7_isStray_35 (by decide) (fun hc => ?_) (fun hc => ?_)
      · have h := ite_t hc h
        refine lv_iconst (v := (0 : Int32)) hx hb dX7_isStray_42 (by decide) ?_
        obtain rfl := Option.some.inj h
        exact hend _ _ _ _ dX7_isStray_43 rfl hP hS
      · have h := ite_f hc h
        refine lv_iconst (v := (1 : Int32)) hx hb dX7_isStray_38 (by decide) ?_
        refine lv_goto (tgt := 43) hx hb dX7_isStray_39 (by decide) ?_
        obtain rfl := Option.some.inj h
        exact hend _ _ _ _ dX7_isStray_43 rfl hP hS
set_option maxHeartbeats 4000000 in
set_option maxRecDepth 100000 in
theorem ct_X7_slices (l : Launch) (D : va_G) (a : Nat → Nat) (cA cT : ClassId) (hI : WI a TM) (g : MG)   (r : Int32) (h : m_X7_slices g = some r) :
    CtI l D a cA cT TM yX7_slices (Cond.code yX7_slices cX7_slices 3 (some .int) :: lw_all) (rmm 0 0) [.ref (a 0)] g r g := by
  refine CtI.of (by decide +kernel) (Nat.le_of_ble_eq_true rfl) ?_
  intro p e s m args below meth c Q ls hx hb hml hown hts hK hP hS hl hend
  have hl : lv_has ls 3 [(0, .ref (a 0))] := hl
  unfold m_X7_slices at h
  refine lv_iconst (v := (0 : Int32)) hx hb dX7_slices_0 (by decide) ?_
  refine lv_istore_n (lv' := [(1, .int (0 : Int32)), (0, .ref (a 0))]) hx hb dX7_slices_1 rfl hl (by decide) rfl (fun ls hl => ?_)
  refine lv_iconst (v := (0 : Int32)) hx hb dX7_slices_2 (by decide) ?_
  refine lv_istore_n (lv' := [(2, .int (0 : Int32)), (1, .int (0 : Int32)), (0, .ref (a 0))]) hx hb dX7_slices_3 rfl hl (by decide) rfl (fun ls hl => ?_)
  have K4 : ∀ (n4 : Nat) (v1 : Int32) (v2 : Int32) (H : Heap) (locs : List Loc) (ls : Array Slot), WP D a cA cT TM g H → va_S (AA a TM) s.heap H locs → lv_has ls 3 [(0, .ref (a 0)), (1, .int v1), (2, .int v2)] → lpo (b_X7_slices_L4 g) n4 (v1, v2) = some r → W p l e (rmm 0 0) s m args below meth c H locs 0 0 Q (F0 m 4 ls []) := by
    intro n4
    induction n4 with
    | zero => intro v1 v2 H locs ls hP hS hl h; exact (lpo_0 h).elim
    | succ n4 ih4 =>
      intro v1 v2 H locs ls hP hS hl h
      have h : m_X7_slices_L4 (lpo (b_X7_slices_L4 g) n4) g v1 v2 = some r := h
      unfold m_X7_slices_L4 at h
      refine lv_iload_n hx hb dX7_slices_4 rfl (lv_at hl 2 rfl) ?_
      refine lv_aload_n hx hb dX7_slices_5 rfl (lv_at hl 0 rfl) ?_
      refine x_getr hx hb hts inX7 hown hK hP tM_0 (C := RX7) (F := TX7) (N := 18) rfl 0 (by decide) q758 rfl 1 rfl dX7_slices_6 ?_
      refine lv_iconst (v := (1 : Int32)) hx hb dX7_slices_9 (by decide) ?_
      obtain ⟨hz, h⟩ := ite_n h
      refine x_ald hx hb hK hP tM_1 hz dX7_slices_10 ?_
      refine lv_icmp_ge (tgt := 33) hx hb dX7_slices_11 (by decide) (fun hc => ?_) (fun hc => ?_)
      · have h := ite_t hc h
        refine lv_iload_n hx hb dX7_slices_33 rfl (lv_at hl 1 rfl) ?_
        obtain rfl := Option.some.inj h
        exact hend _ _ _ _ dX7_slices_34 rfl hP hS
      · have h := ite_f hc h
        refine lv_iload_n hx hb dX7_slices_14 rfl (lv_at hl 1 rfl) ?_
        refine lv_aload_n hx hb dX7_slices_15 rfl (lv_at hl 0 rfl) ?_
        refine x_getr hx hb hts inX7 hown hK hP tM_0 (C := RX7) (F := TX7) (N := 18) rfl 0 (by decide) q758 rfl 1 rfl dX7_slices_16 ?_
        refine lv_sipush (v := (1205 : Int32)) hx hb dX7_slices_19 (by decide) ?_
        refine lv_iload_n hx hb dX7_slices_22 rfl (lv_at hl 2 rfl) ?_
        refine lv_iadd hx hb dX7_slices_23 ?_
        obtain ⟨hz, h⟩ := ite_n h
        refine x_ald hx hb hK hP tM_1 hz dX7_slices_24 ?_
        refine lv_iadd hx hb dX7_slices_25 ?_
        refine lv_istore_n (lv' := [(1, .int (v1 + (g.1 1 ((1205 : Int32) + v2).toNatClampNeg))), (0, .ref (a 0)), (2, .int v2)]) hx hb dX7_slices_26 rfl hl (by decide) rfl (fun ls hl => ?_)
        refine lv_iinc (v := (v2 + (1 : Int32))) (lv' := [(2, .int (v2 + (1 : Int32))), (1, .int (v1 + (g.1 1 ((1205 : Int32) + v2).toNatClampNeg))), (0, .ref (a 0))]) hx hb dX7_slices_27 hl (k := 2) rfl rfl (by decide) rfl (fun ls hl => ?_)
        refine lv_goto (tgt := 4) hx hb dX7_slices_30 (by decide) ?_
        exact ih4 (v1 + (g.1 1 ((1205 : Int32) + v2).toNatClampNeg)) (v2 + (1 : Int32)) _ _ _ hP hS (lv_sub hl [2, 1, 0] rfl) h
  exact K4 fuelN (0 : Int32) (0 : Int32) _ _ _ hP hS (lv_sub hl [2, 1, 0] rfl) h
set_option maxHeartbeats 4000000 in
set_option maxRecDepth 100000 in
theorem ct_X7_isFullOfSlices (l : Launch) (D : va_G) (a : Nat → Nat) (cA cT : ClassId) (hI : WI a TM) (g : MG)   (r : Int32) (h : m_X7_isFullOfSlices g = some r) :
    CtI l D a cA cT TM yX7_isFullOfSlices (Cond.code yX7_isFullOfSlices cX7_isFullOfSlices 1 (some .boolean) :: lw_all) (rmm 1 22) [.ref (a 0)] g r g := by
  refine CtI.of (by decide +kernel) (Nat.le_of_ble_eq_true rfl) ?_
  intro p e s m args below meth c Q ls hx hb hml hown hts hK hP hS hl hend
  have hl : lv_has ls 1 [(0, .ref (a 0))] := hl
  unfold m_X7_isFullOfSlices at h
  refine lv_aload_n hx hb dX7_isFullOfSlices_0 rfl (lv_at hl 0 rfl) ?_
  obtain ⟨r1, hcal, h⟩ := bnd_s h
  refine x_VI (As := []) hx hb hml hown hts hK hP hS (ct_X7_slices l D a cA cT hI g r1 hcal) tM_0 (C := RX7) (F := TX7) (N := 18) rfl (g_V q853 q854 q46 q77 q855) yd_X7_slices ⟨Nat.le_of_ble_eq_true rfl, Nat.le_of_ble_eq_true rfl⟩ [] rfl (Nat.le_of_ble_eq_true rfl) hl.1 ⟨Nat.le_refl _, Nat.le_refl _⟩ dX7_isFullOfSlices_1 (fun H locs hP hS => ?_)
  refine lv_bipush (v := (12 : Int32)) hx hb dX7_isFullOfSlices_4 (by decide) ?_
  refine lv_icmp_eq (tgt := 20) hx hb dX7_isFullOfSlices_6 (by decide) (fun hc => ?_) (fun hc => ?_)
  · have h := ite_t hc h
    refine lv_iconst (v := (1 : Int32)) hx hb dX7_isFullOfSlices_20 (by decide) ?_
    refine lv_goto (tgt := 25) hx hb dX7_isFullOfSlices_21 (by decide) ?_
    obtain rfl := Option.some.inj h
    exact hend _ _ _ _ dX7_isFullOfSlices_25 rfl hP hS
  · have h := ite_f hc h
    refine lv_aload_n hx hb dX7_isFullOfSlices_9 rfl (lv_at hl 0 rfl) ?_
    refine x_getr hx hb hts inX7 hown hK hP tM_0 (C := RX7) (F := TX7) (N := 18) rfl 0 (by decide) q758 rfl 1 rfl dX7_isFullOfSlices_10 ?_
    refine lv_iconst (v := (1 : Int32)) hx hb dX7_isFullOfSlices_13 (by decide) ?_
    obtain ⟨hz, h⟩ := ite_n h
    refine x_ald hx hb hK hP tM_1 hz dX7_isFullOfSlices_14 ?_
    refine lv_bipush (v := (60 : Int32)) hx hb dX7_isFullOfSlices_15 (by decide) ?_
    refine lv_icmp_ne (tgt := 24) hx hb dX7_isFullOfSlices_17 (by decide) (fun hc => ?_) (fun hc => ?_)
    · have h := ite_f hc h
      refine lv_iconst (v := (0 : Int32)) hx hb dX7_isFullOfSlices_24 (by decide) ?_
      obtain rfl := Option.some.inj h
      exact hend _ _ _ _ dX7_isFullOfSlices_25 rfl hP hS
    · have h := ite_t hc h
      refine lv_iconst (v := (1 : Int32)) hx hb dX7_isFullOfSlices_20 (by decide) ?_
      refine lv_goto (tgt := 25) hx hb dX7_isFullOfSlices_21 (by decide) ?_
      obtain rfl := Option.some.inj h
      exact hend _ _ _ _ dX7_isFullOfSlices_25 rfl hP hS
set_option maxHeartbeats 4000000 in
set_option maxRecDepth 100000 in
theorem ct_X7_areBounds (l : Launch) (D : va_G) (a : Nat → Nat) (cA cT : ClassId) (hI : WI a TM) (g : MG) (x0 : Int32) (x1 : Int32)  (r : Int32) (h : m_X7_areBounds g x0 x1 = some r) :
    CtI l D a cA cT TM yX7_areBounds (Cond.code yX7_areBounds cX7_areBounds 3 (some .boolean) :: lw_all) (rmm 1 22) [.ref (a 0), .int x0, .int x1] g r g := by
  refine CtI.of (by decide +kernel) (Nat.le_of_ble_eq_true rfl) ?_
  intro p e s m args below meth c Q ls hx hb hml hown hts hK hP hS hl hend
  have hl : lv_has ls 3 [(0, .ref (a 0)), (1, .int x0), (2, .int x1)] := hl
  unfold m_X7_areBounds at h
  refine lv_iload_n hx hb dX7_areBounds_0 rfl (lv_at hl 1 rfl) ?_
  refine lv_iconst (v := (0 : Int32)) hx hb dX7_areBounds_1 (by decide) ?_
  refine lv_sipush (v := (999 : Int32)) hx hb dX7_areBounds_2 (by decide) ?_
  obtain ⟨r5, hcal, h⟩ := bnd_s h
  refine x_SI (As := [.int x0, .int (0 : Int32), .int (999 : Int32)]) hx hb hml hown hts hK hP hS (ct_X7_in l D a cA cT hI g x0 (0 : Int32) (999 : Int32) r5 hcal) (g_S q798 q799 q77 q800) yd_X7_in ⟨Nat.le_of_ble_eq_true rfl, Nat.le_of_ble_eq_true rfl⟩ [] rfl (Nat.le_of_ble_eq_true rfl) hl.1 ⟨Nat.le_refl _, Nat.le_refl _⟩ dX7_areBounds_5 (fun H locs hP hS => ?_)
  refine lv_if_eq (tgt := 28) hx hb dX7_areBounds_8 (by decide) (fun hc => ?_) (fun hc => ?_)
  · have h := ite_t hc h
    refine lv_iconst (v := (0 : Int32)) hx hb dX7_areBounds_28 (by decide) ?_
    obtain rfl := Option.some.inj h
    exact hend _ _ _ _ dX7_areBounds_29 rfl hP hS
  · have h := ite_f hc h
    refine lv_iload_n hx hb dX7_areBounds_11 rfl (lv_at hl 2 rfl) ?_
    refine lv_iload_n hx hb dX7_areBounds_12 rfl (lv_at hl 1 rfl) ?_
    refine lv_iconst (v := (1 : Int32)) hx hb dX7_areBounds_13 (by decide) ?_
    refine lv_iadd hx hb dX7_areBounds_14 ?_
    refine lv_sipush (v := (1000 : Int32)) hx hb dX7_areBounds_15 (by decide) ?_
    obtain ⟨r18, hcal, h⟩ := bnd_s h
    refine x_SI (As := [.int x1, .int (x0 + (1 : Int32)), .int (1000 : Int32)]) hx hb hml hown hts hK hP hS (ct_X7_in l D a cA cT hI g x1 (x0 + (1 : Int32)) (1000 : Int32) r18 hcal) (g_S q798 q799 q77 q800) yd_X7_in ⟨Nat.le_of_ble_eq_true rfl, Nat.le_of_ble_eq_true rfl⟩ [] rfl (Nat.le_of_ble_eq_true rfl) hl.1 ⟨Nat.le_refl _, Nat.le_refl _⟩ dX7_areBounds_18 (fun H locs hP hS => ?_)
    refine lv_if_eq (tgt := 28) hx hb dX7_areBounds_21 (by decide) (fun hc => ?_) (fun hc => ?_)
    · have h := ite_t hc h
      refine lv_iconst (v := (0 : Int32)) hx hb dX7_areBounds_28 (by decide) ?_
      obtain rfl := Option.some.inj h
      exact hend _ _ _ _ dX7_areBounds_29 rfl hP hS
    · have h := ite_f hc h
      refine lv_iconst (v := (1 : Int32)) hx hb dX7_areBounds_24 (by decide) ?_
      refine lv_goto (tgt := 29) hx hb dX7_areBounds_25 (by decide) ?_
      obtain rfl := Option.some.inj h
      exact hend _ _ _ _ dX7_areBounds_29 rfl hP hS
set_option maxHeartbeats 4000000 in
set_option maxRecDepth 100000 in
theorem ct_X7_isTaken (l : Launch) (D : va_G) (a : Nat → Nat) (cA cT : ClassId) (hI : WI a TM) (g : MG) (x0 : Int32) (x1 : Int32)  (r : Int32) (h : m_X7_isTaken g x0 x1 = some r) :
    CtI l D a cA cT TM yX7_isTaken (Cond.code yX7_isTaken cX7_isTaken 4 (some .boolean) :: lw_all) (rmm 2 43) [.ref (a 0), .int x0, .int x1] g r g := by
  refine CtI.of (by decide +kernel) (Nat.le_of_ble_eq_true rfl) ?_
  intro p e s m args below meth c Q ls hx hb hml hown hts hK hP hS hl hend
  have hl : lv_has ls 4 [(0, .ref (a 0)), (1, .int x0), (2, .int x1)] := hl
  unfold m_X7_isTaken at h
  refine lv_iconst (v := (0 : Int32)) hx hb dX7_isTaken_0 (by decide) ?_
  refine lv_istore_n (lv' := [(3, .int (0 : Int32)), (0, .ref (a 0)), (1, .int x0), (2, .int x1)]) hx hb dX7_isTaken_1 rfl hl (by decide) rfl (fun ls hl => ?_)
  have K2 : ∀ (n2 : Nat) (v3 : Int32) (H : Heap) (locs : List Loc) (ls : Array Slot), WP D a cA cT TM g H → va_S (AA a TM) s.heap H locs → lv_has ls 4 [(0, .ref (a 0)), (1, .int x0), (2, .int x1), (3, .int v3)] → lpo (b_X7_isTaken_L2 g x0 x1) n2 v3 = some r → W p l e (rmm 2 43) s m args below meth c H locs 0 0 Q (F0 m 2 ls []) := by
    intro n2
    induction n2 with
    | zero => intro v3 H locs ls hP hS hl h; exact (lpo_0 h).elim
    | succ n2 ih2 =>
      intro v3 H locs ls hP hS hl h
      have h : m_X7_isTaken_L2 (lpo (b_X7_isTaken_L2 g x0 x1) n2) g x0 x1 v3 = some r := h
      unfold m_X7_isTaken_L2 at h
      refine lv_iload_n hx hb dX7_isTaken_2 rfl (lv_at hl 3 rfl) ?_
      refine lv_aload_n hx hb dX7_isTaken_3 rfl (lv_at hl 0 rfl) ?_
      refine x_getr hx hb hts inX7 hown hK hP tM_0 (C := RX7) (F := TX7) (N := 18) rfl 0 (by decide) q758 rfl 1 rfl dX7_isTaken_4 ?_
      refine lv_iconst (v := (1 : Int32)) hx hb dX7_isTaken_7 (by decide) ?_
      obtain ⟨hz, h⟩ := ite_n h
      refine x_ald hx hb hK hP tM_1 hz dX7_isTaken_8 ?_
      refine lv_icmp_ge (tgt := 56) hx hb dX7_isTaken_9 (by decide) (fun hc => ?_) (fun hc => ?_)
      · have h := ite_t hc h
        refine lv_iconst (v := (0 : Int32)) hx hb dX7_isTaken_56 (by decide) ?_
        obtain rfl := Option.some.inj h
        exact hend _ _ _ _ dX7_isTaken_57 rfl hP hS
      · have h := ite_f hc h
        refine lv_aload_n hx hb dX7_isTaken_12 rfl (lv_at hl 0 rfl) ?_
        refine lv_iload_n hx hb dX7_isTaken_13 rfl (lv_at hl 3 rfl) ?_
        obtain ⟨r14, hcal, h⟩ := bnd_s h
        refine x_VI (As := [.int v3]) hx hb hml hown hts hK hP hS (ct_X7_isSlice l D a cA cT hI g v3 r14 hcal) tM_0 (C := RX7) (F := TX7) (N := 18) rfl (g_V q807 q808 q36 q77 q809) yd_X7_isSlice ⟨Nat.le_of_ble_eq_true rfl, Nat.le_of_ble_eq_true rfl⟩ [] rfl (Nat.le_of_ble_eq_true rfl) hl.1 ⟨Nat.le_refl _, Nat.le_refl _⟩ dX7_isTaken_14 (fun H locs hP hS => ?_)
        refine lv_if_eq (tgt := 50) hx hb dX7_isTaken_17 (by decide) (fun hc => ?_) (fun hc => ?_)
        · have h := ite_t hc h
          refine lv_iinc (v := (v3 + (1 : Int32))) (lv' := [(3, .int (v3 + (1 : Int32))), (0, .ref (a 0)), (1, .int x0), (2, .int x1)]) hx hb dX7_isTaken_50 hl (k := 3) rfl rfl (by decide) rfl (fun ls hl => ?_)
          refine lv_goto (tgt := 2) hx hb dX7_isTaken_53 (by decide) ?_
          exact ih2 (v3 + (1 : Int32)) _ _ _ hP hS (lv_sub hl [1, 2, 3, 0] rfl) h
        · have h := ite_f hc h
          refine lv_aload_n hx hb dX7_isTaken_20 rfl (lv_at hl 0 rfl) ?_
          refine x_getr hx hb hts inX7 hown hK hP tM_0 (C := RX7) (F := TX7) (N := 18) rfl 0 (by decide) q758 rfl 1 rfl dX7_isTaken_21 ?_
          refine lv_sipush (v := (1265 : Int32)) hx hb dX7_isTaken_24 (by decide) ?_
          refine lv_iload_n hx hb dX7_isTaken_27 rfl (lv_at hl 3 rfl) ?_
          refine lv_iadd hx hb dX7_isTaken_28 ?_
          obtain ⟨hz, h⟩ := ite_n h
          refine x_ald hx hb hK hP tM_1 hz dX7_isTaken_29 ?_
          refine lv_iload_n hx hb dX7_isTaken_30 rfl (lv_at hl 2 rfl) ?_
          refine lv_icmp_ge (tgt := 50) hx hb dX7_isTaken_31 (by decide) (fun hc => ?_) (fun hc => ?_)
          · have h := ite_t hc h
            refine lv_iinc (v := (v3 + (1 : Int32))) (lv' := [(3, .int (v3 + (1 : Int32))), (0, .ref (a 0)), (1, .int x0), (2, .int x1)]) hx hb dX7_isTaken_50 hl (k := 3) rfl rfl (by decide) rfl (fun ls hl => ?_)
            refine lv_goto (tgt := 2) hx hb dX7_isTaken_53 (by decide) ?_
            exact ih2 (v3 + (1 : Int32)) _ _ _ hP hS (lv_sub hl [1, 2, 3, 0] rfl) h
          · have h := ite_f hc h
            refine lv_iload_n hx hb dX7_isTaken_34 rfl (lv_at hl 1 rfl) ?_
            refine lv_aload_n hx hb dX7_isTaken_35 rfl (lv_at hl 0 rfl) ?_
            refine x_getr hx hb hts inX7 hown hK hP tM_0 (C := RX7) (F := TX7) (N := 18) rfl 0 (by decide) q758 rfl 1 rfl dX7_isTaken_36 ?_
            refine lv_sipush (v := (1325 : Int32)) hx hb dX7_isTaken_39 (by decide) ?_
            refine lv_iload_n hx hb dX7_isTaken_42 rfl (lv_at hl 3 rfl) ?_
            refine lv_iadd hx hb dX7_isTaken_43 ?_
            obtain ⟨hz, h⟩ := ite_n h
            refine x_ald hx hb hK hP tM_1 hz dX7_isTaken_44 ?_
            refine lv_icmp_ge (tgt := 50) hx hb dX7_isTaken_45 (by decide) (fun hc => ?_) (fun hc => ?_)
            · have h := ite_t hc h
              refine lv_iinc (v := (v3 + (1 : Int32))) (lv' := [(3, .int (v3 + (1 : Int32))), (0, .ref (a 0)), (1, .int x0), (2, .int x1)]) hx hb dX7_isTaken_50 hl (k := 3) rfl rfl (by decide) rfl (fun ls hl => ?_)
              refine lv_goto (tgt := 2) hx hb dX7_isTaken_53 (by decide) ?_
              exact ih2 (v3 + (1 : Int32)) _ _ _ hP hS (lv_sub hl [1, 2, 3, 0] rfl) h
            · have h := ite_f hc h
              refine lv_iconst (v := (1 : Int32)) hx hb dX7_isTaken_48 (by decide) ?_
              obtain rfl := Option.some.inj h
              exact hend _ _ _ _ dX7_isTaken_49 rfl hP hS
  exact K2 fuelN (0 : Int32) _ _ _ hP hS (lv_sub hl [1, 2, 3, 0] rfl) h
set_option maxHeartbeats 4000000 in
set_option maxRecDepth 100000 in
theorem ct_X7_rowsBetween (l : Launch) (D : va_G) (a : Nat → Nat) (cA cT : ClassId) (hI : WI a TM) (g : MG) (x0 : Int32) (x1 : Int32) (x2 : Int32)  (r : Int32) (h : m_X7_rowsBetween g x0 x1 x2 = some r) :
    CtI l D a cA cT TM yX7_rowsBetween (Cond.code yX7_rowsBetween cX7_rowsBetween 6 (some .int) :: lw_all) (rmm 1 22) [.ref (a 0), .int x0, .int x1, .int x2] g r g := by
  refine CtI.of (by decide +kernel) (Nat.le_of_ble_eq_true rfl) ?_
  intro p e s m args below meth c Q ls hx hb hml hown hts hK hP hS hl hend
  have hl : lv_has ls 6 [(0, .ref (a 0)), (1, .int x0), (2, .int x1), (3, .int x2)] := hl
  unfold m_X7_rowsBetween at h
  refine lv_iconst (v := (0 : Int32)) hx hb dX7_rowsBetween_0 (by decide) ?_
  refine lv_istore (lv' := [(4, .int (0 : Int32)), (0, .ref (a 0)), (1, .int x0), (2, .int x1), (3, .int x2)]) hx hb dX7_rowsBetween_1 hl (by decide) rfl (fun ls hl => ?_)
  refine lv_iconst (v := (0 : Int32)) hx hb dX7_rowsBetween_3 (by decide) ?_
  refine lv_istore (lv' := [(5, .int (0 : Int32)), (4, .int (0 : Int32)), (0, .ref (a 0)), (1, .int x0), (2, .int x1), (3, .int x2)]) hx hb dX7_rowsBetween_4 hl (by decide) rfl (fun ls hl => ?_)
  have K6 : ∀ (n6 : Nat) (v4 : Int32) (v5 : Int32) (H : Heap) (locs : List Loc) (ls : Array Slot), WP D a cA cT TM g H → va_S (AA a TM) s.heap H locs → lv_has ls 6 [(0, .ref (a 0)), (1, .int x0), (2, .int x1), (3, .int x2), (4, .int v4), (5, .int v5)] → lpo (b_X7_rowsBetween_L6 g x0 x1 x2) n6 (v4, v5) = some r → W p l e (rmm 1 22) s m args below meth c H locs 0 0 Q (F0 m 6 ls []) := by
    intro n6
    induction n6 with
    | zero => intro v4 v5 H locs ls hP hS hl h; exact (lpo_0 h).elim
    | succ n6 ih6 =>
      intro v4 v5 H locs ls hP hS hl h
      have h : m_X7_rowsBetween_L6 (lpo (b_X7_rowsBetween_L6 g x0 x1 x2) n6) g x0 x1 x2 v4 v5 = some r := h
      unfold m_X7_rowsBetween_L6 at h
      refine lv_iload hx hb dX7_rowsBetween_6 (lv_at hl 5 rfl) ?_
      refine lv_aload_n hx hb dX7_rowsBetween_8 rfl (lv_at hl 0 rfl) ?_
      refine x_getr hx hb hts inX7 hown hK hP tM_0 (C := RX7) (F := TX7) (N := 18) rfl 0 (by decide) q758 rfl 1 rfl dX7_rowsBetween_9 ?_
      refine lv_iconst (v := (0 : Int32)) hx hb dX7_rowsBetween_12 (by decide) ?_
      obtain ⟨hz, h⟩ := ite_n h
      refine x_ald hx hb hK hP tM_1 hz dX7_rowsBetween_13 ?_
      refine lv_icmp_ge (tgt := 67) hx hb dX7_rowsBetween_14 (by decide) (fun hc => ?_) (fun hc => ?_)
      · have h := ite_t hc h
        refine lv_iload hx hb dX7_rowsBetween_67 (lv_at hl 4 rfl) ?_
        obtain rfl := Option.some.inj h
        exact hend _ _ _ _ dX7_rowsBetween_69 rfl hP hS
      · have h := ite_f hc h
        refine lv_iload hx hb dX7_rowsBetween_17 (lv_at hl 4 rfl) ?_
        refine lv_aload_n hx hb dX7_rowsBetween_19 rfl (lv_at hl 0 rfl) ?_
        refine x_getr hx hb hts inX7 hown hK hP tM_0 (C := RX7) (F := TX7) (N := 18) rfl 0 (by decide) q758 rfl 1 rfl dX7_rowsBetween_20 ?_
        refine lv_sipush (v := (805 : Int32)) hx hb dX7_rowsBetween_23 (by decide) ?_
        refine lv_iload hx hb dX7_rowsBetween_26 (lv_at hl 5 rfl) ?_
        refine lv_iadd hx hb dX7_rowsBetween_28 ?_
        obtain ⟨hz, h⟩ := ite_n h
        refine x_ald hx hb hK hP tM_1 hz dX7_rowsBetween_29 ?_
        refine lv_iload_n hx hb dX7_rowsBetween_30 rfl (lv_at hl 1 rfl) ?_
        refine lv_icmp_ne (tgt := 57) hx hb dX7_rowsBetween_31 (by decide) (fun hc => ?_) (fun hc => ?_)
        · have h := ite_f hc h
          refine lv_iconst (v := (0 : Int32)) hx hb dX7_rowsBetween_57 (by decide) ?_
          refine lv_iadd hx hb dX7_rowsBetween_58 ?_
          refine lv_istore (lv' := [(4, .int (v4 + (0 : Int32))), (0, .ref (a 0)), (1, .int x0), (2, .int x1), (3, .int x2), (5, .int v5)]) hx hb dX7_rowsBetween_59 hl (by decide) rfl (fun ls hl => ?_)
          refine lv_iinc (v := (v5 + (1 : Int32))) (lv' := [(5, .int (v5 + (1 : Int32))), (4, .int (v4 + (0 : Int32))), (0, .ref (a 0)), (1, .int x0), (2, .int x1), (3, .int x2)]) hx hb dX7_rowsBetween_61 hl (k := 5) rfl rfl (by decide) rfl (fun ls hl => ?_)
          refine lv_goto (tgt := 6) hx hb dX7_rowsBetween_64 (by decide) ?_
          exact ih6 (v4 + (0 : Int32)) (v5 + (1 : Int32)) _ _ _ hP hS (lv_sub hl [2, 3, 4, 5, 1, 0] rfl) h
        · have h := ite_t hc h
          refine lv_aload_n hx hb dX7_rowsBetween_34 rfl (lv_at hl 0 rfl) ?_
          refine x_getr hx hb hts inX7 hown hK hP tM_0 (C := RX7) (F := TX7) (N := 18) rfl 0 (by decide) q758 rfl 1 rfl dX7_rowsBetween_35 ?_
          refine lv_iconst (v := (5 : Int32)) hx hb dX7_rowsBetween_38 (by decide) ?_
          refine lv_iload hx hb dX7_rowsBetween_39 (lv_at hl 5 rfl) ?_
          refine lv_iadd hx hb dX7_rowsBetween_41 ?_
          obtain ⟨hz, h⟩ := ite_n h
          refine x_ald hx hb hK hP tM_1 hz dX7_rowsBetween_42 ?_
          refine lv_iload_n hx hb dX7_rowsBetween_43 rfl (lv_at hl 2 rfl) ?_
          refine lv_iload_n hx hb dX7_rowsBetween_44 rfl (lv_at hl 3 rfl) ?_
          refine lv_iconst (v := (1 : Int32)) hx hb dX7_rowsBetween_45 (by decide) ?_
          refine lv_isub hx hb dX7_rowsBetween_46 ?_
          obtain ⟨r47, hcal, h⟩ := bnd_s h
          refine x_SI (As := [.int (g.1 1 ((5 : Int32) + v5).toNatClampNeg), .int x1, .int (x2 - (1 : Int32))]) hx hb hml hown hts hK hP hS (ct_X7_in l D a cA cT hI g (g.1 1 ((5 : Int32) + v5).toNatClampNeg) x1 (x2 - (1 : Int32)) r47 hcal) (g_S q798 q799 q77 q800) yd_X7_in ⟨Nat.le_of_ble_eq_true rfl, Nat.le_of_ble_eq_true rfl⟩ [.int v4] rfl (Nat.le_of_ble_eq_true rfl) hl.1 ⟨Nat.le_refl _, Nat.le_refl _⟩ dX7_rowsBetween_47 (fun H locs hP hS => ?_)
          refine lv_if_eq (tgt := 57) hx hb dX7_rowsBetween_50 (by decide) (fun hc => ?_) (fun hc => ?_)
          · have h := ite_t hc h
            refine lv_iconst (v := (0 : Int32)) hx hb dX7_rowsBetween_57 (by decide) ?_
            refine lv_iadd hx hb dX7_rowsBetween_58 ?_
            refine lv_istore (lv' := [(4, .int (v4 + (0 : Int32))), (0, .ref (a 0)), (1, .int x0), (2, .int x1), (3, .int x2), (5, .int v5)]) hx hb dX7_rowsBetween_59 hl (by decide) rfl (fun ls hl => ?_)
            refine lv_iinc (v := (v5 + (1 : Int32))) (lv' := [(5, .int (v5 + (1 : Int32))), (4, .int (v4 + (0 : Int32))), (0, .ref (a 0)), (1, .int x0), (2, .int x1), (3, .int x2)]) hx hb dX7_rowsBetween_61 hl (k := 5) rfl rfl (by decide) rfl (fun ls hl => ?_)
            refine lv_goto (tgt := 6) hx hb dX7_rowsBetween_64 (by decide) ?_
            exact ih6 (v4 + (0 : Int32)) (v5 + (1 : Int32)) _ _ _ hP hS (lv_sub hl [2, 3, 4, 5, 1, 0] rfl) h
          · have h := ite_f hc h
            refine lv_iconst (v := (1 : Int32)) hx hb dX7_rowsBetween_53 (by decide) ?_
            refine lv_goto (tgt := 58) hx hb dX7_rowsBetween_54 (by decide) ?_
            refine lv_iadd hx hb dX7_rowsBetween_58 ?_
            refine lv_istore (lv' := [(4, .int (v4 + (1 : Int32))), (0, .ref (a 0)), (1, .int x0), (2, .int x1), (3, .int x2), (5, .int v5)]) hx hb dX7_rowsBetween_59 hl (by decide) rfl (fun ls hl => ?_)
            refine lv_iinc (v := (v5 + (1 : Int32))) (lv' := [(5, .int (v5 + (1 : Int32))), (4, .int (v4 + (1 : Int32))), (0, .ref (a 0)), (1, .int x0), (2, .int x1), (3, .int x2)]) hx hb dX7_rowsBetween_61 hl (k := 5) rfl rfl (by decide) rfl (fun ls hl => ?_)
            refine lv_goto (tgt := 6) hx hb dX7_rowsBetween_64 (by decide) ?_
            exact ih6 (v4 + (1 : Int32)) (v5 + (1 : Int32)) _ _ _ hP hS (lv_sub hl [2, 3, 4, 5, 1, 0] rfl) h
  exact K6 fuelN (0 : Int32) (0 : Int32) _ _ _ hP hS (lv_sub hl [2, 3, 4, 5, 1, 0] rfl) h
set_option maxHeartbeats 4000000 in
set_option maxRecDepth 100000 in
theorem ct_X7_moveBetween (l : Launch) (D : va_G) (a : Nat → Nat) (cA cT : ClassId) (hI : WI a TM) (g : MG) (x0 : Int32) (x1 : Int32) (x2 : Int32) (x3 : Int32)  (g' : MG) (h : m_X7_moveBetween g x0 x1 x2 x3 = some g') :
    CtV l D a cA cT TM yX7_moveBetween (Cond.code yX7_moveBetween cX7_moveBetween 6 none :: lw_all) (rmm 1 22) [.ref (a 0), .int x0, .int x1, .int x2, .int x3] g g' := by
  refine CtV.of (by decide +kernel) (Nat.le_of_ble_eq_true rfl) ?_
  intro p e s m args below meth c Q ls hx hb hml hown hts hK hP hS hl hend
  have hl : lv_has ls 6 [(0, .ref (a 0)), (1, .int x0), (2, .int x1), (3, .int x2), (4, .int x3)] := hl
  unfold m_X7_moveBetween at h
  refine lv_iconst (v := (0 : Int32)) hx hb dX7_moveBetween_0 (by decide) ?_
  refine lv_istore (lv' := [(5, .int (0 : Int32)), (0, .ref (a 0)), (1, .int x0), (2, .int x1), (3, .int x2), (4, .int x3)]) hx hb dX7_moveBetween_1 hl (by decide) rfl (fun ls hl => ?_)
  have K3 : ∀ (n3 : Nat) (v5 : Int32) (g3 : MG) (H : Heap) (locs : List Loc) (ls : Array Slot), WP D a cA cT TM g3 H → va_S (AA a TM) s.heap H locs → lv_has ls 6 [(0, .ref (a 0)), (1, .int x0), (2, .int x1), (3, .int x2), (4, .int x3), (5, .int v5)] → lpo (b_X7_moveBetween_L3 x0 x1 x2 x3) n3 (v5, g3) = some g' → W p l e (rmm 1 22) s m args below meth c H locs 0 0 Q (F0 m 3 ls []) := by
    intro n3
    induction n3 with
    | zero => intro v5 g3 H locs ls hP hS hl h; exact (lpo_0 h).elim
    | succ n3 ih3 =>
      intro v5 g3 H locs ls hP hS hl h
      have h : m_X7_moveBetween_L3 (lpo (b_X7_moveBetween_L3 x0 x1 x2 x3) n3) x0 x1 x2 x3 v5 g3 = some g' := h
      unfold m_X7_moveBetween_L3 at h
      refine lv_iload hx hb dX7_moveBetween_3 (lv_at hl 5 rfl) ?_
      refine lv_aload_n hx hb dX7_moveBetween_5 rfl (lv_at hl 0 rfl) ?_
      refine x_getr hx hb hts inX7 hown hK hP tM_0 (C := RX7) (F := TX7) (N := 18) rfl 0 (by decide) q758 rfl 1 rfl dX7_moveBetween_6 ?_
      refine lv_iconst (v := (0 : Int32)) hx hb dX7_moveBetween_9 (by decide) ?_
      obtain ⟨hz, h⟩ := ite_n h
      refine x_ald hx hb hK hP tM_1 hz dX7_moveBetween_10 ?_
      refine lv_icmp_ge (tgt := 67) hx hb dX7_moveBetween_11 (by decide) (fun hc => ?_) (fun hc => ?_)
      · have h := ite_t hc h
        obtain rfl := Option.some.inj h
        exact hend _ _ _ _ dX7_moveBetween_67 hP hS
      · have h := ite_f hc h
        refine lv_aload_n hx hb dX7_moveBetween_14 rfl (lv_at hl 0 rfl) ?_
        refine x_getr hx hb hts inX7 hown hK hP tM_0 (C := RX7) (F := TX7) (N := 18) rfl 0 (by decide) q758 rfl 1 rfl dX7_moveBetween_15 ?_
        refine lv_sipush (v := (805 : Int32)) hx hb dX7_moveBetween_18 (by decide) ?_
        refine lv_iload hx hb dX7_moveBetween_21 (lv_at hl 5 rfl) ?_
        refine lv_iadd hx hb dX7_moveBetween_23 ?_
        obtain ⟨hz, h⟩ := ite_n h
        refine x_ald hx hb hK hP tM_1 hz dX7_moveBetween_24 ?_
        refine lv_iload_n hx hb dX7_moveBetween_25 rfl (lv_at hl 1 rfl) ?_
        refine lv_icmp_ne (tgt := 61) hx hb dX7_moveBetween_26 (by decide) (fun hc => ?_) (fun hc => ?_)
        · have h := ite_f hc h
          refine lv_iinc (v := (v5 + (1 : Int32))) (lv' := [(5, .int (v5 + (1 : Int32))), (0, .ref (a 0)), (1, .int x0), (2, .int x1), (3, .int x2), (4, .int x3)]) hx hb dX7_moveBetween_61 hl (k := 5) rfl rfl (by decide) rfl (fun ls hl => ?_)
          refine lv_goto (tgt := 3) hx hb dX7_moveBetween_64 (by decide) ?_
          exact ih3 (v5 + (1 : Int32)) g3 _ _ _ hP hS (lv_sub hl [1, 2, 3, 4, 5, 0] rfl) h
        · have h := ite_t hc h
          refine lv_aload_n hx hb dX7_moveBetween_29 rfl (lv_at hl 0 rfl) ?_
          refine x_getr hx hb hts inX7 hown hK hP tM_0 (C := RX7) (F := TX7) (N := 18) rfl 0 (by decide) q758 rfl 1 rfl dX7_moveBetween_30 ?_
          refine lv_iconst (v := (5 : Int32)) hx hb dX7_moveBetween_33 (by decide) ?_
          refine lv_iload hx hb dX7_moveBetween_34 (lv_at hl 5 rfl) ?_
          refine lv_iadd hx hb dX7_moveBetween_36 ?_
          obtain ⟨hz, h⟩ := ite_n h
          refine x_ald hx hb hK hP tM_1 hz dX7_moveBetween_37 ?_
          refine lv_iload_n hx hb dX7_moveBetween_38 rfl (lv_at hl 3 rfl) ?_
          refine lv_iload hx hb dX7_moveBetween_39 (lv_at hl 4 rfl) ?_
          refine lv_iconst (v := (1 : Int32)) hx hb dX7_moveBetween_41 (by decide) ?_
          refine lv_isub hx hb dX7_moveBetween_42 ?_
          obtain ⟨r43, hcal, h⟩ := bnd_s h
          refine x_SI (As := [.int (g3.1 1 ((5 : Int32) + v5).toNatClampNeg), .int x2, .int (x3 - (1 : Int32))]) hx hb hml hown hts hK hP hS (ct_X7_in l D a cA cT hI g3 (g3.1 1 ((5 : Int32) + v5).toNatClampNeg) x2 (x3 - (1 : Int32)) r43 hcal) (g_S q798 q799 q77 q800) yd_X7_in ⟨Nat.le_of_ble_eq_true rfl, Nat.le_of_ble_eq_true rfl⟩ [] rfl (Nat.le_of_ble_eq_true rfl) hl.1 ⟨Nat.le_refl _, Nat.le_refl _⟩ dX7_moveBetween_43 (fun H locs hP hS => ?_)
          refine lv_if_eq (tgt := 61) hx hb dX7_moveBetween_46 (by decide) (fun hc => ?_) (fun hc => ?_)
          · have h := ite_t hc h
            refine lv_iinc (v := (v5 + (1 : Int32))) (lv' := [(5, .int (v5 + (1 : Int32))), (0, .ref (a 0)), (1, .int x0), (2, .int x1), (3, .int x2), (4, .int x3)]) hx hb dX7_moveBetween_61 hl (k := 5) rfl rfl (by decide) rfl (fun ls hl => ?_)
            refine lv_goto (tgt := 3) hx hb dX7_moveBetween_64 (by decide) ?_
            exact ih3 (v5 + (1 : Int32)) g3 _ _ _ hP hS (lv_sub hl [1, 2, 3, 4, 5, 0] rfl) h
          · have h := ite_f hc h
            refine lv_aload_n hx hb dX7_moveBetween_49 rfl (lv_at hl 0 rfl) ?_
            refine x_getr hx hb hts inX7 hown hK hP tM_0 (C := RX7) (F := TX7) (N := 18) rfl 0 (by decide) q758 rfl 1 rfl dX7_moveBetween_50 ?_
            refine lv_sipush (v := (805 : Int32)) hx hb dX7_moveBetween_53 (by decide) ?_
            refine lv_iload hx hb dX7_moveBetween_56 (lv_at hl 5 rfl) ?_
            refine lv_iadd hx hb dX7_moveBetween_58 ?_
            refine lv_iload_n hx hb dX7_moveBetween_59 rfl (lv_at hl 2 rfl) ?_
            obtain ⟨hz, h⟩ := ite_n h
            refine x_ast hx hb hK hI hP hS tM_1 hz dX7_moveBetween_60 (fun H locs hP hS => ?_)
            refine lv_iinc (v := (v5 + (1 : Int32))) (lv' := [(5, .int (v5 + (1 : Int32))), (0, .ref (a 0)), (1, .int x0), (2, .int x1), (3, .int x2), (4, .int x3)]) hx hb dX7_moveBetween_61 hl (k := 5) rfl rfl (by decide) rfl (fun ls hl => ?_)
            refine lv_goto (tgt := 3) hx hb dX7_moveBetween_64 (by decide) ?_
            exact ih3 (v5 + (1 : Int32)) (g_w g3 1 ((805 : Int32) + v5).toNatClampNeg x1) _ _ _ hP hS (lv_sub hl [1, 2, 3, 4, 5, 0] rfl) h
  exact K3 fuelN (0 : Int32) g _ _ _ hP hS (lv_sub hl [1, 2, 3, 4, 5, 0] rfl) h
set_option maxHeartbeats 4000000 in
set_option maxRecDepth 100000 in
theorem ct_X7_cutSlice (l : Launch) (D : va_G) (a : Nat → Nat) (cA cT : ClassId) (hI : WI a TM) (g : MG) (x0 : Int32) (x1 : Int32)  (r : Int32) (g' : MG) (h : m_X7_cutSlice g x0 x1 = some (r, g')) :
    CtI l D a cA cT TM yX7_cutSlice (Cond.code yX7_cutSlice cX7_cutSlice 4 (some .int) :: lw_all) (rmm 0 0) [.ref (a 0), .int x0, .int x1] g r g' := by
  refine CtI.of (by decide +kernel) (Nat.le_of_ble_eq_true rfl) ?_
  intro p e s m args below meth c Q ls hx hb hml hown hts hK hP hS hl hend
  have hl : lv_has ls 4 [(0, .ref (a 0)), (1, .int x0), (2, .int x1)] := hl
  unfold m_X7_cutSlice at h
  refine lv_aload_n hx hb dX7_cutSlice_0 rfl (lv_at hl 0 rfl) ?_
  refine x_getr hx hb hts inX7 hown hK hP tM_0 (C := RX7) (F := TX7) (N := 18) rfl 0 (by decide) q758 rfl 1 rfl dX7_cutSlice_1 ?_
  refine lv_iconst (v := (1 : Int32)) hx hb dX7_cutSlice_4 (by decide) ?_
  obtain ⟨hz, h⟩ := ite_n h
  refine x_ald hx hb hK hP tM_1 hz dX7_cutSlice_5 ?_
  refine lv_istore_n (lv' := [(3, .int (g.1 1 (1 : Int32).toNatClampNeg)), (0, .ref (a 0)), (1, .int x0), (2, .int x1)]) hx hb dX7_cutSlice_6 rfl hl (by decide) rfl (fun ls hl => ?_)
  refine lv_aload_n hx hb dX7_cutSlice_7 rfl (lv_at hl 1 rfl) ?_
  refine x_getr hx hb hts inX7 hown hK hP tM_0 (C := RX7) (F := TX7) (N := 18) rfl 0 (by decide) q758 rfl 1 rfl dX7_cutSlice_8 ?_
  refine lv_iconst (v := (1 : Int32)) hx hb dX7_cutSlice_11 (by decide) ?_
  refine lv_dup2_11 hx hb dX7_cutSlice_12 rfl rfl ?_
  obtain ⟨hz, h⟩ := ite_n h
  refine x_ald hx hb hK hP tM_1 hz dX7_cutSlice_13 ?_
  refine lv_iconst (v := (1 : Int32)) hx hb dX7_cutSlice_14 (by decide) ?_
  refine lv_iadd hx hb dX7_cutSlice_15 ?_
  obtain ⟨hz, h⟩ := ite_n h
  refine x_ast hx hb hK hI hP hS tM_1 hz dX7_cutSlice_16 (fun H locs hP hS => ?_)
  refine lv_aload_n hx hb dX7_cutSlice_17 rfl (lv_at hl 1 rfl) ?_
  refine x_getr hx hb hts inX7 hown hK hP tM_0 (C := RX7) (F := TX7) (N := 18) rfl 0 (by decide) q758 rfl 1 rfl dX7_cutSlice_18 ?_
  refine lv_sipush (v := (1205 : Int32)) hx hb dX7_cutSlice_21 (by decide) ?_
  refine lv_iload_n hx hb dX7_cutSlice_24 rfl (lv_at hl 0 rfl) ?_
  refine lv_iadd hx hb dX7_cutSlice_25 ?_
  refine lv_iconst (v := (1 : Int32)) hx hb dX7_cutSlice_26 (by decide) ?_
  obtain ⟨hz, h⟩ := ite_n h
  refine x_ast hx hb hK hI hP hS tM_1 hz dX7_cutSlice_27 (fun H locs hP hS => ?_)
  refine lv_aload_n hx hb dX7_cutSlice_28 rfl (lv_at hl 1 rfl) ?_
  refine x_getr hx hb hts inX7 hown hK hP tM_0 (C := RX7) (F := TX7) (N := 18) rfl 0 (by decide) q758 rfl 1 rfl dX7_cutSlice_29 ?_
  refine lv_sipush (v := (1265 : Int32)) hx hb dX7_cutSlice_32 (by decide) ?_
  refine lv_iload_n hx hb dX7_cutSlice_35 rfl (lv_at hl 0 rfl) ?_
  refine lv_iadd hx hb dX7_cutSlice_36 ?_
  refine lv_iload_n hx hb dX7_cutSlice_37 rfl (lv_at hl 2 rfl) ?_
  obtain ⟨hz, h⟩ := ite_n h
  refine x_ast hx hb hK hI hP hS tM_1 hz dX7_cutSlice_38 (fun H locs hP hS => ?_)
  refine lv_aload_n hx hb dX7_cutSlice_39 rfl (lv_at hl 1 rfl) ?_
  refine x_getr hx hb hts inX7 hown hK hP tM_0 (C := RX7) (F := TX7) (N := 18) rfl 0 (by decide) q758 rfl 1 rfl dX7_cutSlice_40 ?_
  refine lv_sipush (v := (1325 : Int32)) hx hb dX7_cutSlice_43 (by decide) ?_
  refine lv_iload_n hx hb dX7_cutSlice_46 rfl (lv_at hl 0 rfl) ?_
  refine lv_iadd hx hb dX7_cutSlice_47 ?_
  refine lv_iload_n hx hb dX7_cutSlice_48 rfl (lv_at hl 3 rfl) ?_
  obtain ⟨hz, h⟩ := ite_n h
  refine x_ast hx hb hK hI hP hS tM_1 hz dX7_cutSlice_49 (fun H locs hP hS => ?_)
  refine lv_iload_n hx hb dX7_cutSlice_50 rfl (lv_at hl 0 rfl) ?_
  obtain ⟨rfl, rfl⟩ := Prod.mk.inj (Option.some.inj h)
  exact hend _ _ _ _ dX7_cutSlice_51 rfl hP hS
set_option maxHeartbeats 4000000 in
set_option maxRecDepth 100000 in
theorem ct_X7_addRow (l : Launch) (D : va_G) (a : Nat → Nat) (cA cT : ClassId) (hI : WI a TM) (g : MG) (x0 : Int32) (x1 : Int32) (x2 : Int32)  (r : Int32) (g' : MG) (h : m_X7_addRow g x0 x1 x2 = some (r, g')) :
    CtI l D a cA cT TM yX7_addRow (Cond.code yX7_addRow cX7_addRow 5 (some .int) :: lw_all) (rmm 0 0) [.ref (a 0), .int x0, .int x1, .int x2] g r g' := by
  refine CtI.of (by decide +kernel) (Nat.le_of_ble_eq_true rfl) ?_
  intro p e s m args below meth c Q ls hx hb hml hown hts hK hP hS hl hend
  have hl : lv_has ls 5 [(0, .ref (a 0)), (1, .int x0), (2, .int x1), (3, .int x2)] := hl
  unfold m_X7_addRow at h
  refine lv_aload_n hx hb dX7_addRow_0 rfl (lv_at hl 0 rfl) ?_
  refine x_getr hx hb hts inX7 hown hK hP tM_0 (C := RX7) (F := TX7) (N := 18) rfl 0 (by decide) q758 rfl 1 rfl dX7_addRow_1 ?_
  refine lv_iconst (v := (0 : Int32)) hx hb dX7_addRow_4 (by decide) ?_
  obtain ⟨hz, h⟩ := ite_n h
  refine x_ald hx hb hK hP tM_1 hz dX7_addRow_5 ?_
  refine lv_istore (lv' := [(4, .int (g.1 1 (0 : Int32).toNatClampNeg)), (0, .ref (a 0)), (1, .int x0), (2, .int x1), (3, .int x2)]) hx hb dX7_addRow_6 hl (by decide) rfl (fun ls hl => ?_)
  refine lv_aload_n hx hb dX7_addRow_8 rfl (lv_at hl 1 rfl) ?_
  refine x_getr hx hb hts inX7 hown hK hP tM_0 (C := RX7) (F := TX7) (N := 18) rfl 0 (by decide) q758 rfl 1 rfl dX7_addRow_9 ?_
  refine lv_iconst (v := (0 : Int32)) hx hb dX7_addRow_12 (by decide) ?_
  refine lv_dup2_11 hx hb dX7_addRow_13 rfl rfl ?_
  obtain ⟨hz, h⟩ := ite_n h
  refine x_ald hx hb hK hP tM_1 hz dX7_addRow_14 ?_
  refine lv_iconst (v := (1 : Int32)) hx hb dX7_addRow_15 (by decide) ?_
  refine lv_iadd hx hb dX7_addRow_16 ?_
  obtain ⟨hz, h⟩ := ite_n h
  refine x_ast hx hb hK hI hP hS tM_1 hz dX7_addRow_17 (fun H locs hP hS => ?_)
  refine lv_aload_n hx hb dX7_addRow_18 rfl (lv_at hl 1 rfl) ?_
  refine x_getr hx hb hts inX7 hown hK hP tM_0 (C := RX7) (F := TX7) (N := 18) rfl 0 (by decide) q758 rfl 1 rfl dX7_addRow_19 ?_
  refine lv_iconst (v := (5 : Int32)) hx hb dX7_addRow_22 (by decide) ?_
  refine lv_iload hx hb dX7_addRow_23 (lv_at hl 0 rfl) ?_
  refine lv_iadd hx hb dX7_addRow_25 ?_
  refine lv_iload_n hx hb dX7_addRow_26 rfl (lv_at hl 2 rfl) ?_
  obtain ⟨hz, h⟩ := ite_n h
  refine x_ast hx hb hK hI hP hS tM_1 hz dX7_addRow_27 (fun H locs hP hS => ?_)
  refine lv_aload_n hx hb dX7_addRow_28 rfl (lv_at hl 1 rfl) ?_
  refine x_getr hx hb hts inX7 hown hK hP tM_0 (C := RX7) (F := TX7) (N := 18) rfl 0 (by decide) q758 rfl 1 rfl dX7_addRow_29 ?_
  refine lv_sipush (v := (405 : Int32)) hx hb dX7_addRow_32 (by decide) ?_
  refine lv_iload hx hb dX7_addRow_35 (lv_at hl 0 rfl) ?_
  refine lv_iadd hx hb dX7_addRow_37 ?_
  refine lv_iload_n hx hb dX7_addRow_38 rfl (lv_at hl 3 rfl) ?_
  obtain ⟨hz, h⟩ := ite_n h
  refine x_ast hx hb hK hI hP hS tM_1 hz dX7_addRow_39 (fun H locs hP hS => ?_)
  refine lv_aload_n hx hb dX7_addRow_40 rfl (lv_at hl 1 rfl) ?_
  refine x_getr hx hb hts inX7 hown hK hP tM_0 (C := RX7) (F := TX7) (N := 18) rfl 0 (by decide) q758 rfl 1 rfl dX7_addRow_41 ?_
  refine lv_sipush (v := (805 : Int32)) hx hb dX7_addRow_44 (by decide) ?_
  refine lv_iload hx hb dX7_addRow_47 (lv_at hl 0 rfl) ?_
  refine lv_iadd hx hb dX7_addRow_49 ?_
  refine lv_iload_n hx hb dX7_addRow_50 rfl (lv_at hl 4 rfl) ?_
  obtain ⟨hz, h⟩ := ite_n h
  refine x_ast hx hb hK hI hP hS tM_1 hz dX7_addRow_51 (fun H locs hP hS => ?_)
  refine lv_iload hx hb dX7_addRow_52 (lv_at hl 0 rfl) ?_
  obtain ⟨rfl, rfl⟩ := Prod.mk.inj (Option.some.inj h)
  exact hend _ _ _ _ dX7_addRow_54 rfl hP hS
set_option maxHeartbeats 4000000 in
set_option maxRecDepth 100000 in
theorem ct_X7_put (l : Launch) (D : va_G) (a : Nat → Nat) (cA cT : ClassId) (hI : WI a TM) (g : MG) (x0 : Int32) (x1 : Int32)  (r : Int32) (g' : MG) (h : m_X7_put g x0 x1 = some (r, g')) :
    CtI l D a cA cT TM yX7_put (Cond.code yX7_put cX7_put 4 (some .int) :: lw_all) (rmm 4 88) [.ref (a 0), .int x0, .int x1] g r g' := by
  refine CtI.of (by decide +kernel) (Nat.le_of_ble_eq_true rfl) ?_
  intro p e s m args below meth c Q ls hx hb hml hown hts hK hP hS hl hend
  have hl : lv_has ls 4 [(0, .ref (a 0)), (1, .int x0), (2, .int x1)] := hl
  unfold m_X7_put at h
  refine lv_iload_n hx hb dX7_put_0 rfl (lv_at hl 1 rfl) ?_
  refine lv_iconst (v := (0 : Int32)) hx hb dX7_put_1 (by decide) ?_
  refine lv_sipush (v := (999 : Int32)) hx hb dX7_put_2 (by decide) ?_
  obtain ⟨r5, hcal, h⟩ := bnd_s h
  refine x_SI (As := [.int x0, .int (0 : Int32), .int (999 : Int32)]) hx hb hml hown hts hK hP hS (ct_X7_in l D a cA cT hI g x0 (0 : Int32) (999 : Int32) r5 hcal) (g_S q798 q799 q77 q800) yd_X7_in ⟨Nat.le_of_ble_eq_true rfl, Nat.le_of_ble_eq_true rfl⟩ [] rfl (Nat.le_of_ble_eq_true rfl) hl.1 ⟨Nat.le_refl _, Nat.le_refl _⟩ dX7_put_5 (fun H locs hP hS => ?_)
  refine lv_if_eq (tgt := 24) hx hb dX7_put_8 (by decide) (fun hc => ?_) (fun hc => ?_)
  · have h := ite_t hc h
    refine lv_sipush (v := (-1002 : Int32)) hx hb dX7_put_24 (by decide) ?_
    obtain ⟨rfl, rfl⟩ := Prod.mk.inj (Option.some.inj h)
    exact hend _ _ _ _ dX7_put_27 rfl hP hS
  · have h := ite_f hc h
    refine lv_iload_n hx hb dX7_put_11 rfl (lv_at hl 2 rfl) ?_
    refine lv_sipush (v := (-999 : Int32)) hx hb dX7_put_12 (by decide) ?_
    refine lv_sipush (v := (999 : Int32)) hx hb dX7_put_15 (by decide) ?_
    obtain ⟨r18, hcal, h⟩ := bnd_s h
    refine x_SI (As := [.int x1, .int (-999 : Int32), .int (999 : Int32)]) hx hb hml hown hts hK hP hS (ct_X7_in l D a cA cT hI g x1 (-999 : Int32) (999 : Int32) r18 hcal) (g_S q798 q799 q77 q800) yd_X7_in ⟨Nat.le_of_ble_eq_true rfl, Nat.le_of_ble_eq_true rfl⟩ [] rfl (Nat.le_of_ble_eq_true rfl) hl.1 ⟨Nat.le_refl _, Nat.le_refl _⟩ dX7_put_18 (fun H locs hP hS => ?_)
    refine lv_if_ne (tgt := 28) hx hb dX7_put_21 (by decide) (fun hc => ?_) (fun hc => ?_)
    · have h := ite_f hc h
      refine lv_aload_n hx hb dX7_put_28 rfl (lv_at hl 0 rfl) ?_
      refine lv_iload_n hx hb dX7_put_29 rfl (lv_at hl 1 rfl) ?_
      obtain ⟨r30, hcal, h⟩ := bnd_s h
      refine x_VI (As := [.int x0]) hx hb hml hown hts hK hP hS (ct_X7_belongsTo l D a cA cT hI g x0 r30 hcal) tM_0 (C := RX7) (F := TX7) (N := 18) rfl (g_V q801 q802 q34 q77 q803) yd_X7_belongsTo ⟨Nat.le_of_ble_eq_true rfl, Nat.le_of_ble_eq_true rfl⟩ [] rfl (Nat.le_of_ble_eq_true rfl) hl.1 ⟨Nat.le_refl _, Nat.le_refl _⟩ dX7_put_30 (fun H locs hP hS => ?_)
      refine lv_istore_n (lv' := [(3, .int r30), (0, .ref (a 0)), (1, .int x0), (2, .int x1)]) hx hb dX7_put_33 rfl hl (by decide) rfl (fun ls hl => ?_)
      refine lv_iload_n hx hb dX7_put_34 rfl (lv_at hl 0 rfl) ?_
      refine lv_sipush (v := (-1005 : Int32)) hx hb dX7_put_35 (by decide) ?_
      refine lv_icmp_ne (tgt := 45) hx hb dX7_put_38 (by decide) (fun hc => ?_) (fun hc => ?_)
      · have h := ite_f hc h
        refine lv_aload_n hx hb dX7_put_45 rfl (lv_at hl 1 rfl) ?_
        refine x_getr hx hb hts inX7 hown hK hP tM_0 (C := RX7) (F := TX7) (N := 18) rfl 0 (by decide) q758 rfl 1 rfl dX7_put_46 ?_
        refine lv_iconst (v := (0 : Int32)) hx hb dX7_put_49 (by decide) ?_
        obtain ⟨hz, h⟩ := ite_n h
        refine x_ald hx hb hK hP tM_1 hz dX7_put_50 ?_
        refine lv_sipush (v := (400 : Int32)) hx hb dX7_put_51 (by decide) ?_
        refine lv_icmp_eq (tgt := 67) hx hb dX7_put_54 (by decide) (fun hc => ?_) (fun hc => ?_)
        · have h := ite_t hc h
          refine lv_sipush (v := (-1003 : Int32)) hx hb dX7_put_67 (by decide) ?_
          obtain ⟨rfl, rfl⟩ := Prod.mk.inj (Option.some.inj h)
          exact hend _ _ _ _ dX7_put_70 rfl hP hS
        · have h := ite_f hc h
          refine lv_aload_n hx hb dX7_put_57 rfl (lv_at hl 1 rfl) ?_
          refine lv_iload_n hx hb dX7_put_58 rfl (lv_at hl 0 rfl) ?_
          obtain ⟨r59, hcal, h⟩ := bnd_s h
          refine x_VI (As := [.int r30]) hx hb hml hown hts hK hP hS (ct_X7_rowsIn l D a cA cT hI g r30 r59 hcal) tM_0 (C := RX7) (F := TX7) (N := 18) rfl (g_V q813 q814 q38 q77 q815) yd_X7_rowsIn ⟨Nat.le_of_ble_eq_true rfl, Nat.le_of_ble_eq_true rfl⟩ [] rfl (Nat.le_of_ble_eq_true rfl) hl.1 ⟨Nat.le_refl _, Nat.le_refl _⟩ dX7_put_59 (fun H locs hP hS => ?_)
          refine lv_bipush (v := (30 : Int32)) hx hb dX7_put_62 (by decide) ?_
          refine lv_icmp_lt (tgt := 71) hx hb dX7_put_64 (by decide) (fun hc => ?_) (fun hc => ?_)
          · have h := ite_t hc h
            refine lv_aload_n hx hb dX7_put_71 rfl (lv_at hl 1 rfl) ?_
            obtain ⟨g72, hcal, h⟩ := bnd_s h
            refine x_VV (As := []) hx hb hml hown hts hK hP hS (ct_X7_record l D a cA cT hI g g72 hcal) tM_0 (C := RX7) (F := TX7) (N := 18) rfl (g_V q816 q817 q39 q77 q818) yd_X7_record ⟨Nat.le_of_ble_eq_true rfl, Nat.le_of_ble_eq_true rfl⟩ [] rfl (Nat.le_of_ble_eq_true rfl) hl.1 ⟨Nat.le_refl _, Nat.le_refl _⟩ dX7_put_72 (fun H locs hP hS => ?_)
            refine lv_aload_n hx hb dX7_put_75 rfl (lv_at hl 1 rfl) ?_
            refine lv_iload_n hx hb dX7_put_76 rfl (lv_at hl 2 rfl) ?_
            refine lv_iload_n hx hb dX7_put_77 rfl (lv_at hl 3 rfl) ?_
            refine lv_iload_n hx hb dX7_put_78 rfl (lv_at hl 0 rfl) ?_
            obtain ⟨r79, g79, hcal, h⟩ := bnd2_s h
            refine x_VI (As := [.int x0, .int x1, .int r30]) hx hb hml hown hts hK hP hS (ct_X7_addRow l D a cA cT hI g72 x0 x1 r30 r79 g79 hcal) tM_0 (C := RX7) (F := TX7) (N := 18) rfl (g_V q819 q820 q40 q77 q821) yd_X7_addRow ⟨Nat.le_of_ble_eq_true rfl, Nat.le_of_ble_eq_true rfl⟩ [] rfl (Nat.le_of_ble_eq_true rfl) hl.1 ⟨Nat.le_refl _, Nat.le_refl _⟩ dX7_put_79 (fun H locs hP hS => ?_)
            obtain ⟨rfl, rfl⟩ := Prod.mk.inj (Option.some.inj h)
            exact hend _ _ _ _ dX7_put_82 rfl hP hS
          · have h := ite_f hc h
            refine lv_sipush (v := (-1003 : Int32)) hx hb dX7_put_67 (by decide) ?_
            obtain ⟨rfl, rfl⟩ := Prod.mk.inj (Option.some.inj h)
            exact hend _ _ _ _ dX7_put_70 rfl hP hS
      · have h := ite_t hc h
        refine lv_sipush (v := (-1004 : Int32)) hx hb dX7_put_41 (by decide) ?_
        obtain ⟨rfl, rfl⟩ := Prod.mk.inj (Option.some.inj h)
        exact hend _ _ _ _ dX7_put_44 rfl hP hS
    · have h := ite_t hc h
      refine lv_sipush (v := (-1002 : Int32)) hx hb dX7_put_24 (by decide) ?_
      obtain ⟨rfl, rfl⟩ := Prod.mk.inj (Option.some.inj h)
      exact hend _ _ _ _ dX7_put_27 rfl hP hS
set_option maxHeartbeats 4000000 in
set_option maxRecDepth 100000 in
theorem ct_X7_stage (l : Launch) (D : va_G) (a : Nat → Nat) (cA cT : ClassId) (hI : WI a TM) (g : MG) (x0 : Int32) (x1 : Int32)  (r : Int32) (g' : MG) (h : m_X7_stage g x0 x1 = some (r, g')) :
    CtI l D a cA cT TM yX7_stage (Cond.code yX7_stage cX7_stage 3 (some .int) :: lw_all) (rmm 1 24) [.ref (a 0), .int x0, .int x1] g r g' := by
  refine CtI.of (by decide +kernel) (Nat.le_of_ble_eq_true rfl) ?_
  intro p e s m args below meth c Q ls hx hb hml hown hts hK hP hS hl hend
  have hl : lv_has ls 3 [(0, .ref (a 0)), (1, .int x0), (2, .int x1)] := hl
  unfold m_X7_stage at h
  refine lv_iload_n hx hb dX7_stage_0 rfl (lv_at hl 1 rfl) ?_
  refine lv_iconst (v := (0 : Int32)) hx hb dX7_stage_1 (by decide) ?_
  refine lv_sipush (v := (999 : Int32)) hx hb dX7_stage_2 (by decide) ?_
  obtain ⟨r5, hcal, h⟩ := bnd_s h
  refine x_SI (As := [.int x0, .int (0 : Int32), .int (999 : Int32)]) hx hb hml hown hts hK hP hS (ct_X7_in l D a cA cT hI g x0 (0 : Int32) (999 : Int32) r5 hcal) (g_S q798 q799 q77 q800) yd_X7_in ⟨Nat.le_of_ble_eq_true rfl, Nat.le_of_ble_eq_true rfl⟩ [] rfl (Nat.le_of_ble_eq_true rfl) hl.1 ⟨Nat.le_refl _, Nat.le_refl _⟩ dX7_stage_5 (fun H locs hP hS => ?_)
  refine lv_if_eq (tgt := 24) hx hb dX7_stage_8 (by decide) (fun hc => ?_) (fun hc => ?_)
  · have h := ite_t hc h
    refine lv_sipush (v := (-1002 : Int32)) hx hb dX7_stage_24 (by decide) ?_
    obtain ⟨rfl, rfl⟩ := Prod.mk.inj (Option.some.inj h)
    exact hend _ _ _ _ dX7_stage_27 rfl hP hS
  · have h := ite_f hc h
    refine lv_iload_n hx hb dX7_stage_11 rfl (lv_at hl 2 rfl) ?_
    refine lv_sipush (v := (-999 : Int32)) hx hb dX7_stage_12 (by decide) ?_
    refine lv_sipush (v := (999 : Int32)) hx hb dX7_stage_15 (by decide) ?_
    obtain ⟨r18, hcal, h⟩ := bnd_s h
    refine x_SI (As := [.int x1, .int (-999 : Int32), .int (999 : Int32)]) hx hb hml hown hts hK hP hS (ct_X7_in l D a cA cT hI g x1 (-999 : Int32) (999 : Int32) r18 hcal) (g_S q798 q799 q77 q800) yd_X7_in ⟨Nat.le_of_ble_eq_true rfl, Nat.le_of_ble_eq_true rfl⟩ [] rfl (Nat.le_of_ble_eq_true rfl) hl.1 ⟨Nat.le_refl _, Nat.le_refl _⟩ dX7_stage_18 (fun H locs hP hS => ?_)
    refine lv_if_ne (tgt := 28) hx hb dX7_stage_21 (by decide) (fun hc => ?_) (fun hc => ?_)
    · have h := ite_f hc h
      refine lv_aload_n hx hb dX7_stage_28 rfl (lv_at hl 0 rfl) ?_
      refine x_getr hx hb hts inX7 hown hK hP tM_0 (C := RX7) (F := TX7) (N := 18) rfl 0 (by decide) q758 rfl 1 rfl dX7_stage_29 ?_
      refine lv_iconst (v := (0 : Int32)) hx hb dX7_stage_32 (by decide) ?_
      obtain ⟨hz, h⟩ := ite_n h
      refine x_ald hx hb hK hP tM_1 hz dX7_stage_33 ?_
      refine lv_sipush (v := (400 : Int32)) hx hb dX7_stage_34 (by decide) ?_
      refine lv_icmp_eq (tgt := 51) hx hb dX7_stage_37 (by decide) (fun hc => ?_) (fun hc => ?_)
      · have h := ite_t hc h
        refine lv_sipush (v := (-1003 : Int32)) hx hb dX7_stage_51 (by decide) ?_
        obtain ⟨rfl, rfl⟩ := Prod.mk.inj (Option.some.inj h)
        exact hend _ _ _ _ dX7_stage_54 rfl hP hS
      · have h := ite_f hc h
        refine lv_aload_n hx hb dX7_stage_40 rfl (lv_at hl 0 rfl) ?_
        refine lv_bipush (v := (61 : Int32)) hx hb dX7_stage_41 (by decide) ?_
        obtain ⟨r43, hcal, h⟩ := bnd_s h
        refine x_VI (As := [.int (61 : Int32)]) hx hb hml hown hts hK hP hS (ct_X7_rowsIn l D a cA cT hI g (61 : Int32) r43 hcal) tM_0 (C := RX7) (F := TX7) (N := 18) rfl (g_V q813 q814 q38 q77 q815) yd_X7_rowsIn ⟨Nat.le_of_ble_eq_true rfl, Nat.le_of_ble_eq_true rfl⟩ [] rfl (Nat.le_of_ble_eq_true rfl) hl.1 ⟨Nat.le_refl _, Nat.le_refl _⟩ dX7_stage_43 (fun H locs hP hS => ?_)
        refine lv_bipush (v := (20 : Int32)) hx hb dX7_stage_46 (by decide) ?_
        refine lv_icmp_ne (tgt := 55) hx hb dX7_stage_48 (by decide) (fun hc => ?_) (fun hc => ?_)
        · have h := ite_f hc h
          refine lv_aload_n hx hb dX7_stage_55 rfl (lv_at hl 0 rfl) ?_
          obtain ⟨g56, hcal, h⟩ := bnd_s h
          refine x_VV (As := []) hx hb hml hown hts hK hP hS (ct_X7_record l D a cA cT hI g g56 hcal) tM_0 (C := RX7) (F := TX7) (N := 18) rfl (g_V q816 q817 q39 q77 q818) yd_X7_record ⟨Nat.le_of_ble_eq_true rfl, Nat.le_of_ble_eq_true rfl⟩ [] rfl (Nat.le_of_ble_eq_true rfl) hl.1 ⟨Nat.le_refl _, Nat.le_refl _⟩ dX7_stage_56 (fun H locs hP hS => ?_)
          refine lv_aload_n hx hb dX7_stage_59 rfl (lv_at hl 0 rfl) ?_
          refine lv_iload_n hx hb dX7_stage_60 rfl (lv_at hl 1 rfl) ?_
          refine lv_iload_n hx hb dX7_stage_61 rfl (lv_at hl 2 rfl) ?_
          refine lv_bipush (v := (61 : Int32)) hx hb dX7_stage_62 (by decide) ?_
          obtain ⟨r64, g64, hcal, h⟩ := bnd2_s h
          refine x_VI (As := [.int x0, .int x1, .int (61 : Int32)]) hx hb hml hown hts hK hP hS (ct_X7_addRow l D a cA cT hI g56 x0 x1 (61 : Int32) r64 g64 hcal) tM_0 (C := RX7) (F := TX7) (N := 18) rfl (g_V q819 q820 q40 q77 q821) yd_X7_addRow ⟨Nat.le_of_ble_eq_true rfl, Nat.le_of_ble_eq_true rfl⟩ [] rfl (Nat.le_of_ble_eq_true rfl) hl.1 ⟨Nat.le_refl _, Nat.le_refl _⟩ dX7_stage_64 (fun H locs hP hS => ?_)
          obtain ⟨rfl, rfl⟩ := Prod.mk.inj (Option.some.inj h)
          exact hend _ _ _ _ dX7_stage_67 rfl hP hS
        · have h := ite_t hc h
          refine lv_sipush (v := (-1003 : Int32)) hx hb dX7_stage_51 (by decide) ?_
          obtain ⟨rfl, rfl⟩ := Prod.mk.inj (Option.some.inj h)
          exact hend _ _ _ _ dX7_stage_54 rfl hP hS
    · have h := ite_t hc h
      refine lv_sipush (v := (-1002 : Int32)) hx hb dX7_stage_24 (by decide) ?_
      obtain ⟨rfl, rfl⟩ := Prod.mk.inj (Option.some.inj h)
      exact hend _ _ _ _ dX7_stage_27 rfl hP hS
set_option maxHeartbeats 4000000 in
set_option maxRecDepth 100000 in
theorem ct_X7_take (l : Launch) (D : va_G) (a : Nat → Nat) (cA cT : ClassId) (hI : WI a TM) (g : MG) (x0 : Int32)  (r : Int32) (g' : MG) (h : m_X7_take g x0 = some (r, g')) :
    CtI l D a cA cT TM yX7_take (Cond.code yX7_take cX7_take 2 (some .int) :: lw_all) (rmm 2 43) [.ref (a 0), .int x0] g r g' := by
  refine CtI.of (by decide +kernel) (Nat.le_of_ble_eq_true rfl) ?_
  intro p e s m args below meth c Q ls hx hb hml hown hts hK hP hS hl hend
  have hl : lv_has ls 2 [(0, .ref (a 0)), (1, .int x0)] := hl
  unfold m_X7_take at h
  refine lv_aload_n hx hb dX7_take_0 rfl (lv_at hl 0 rfl) ?_
  refine lv_iload_n hx hb dX7_take_1 rfl (lv_at hl 1 rfl) ?_
  obtain ⟨r2, hcal, h⟩ := bnd_s h
  refine x_VI (As := [.int x0]) hx hb hml hown hts hK hP hS (ct_X7_isRow l D a cA cT hI g x0 r2 hcal) tM_0 (C := RX7) (F := TX7) (N := 18) rfl (g_V q830 q831 q41 q77 q832) yd_X7_isRow ⟨Nat.le_of_ble_eq_true rfl, Nat.le_of_ble_eq_true rfl⟩ [] rfl (Nat.le_of_ble_eq_true rfl) hl.1 ⟨Nat.le_refl _, Nat.le_refl _⟩ dX7_take_2 (fun H locs hP hS => ?_)
  refine lv_if_ne (tgt := 12) hx hb dX7_take_5 (by decide) (fun hc => ?_) (fun hc => ?_)
  · have h := ite_f hc h
    refine lv_aload_n hx hb dX7_take_12 rfl (lv_at hl 0 rfl) ?_
    obtain ⟨g13, hcal, h⟩ := bnd_s h
    refine x_VV (As := []) hx hb hml hown hts hK hP hS (ct_X7_record l D a cA cT hI g g13 hcal) tM_0 (C := RX7) (F := TX7) (N := 18) rfl (g_V q816 q817 q39 q77 q818) yd_X7_record ⟨Nat.le_of_ble_eq_true rfl, Nat.le_of_ble_eq_true rfl⟩ [] rfl (Nat.le_of_ble_eq_true rfl) hl.1 ⟨Nat.le_refl _, Nat.le_refl _⟩ dX7_take_13 (fun H locs hP hS => ?_)
    refine lv_aload_n hx hb dX7_take_16 rfl (lv_at hl 0 rfl) ?_
    refine x_getr hx hb hts inX7 hown hK hP tM_0 (C := RX7) (F := TX7) (N := 18) rfl 0 (by decide) q758 rfl 1 rfl dX7_take_17 ?_
    refine lv_sipush (v := (805 : Int32)) hx hb dX7_take_20 (by decide) ?_
    refine lv_iload_n hx hb dX7_take_23 rfl (lv_at hl 1 rfl) ?_
    refine lv_iadd hx hb dX7_take_24 ?_
    refine lv_iconst (v := (-1 : Int32)) hx hb dX7_take_25 (by decide) ?_
    obtain ⟨hz, h⟩ := ite_n h
    refine x_ast hx hb hK hI hP hS tM_1 hz dX7_take_26 (fun H locs hP hS => ?_)
    refine lv_aload_n hx hb dX7_take_27 rfl (lv_at hl 0 rfl) ?_
    refine x_getr hx hb hts inX7 hown hK hP tM_0 (C := RX7) (F := TX7) (N := 18) rfl 0 (by decide) q758 rfl 1 rfl dX7_take_28 ?_
    refine lv_iconst (v := (5 : Int32)) hx hb dX7_take_31 (by decide) ?_
    refine lv_iload_n hx hb dX7_take_32 rfl (lv_at hl 1 rfl) ?_
    refine lv_iadd hx hb dX7_take_33 ?_
    obtain ⟨hz, h⟩ := ite_n h
    refine x_ald hx hb hK hP tM_1 hz dX7_take_34 ?_
    obtain ⟨rfl, rfl⟩ := Prod.mk.inj (Option.some.inj h)
    exact hend _ _ _ _ dX7_take_35 rfl hP hS
  · have h := ite_t hc h
    refine lv_sipush (v := (-1001 : Int32)) hx hb dX7_take_8 (by decide) ?_
    obtain ⟨rfl, rfl⟩ := Prod.mk.inj (Option.some.inj h)
    exact hend _ _ _ _ dX7_take_11 rfl hP hS
set_option maxHeartbeats 4000000 in
set_option maxRecDepth 100000 in
theorem ct_X7_rekey (l : Launch) (D : va_G) (a : Nat → Nat) (cA cT : ClassId) (hI : WI a TM) (g : MG) (x0 : Int32) (x1 : Int32)  (r : Int32) (g' : MG) (h : m_X7_rekey g x0 x1 = some (r, g')) :
    CtI l D a cA cT TM yX7_rekey (Cond.code yX7_rekey cX7_rekey 6 (some .int) :: lw_all) (rmm 4 88) [.ref (a 0), .int x0, .int x1] g r g' := by
  refine CtI.of (by decide +kernel) (Nat.le_of_ble_eq_true rfl) ?_
  intro p e s m args below meth c Q ls hx hb hml hown hts hK hP hS hl hend
  have hl : lv_has ls 6 [(0, .ref (a 0)), (1, .int x0), (2, .int x1)] := hl
  unfold m_X7_rekey at h
  refine lv_aload_n hx hb dX7_rekey_0 rfl (lv_at hl 0 rfl) ?_
  refine lv_iload_n hx hb dX7_rekey_1 rfl (lv_at hl 1 rfl) ?_
  obtain ⟨r2, hcal, h⟩ := bnd_s h
  refine x_VI (As := [.int x0]) hx hb hml hown hts hK hP hS (ct_X7_isRow l D a cA cT hI g x0 r2 hcal) tM_0 (C := RX7) (F := TX7) (N := 18) rfl (g_V q830 q831 q41 q77 q832) yd_X7_isRow ⟨Nat.le_of_ble_eq_true rfl, Nat.le_of_ble_eq_true rfl⟩ [] rfl (Nat.le_of_ble_eq_true rfl) hl.1 ⟨Nat.le_refl _, Nat.le_refl _⟩ dX7_rekey_2 (fun H locs hP hS => ?_)
  refine lv_if_ne (tgt := 12) hx hb dX7_rekey_5 (by decide) (fun hc => ?_) (fun hc => ?_)
  · have h := ite_f hc h
    refine lv_iload_n hx hb dX7_rekey_12 rfl (lv_at hl 2 rfl) ?_
    refine lv_iconst (v := (0 : Int32)) hx hb dX7_rekey_13 (by decide) ?_
    refine lv_sipush (v := (999 : Int32)) hx hb dX7_rekey_14 (by decide) ?_
    obtain ⟨r17, hcal, h⟩ := bnd_s h
    refine x_SI (As := [.int x1, .int (0 : Int32), .int (999 : Int32)]) hx hb hml hown hts hK hP hS (ct_X7_in l D a cA cT hI g x1 (0 : Int32) (999 : Int32) r17 hcal) (g_S q798 q799 q77 q800) yd_X7_in ⟨Nat.le_of_ble_eq_true rfl, Nat.le_of_ble_eq_true rfl⟩ [] rfl (Nat.le_of_ble_eq_true rfl) hl.1 ⟨Nat.le_refl _, Nat.le_refl _⟩ dX7_rekey_17 (fun H locs hP hS => ?_)
    refine lv_if_ne (tgt := 27) hx hb dX7_rekey_20 (by decide) (fun hc => ?_) (fun hc => ?_)
    · have h := ite_f hc h
      refine lv_aload_n hx hb dX7_rekey_27 rfl (lv_at hl 0 rfl) ?_
      refine x_getr hx hb hts inX7 hown hK hP tM_0 (C := RX7) (F := TX7) (N := 18) rfl 0 (by decide) q758 rfl 1 rfl dX7_rekey_28 ?_
      refine lv_iconst (v := (5 : Int32)) hx hb dX7_rekey_31 (by decide) ?_
      refine lv_iload_n hx hb dX7_rekey_32 rfl (lv_at hl 1 rfl) ?_
      refine lv_iadd hx hb dX7_rekey_33 ?_
      obtain ⟨hz, h⟩ := ite_n h
      refine x_ald hx hb hK hP tM_1 hz dX7_rekey_34 ?_
      refine lv_istore_n (lv' := [(3, .int (g.1 1 ((5 : Int32) + x0).toNatClampNeg)), (0, .ref (a 0)), (1, .int x0), (2, .int x1)]) hx hb dX7_rekey_35 rfl hl (by decide) rfl (fun ls hl => ?_)
      refine lv_iload_n hx hb dX7_rekey_36 rfl (lv_at hl 0 rfl) ?_
      refine lv_iload_n hx hb dX7_rekey_37 rfl (lv_at hl 3 rfl) ?_
      refine lv_icmp_ne (tgt := 45) hx hb dX7_rekey_38 (by decide) (fun hc => ?_) (fun hc => ?_)
      · have h := ite_f hc h
        refine lv_aload_n hx hb dX7_rekey_45 rfl (lv_at hl 1 rfl) ?_
        refine x_getr hx hb hts inX7 hown hK hP tM_0 (C := RX7) (F := TX7) (N := 18) rfl 0 (by decide) q758 rfl 1 rfl dX7_rekey_46 ?_
        refine lv_sipush (v := (805 : Int32)) hx hb dX7_rekey_49 (by decide) ?_
        refine lv_iload_n hx hb dX7_rekey_52 rfl (lv_at hl 2 rfl) ?_
        refine lv_iadd hx hb dX7_rekey_53 ?_
        obtain ⟨hz, h⟩ := ite_n h
        refine x_ald hx hb hK hP tM_1 hz dX7_rekey_54 ?_
        refine lv_istore (lv' := [(4, .int (g.1 1 ((805 : Int32) + x0).toNatClampNeg)), (3, .int (g.1 1 ((5 : Int32) + x0).toNatClampNeg)), (0, .ref (a 0)), (1, .int x0), (2, .int x1)]) hx hb dX7_rekey_55 hl (by decide) rfl (fun ls hl => ?_)
        refine lv_iload hx hb dX7_rekey_57 (lv_at hl 0 rfl) ?_
        refine lv_bipush (v := (61 : Int32)) hx hb dX7_rekey_59 (by decide) ?_
        refine lv_icmp_ne (tgt := 69) hx hb dX7_rekey_61 (by decide) (fun hc => ?_) (fun hc => ?_)
        · have h := ite_f hc h
          refine lv_aload_n hx hb dX7_rekey_69 rfl (lv_at hl 2 rfl) ?_
          refine lv_iload_n hx hb dX7_rekey_70 rfl (lv_at hl 4 rfl) ?_
          obtain ⟨r71, hcal, h⟩ := bnd_s h
          refine x_VI (As := [.int x1]) hx hb hml hown hts hK hP hS (ct_X7_belongsTo l D a cA cT hI g x1 r71 hcal) tM_0 (C := RX7) (F := TX7) (N := 18) rfl (g_V q801 q802 q34 q77 q803) yd_X7_belongsTo ⟨Nat.le_of_ble_eq_true rfl, Nat.le_of_ble_eq_true rfl⟩ [] rfl (Nat.le_of_ble_eq_true rfl) hl.1 ⟨Nat.le_refl _, Nat.le_refl _⟩ dX7_rekey_71 (fun H locs hP hS => ?_)
          refine lv_istore (lv' := [(5, .int r71), (4, .int (g.1 1 ((805 : Int32) + x0).toNatClampNeg)), (3, .int (g.1 1 ((5 : Int32) + x0).toNatClampNeg)), (0, .ref (a 0)), (1, .int x0), (2, .int x1)]) hx hb dX7_rekey_74 hl (by decide) rfl (fun ls hl => ?_)
          refine lv_iload hx hb dX7_rekey_76 (lv_at hl 0 rfl) ?_
          refine lv_sipush (v := (-1005 : Int32)) hx hb dX7_rekey_78 (by decide) ?_
          refine lv_icmp_ne (tgt := 88) hx hb dX7_rekey_81 (by decide) (fun hc => ?_) (fun hc => ?_)
          · have h := ite_f hc h
            refine lv_iload hx hb dX7_rekey_88 (lv_at hl 0 rfl) ?_
            refine lv_iload hx hb dX7_rekey_90 (lv_at hl 1 rfl) ?_
            refine lv_icmp_eq (tgt := 110) hx hb dX7_rekey_92 (by decide) (fun hc => ?_) (fun hc => ?_)
            · have h := ite_t hc h
              refine lv_aload_n hx hb dX7_rekey_110 rfl (lv_at hl 3 rfl) ?_
              obtain ⟨g111, hcal, h⟩ := bnd_s h
              refine x_VV (As := []) hx hb hml hown hts hK hP hS (ct_X7_record l D a cA cT hI g g111 hcal) tM_0 (C := RX7) (F := TX7) (N := 18) rfl (g_V q816 q817 q39 q77 q818) yd_X7_record ⟨Nat.le_of_ble_eq_true rfl, Nat.le_of_ble_eq_true rfl⟩ [] rfl (Nat.le_of_ble_eq_true rfl) hl.1 ⟨Nat.le_refl _, Nat.le_refl _⟩ dX7_rekey_111 (fun H locs hP hS => ?_)
              refine lv_aload_n hx hb dX7_rekey_114 rfl (lv_at hl 3 rfl) ?_
              refine x_getr hx hb hts inX7 hown hK hP tM_0 (C := RX7) (F := TX7) (N := 18) rfl 0 (by decide) q758 rfl 1 rfl dX7_rekey_115 ?_
              refine lv_iconst (v := (5 : Int32)) hx hb dX7_rekey_118 (by decide) ?_
              refine lv_iload_n hx hb dX7_rekey_119 rfl (lv_at hl 4 rfl) ?_
              refine lv_iadd hx hb dX7_rekey_120 ?_
              refine lv_iload_n hx hb dX7_rekey_121 rfl (lv_at hl 5 rfl) ?_
              obtain ⟨hz, h⟩ := ite_n h
              refine x_ast hx hb hK hI hP hS tM_1 hz dX7_rekey_122 (fun H locs hP hS => ?_)
              refine lv_aload_n hx hb dX7_rekey_123 rfl (lv_at hl 3 rfl) ?_
              refine x_getr hx hb hts inX7 hown hK hP tM_0 (C := RX7) (F := TX7) (N := 18) rfl 0 (by decide) q758 rfl 1 rfl dX7_rekey_124 ?_
              refine lv_sipush (v := (805 : Int32)) hx hb dX7_rekey_127 (by decide) ?_
              refine lv_iload_n hx hb dX7_rekey_130 rfl (lv_at hl 4 rfl) ?_
              refine lv_iadd hx hb dX7_rekey_131 ?_
              refine lv_iload hx hb dX7_rekey_132 (lv_at hl 0 rfl) ?_
              obtain ⟨hz, h⟩ := ite_n h
              refine x_ast hx hb hK hI hP hS tM_1 hz dX7_rekey_134 (fun H locs hP hS => ?_)
              refine lv_iload_n hx hb dX7_rekey_135 rfl (lv_at hl 2 rfl) ?_
              obtain ⟨rfl, rfl⟩ := Prod.mk.inj (Option.some.inj h)
              exact hend _ _ _ _ dX7_rekey_136 rfl hP hS
            · have h := ite_f hc h
              refine lv_aload_n hx hb dX7_rekey_95 rfl (lv_at hl 3 rfl) ?_
              refine lv_iload hx hb dX7_rekey_96 (lv_at hl 0 rfl) ?_
              obtain ⟨r98, hcal, h⟩ := bnd_s h
              refine x_VI (As := [.int r71]) hx hb hml hown hts hK hP hS (ct_X7_rowsIn l D a cA cT hI g r71 r98 hcal) tM_0 (C := RX7) (F := TX7) (N := 18) rfl (g_V q813 q814 q38 q77 q815) yd_X7_rowsIn ⟨Nat.le_of_ble_eq_true rfl, Nat.le_of_ble_eq_true rfl⟩ [] rfl (Nat.le_of_ble_eq_true rfl) hl.1 ⟨Nat.le_refl _, Nat.le_refl _⟩ dX7_rekey_98 (fun H locs hP hS => ?_)
              refine lv_bipush (v := (30 : Int32)) hx hb dX7_rekey_101 (by decide) ?_
              refine lv_icmp_lt (tgt := 110) hx hb dX7_rekey_103 (by decide) (fun hc => ?_) (fun hc => ?_)
              · have h := ite_t hc h
                refine lv_aload_n hx hb dX7_rekey_110 rfl (lv_at hl 3 rfl) ?_
                obtain ⟨g111, hcal, h⟩ := bnd_s h
                refine x_VV (As := []) hx hb hml hown hts hK hP hS (ct_X7_record l D a cA cT hI g g111 hcal) tM_0 (C := RX7) (F := TX7) (N := 18) rfl (g_V q816 q817 q39 q77 q818) yd_X7_record ⟨Nat.le_of_ble_eq_true rfl, Nat.le_of_ble_eq_true rfl⟩ [] rfl (Nat.le_of_ble_eq_true rfl) hl.1 ⟨Nat.le_refl _, Nat.le_refl _⟩ dX7_rekey_111 (fun H locs hP hS => ?_)
                refine lv_aload_n hx hb dX7_rekey_114 rfl (lv_at hl 3 rfl) ?_
                refine x_getr hx hb hts inX7 hown hK hP tM_0 (C := RX7) (F := TX7) (N := 18) rfl 0 (by decide) q758 rfl 1 rfl dX7_rekey_115 ?_
                refine lv_iconst (v := (5 : Int32)) hx hb dX7_rekey_118 (by decide) ?_
                refine lv_iload_n hx hb dX7_rekey_119 rfl (lv_at hl 4 rfl) ?_
                refine lv_iadd hx hb dX7_rekey_120 ?_
                refine lv_iload_n hx hb dX7_rekey_121 rfl (lv_at hl 5 rfl) ?_
                obtain ⟨hz, h⟩ := ite_n h
                refine x_ast hx hb hK hI hP hS tM_1 hz dX7_rekey_122 (fun H locs hP hS => ?_)
                refine lv_aload_n hx hb dX7_rekey_123 rfl (lv_at hl 3 rfl) ?_
                refine x_getr hx hb hts inX7 hown hK hP tM_0 (C := RX7) (F := TX7) (N := 18) rfl 0 (by decide) q758 rfl 1 rfl dX7_rekey_124 ?_
                refine lv_sipush (v := (805 : Int32)) hx hb dX7_rekey_127 (by decide) ?_
                refine lv_iload_n hx hb dX7_rekey_130 rfl (lv_at hl 4 rfl) ?_
                refine lv_iadd hx hb dX7_rekey_131 ?_
                refine lv_iload hx hb dX7_rekey_132 (lv_at hl 0 rfl) ?_
                obtain ⟨hz, h⟩ := ite_n h
                refine x_ast hx hb hK hI hP hS tM_1 hz dX7_rekey_134 (fun H locs hP hS => ?_)
                refine lv_iload_n hx hb dX7_rekey_135 rfl (lv_at hl 2 rfl) ?_
                obtain ⟨rfl, rfl⟩ := Prod.mk.inj (Option.some.inj h)
                exact hend _ _ _ _ dX7_rekey_136 rfl hP hS
              · have h := ite_f hc h
                refine lv_sipush (v := (-1003 : Int32)) hx hb dX7_rekey_106 (by decide) ?_
                obtain ⟨rfl, rfl⟩ := Prod.mk.inj (Option.some.inj h)
                exact hend _ _ _ _ dX7_rekey_109 rfl hP hS
          · have h := ite_t hc h
            refine lv_sipush (v := (-1004 : Int32)) hx hb dX7_rekey_84 (by decide) ?_
            obtain ⟨rfl, rfl⟩ := Prod.mk.inj (Option.some.inj h)
            exact hend _ _ _ _ dX7_rekey_87 rfl hP hS
        · have h := ite_t hc h
          refine lv_bipush (v := (61 : Int32)) hx hb dX7_rekey_64 (by decide) ?_
          refine lv_goto (tgt := 74) hx hb dX7_rekey_66 (by decide) ?_
          refine lv_istore (lv' := [(5, .int (61 : Int32)), (4, .int (g.1 1 ((805 : Int32) + x0).toNatClampNeg)), (3, .int (g.1 1 ((5 : Int32) + x0).toNatClampNeg)), (0, .ref (a 0)), (1, .int x0), (2, .int x1)]) hx hb dX7_rekey_74 hl (by decide) rfl (fun ls hl => ?_)
          refine lv_iload hx hb dX7_rekey_76 (lv_at hl 0 rfl) ?_
          refine lv_sipush (v := (-1005 : Int32)) hx hb dX7_rekey_78 (by decide) ?_
          refine lv_icmp_ne (tgt := 88) hx hb dX7_rekey_81 (by decide) (fun hc => ?_) (fun hc => ?_)
          · have h := ite_f hc h
            refine lv_iload hx hb dX7_rekey_88 (lv_at hl 0 rfl) ?_
            refine lv_iload hx hb dX7_rekey_90 (lv_at hl 1 rfl) ?_
            refine lv_icmp_eq (tgt := 110) hx hb dX7_rekey_92 (by decide) (fun hc => ?_) (fun hc => ?_)
            · have h := ite_t hc h
              refine lv_aload_n hx hb dX7_rekey_110 rfl (lv_at hl 3 rfl) ?_
              obtain ⟨g111, hcal, h⟩ := bnd_s h
              refine x_VV (As := []) hx hb hml hown hts hK hP hS (ct_X7_record l D a cA cT hI g g111 hcal) tM_0 (C := RX7) (F := TX7) (N := 18) rfl (g_V q816 q817 q39 q77 q818) yd_X7_record ⟨Nat.le_of_ble_eq_true rfl, Nat.le_of_ble_eq_true rfl⟩ [] rfl (Nat.le_of_ble_eq_true rfl) hl.1 ⟨Nat.le_refl _, Nat.le_refl _⟩ dX7_rekey_111 (fun H locs hP hS => ?_)
              refine lv_aload_n hx hb dX7_rekey_114 rfl (lv_at hl 3 rfl) ?_
              refine x_getr hx hb hts inX7 hown hK hP tM_0 (C := RX7) (F := TX7) (N := 18) rfl 0 (by decide) q758 rfl 1 rfl dX7_rekey_115 ?_
              refine lv_iconst (v := (5 : Int32)) hx hb dX7_rekey_118 (by decide) ?_
              refine lv_iload_n hx hb dX7_rekey_119 rfl (lv_at hl 4 rfl) ?_
              refine lv_iadd hx hb dX7_rekey_120 ?_
              refine lv_iload_n hx hb dX7_rekey_121 rfl (lv_at hl 5 rfl) ?_
              obtain ⟨hz, h⟩ := ite_n h
              refine x_ast hx hb hK hI hP hS tM_1 hz dX7_rekey_122 (fun H locs hP hS => ?_)
              refine lv_aload_n hx hb dX7_rekey_123 rfl (lv_at hl 3 rfl) ?_
              refine x_getr hx hb hts inX7 hown hK hP tM_0 (C := RX7) (F := TX7) (N := 18) rfl 0 (by decide) q758 rfl 1 rfl dX7_rekey_124 ?_
              refine lv_sipush (v := (805 : Int32)) hx hb dX7_rekey_127 (by decide) ?_
              refine lv_iload_n hx hb dX7_rekey_130 rfl (lv_at hl 4 rfl) ?_
              refine lv_iadd hx hb dX7_rekey_131 ?_
              refine lv_iload hx hb dX7_rekey_132 (lv_at hl 0 rfl) ?_
              obtain ⟨hz, h⟩ := ite_n h
              refine x_ast hx hb hK hI hP hS tM_1 hz dX7_rekey_134 (fun H locs hP hS => ?_)
              refine lv_iload_n hx hb dX7_rekey_135 rfl (lv_at hl 2 rfl) ?_
              obtain ⟨rfl, rfl⟩ := Prod.mk.inj (Option.some.inj h)
              exact hend _ _ _ _ dX7_rekey_136 rfl hP hS
            · have h := ite_f hc h
              refine lv_aload_n hx hb dX7_rekey_95 rfl (lv_at hl 3 rfl) ?_
              refine lv_iload hx hb dX7_rekey_96 (lv_at hl 0 rfl) ?_
              obtain ⟨r98, hcal, h⟩ := bnd_s h
              refine x_VI (As := [.int (61 : Int32)]) hx hb hml hown hts hK hP hS (ct_X7_rowsIn l D a cA cT hI g (61 : Int32) r98 hcal) tM_0 (C := RX7) (F := TX7) (N := 18) rfl (g_V q813 q814 q38 q77 q815) yd_X7_rowsIn ⟨Nat.le_of_ble_eq_true rfl, Nat.le_of_ble_eq_true rfl⟩ [] rfl (Nat.le_of_ble_eq_true rfl) hl.1 ⟨Nat.le_refl _, Nat.le_refl _⟩ dX7_rekey_98 (fun H locs hP hS => ?_)
              refine lv_bipush (v := (30 : Int32)) hx hb dX7_rekey_101 (by decide) ?_
              refine lv_icmp_lt (tgt := 110) hx hb dX7_rekey_103 (by decide) (fun hc => ?_) (fun hc => ?_)
              · have h := ite_t hc h
                refine lv_aload_n hx hb dX7_rekey_110 rfl (lv_at hl 3 rfl) ?_
                obtain ⟨g111, hcal, h⟩ := bnd_s h
                refine x_VV (As := []) hx hb hml hown hts hK hP hS (ct_X7_record l D a cA cT hI g g111 hcal) tM_0 (C := RX7) (F := TX7) (N := 18) rfl (g_V q816 q817 q39 q77 q818) yd_X7_record ⟨Nat.le_of_ble_eq_true rfl, Nat.le_of_ble_eq_true rfl⟩ [] rfl (Nat.le_of_ble_eq_true rfl) hl.1 ⟨Nat.le_refl _, Nat.le_refl _⟩ dX7_rekey_111 (fun H locs hP hS => ?_)
                refine lv_aload_n hx hb dX7_rekey_114 rfl (lv_at hl 3 rfl) ?_
                refine x_getr hx hb hts inX7 hown hK hP tM_0 (C := RX7) (F := TX7) (N := 18) rfl 0 (by decide) q758 rfl 1 rfl dX7_rekey_115 ?_
                refine lv_iconst (v := (5 : Int32)) hx hb dX7_rekey_118 (by decide) ?_
                refine lv_iload_n hx hb dX7_rekey_119 rfl (lv_at hl 4 rfl) ?_
                refine lv_iadd hx hb dX7_rekey_120 ?_
                refine lv_iload_n hx hb dX7_rekey_121 rfl (lv_at hl 5 rfl) ?_
                obtain ⟨hz, h⟩ := ite_n h
                refine x_ast hx hb hK hI hP hS tM_1 hz dX7_rekey_122 (fun H locs hP hS => ?_)
                refine lv_aload_n hx hb dX7_rekey_123 rfl (lv_at hl 3 rfl) ?_
                refine x_getr hx hb hts inX7 hown hK hP tM_0 (C := RX7) (F := TX7) (N := 18) rfl 0 (by decide) q758 rfl 1 rfl dX7_rekey_124 ?_
                refine lv_sipush (v := (805 : Int32)) hx hb dX7_rekey_127 (by decide) ?_
                refine lv_iload_n hx hb dX7_rekey_130 rfl (lv_at hl 4 rfl) ?_
                refine lv_iadd hx hb dX7_rekey_131 ?_
                refine lv_iload hx hb dX7_rekey_132 (lv_at hl 0 rfl) ?_
                obtain ⟨hz, h⟩ := ite_n h
                refine x_ast hx hb hK hI hP hS tM_1 hz dX7_rekey_134 (fun H locs hP hS => ?_)
                refine lv_iload_n hx hb dX7_rekey_135 rfl (lv_at hl 2 rfl) ?_
                obtain ⟨rfl, rfl⟩ := Prod.mk.inj (Option.some.inj h)
                exact hend _ _ _ _ dX7_rekey_136 rfl hP hS
              · have h := ite_f hc h
                refine lv_sipush (v := (-1003 : Int32)) hx hb dX7_rekey_106 (by decide) ?_
                obtain ⟨rfl, rfl⟩ := Prod.mk.inj (Option.some.inj h)
                exact hend _ _ _ _ dX7_rekey_109 rfl hP hS
          · have h := ite_t hc h
            refine lv_sipush (v := (-1004 : Int32)) hx hb dX7_rekey_84 (by decide) ?_
            obtain ⟨rfl, rfl⟩ := Prod.mk.inj (Option.some.inj h)
            exact hend _ _ _ _ dX7_rekey_87 rfl hP hS
      · have h := ite_t hc h
        refine lv_sipush (v := (-1005 : Int32)) hx hb dX7_rekey_41 (by decide) ?_
        obtain ⟨rfl, rfl⟩ := Prod.mk.inj (Option.some.inj h)
        exact hend _ _ _ _ dX7_rekey_44 rfl hP hS
    · have h := ite_t hc h
      refine lv_sipush (v := (-1002 : Int32)) hx hb dX7_rekey_23 (by decide) ?_
      obtain ⟨rfl, rfl⟩ := Prod.mk.inj (Option.some.inj h)
      exact hend _ _ _ _ dX7_rekey_26 rfl hP hS
  · have h := ite_t hc h
    refine lv_sipush (v := (-1001 : Int32)) hx hb dX7_rekey_8 (by decide) ?_
    obtain ⟨rfl, rfl⟩ := Prod.mk.inj (Option.some.inj h)
    exact hend _ _ _ _ dX7_rekey_11 rfl hP hS
