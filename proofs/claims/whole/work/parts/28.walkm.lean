set_option maxHeartbeats 4000000 in
set_option maxRecDepth 100000 in
theorem ct_X7_isNext (l : Launch) (D : va_G) (a : Nat → Nat) (cA cT : ClassId) (hI : WI a TM) (g : MG) (x0 : Int32) (x1 : Int32)  (r : Int32) (h : m_X7_isNext g x0 x1 = some r) :
    CtI l D a cA cT TM yX7_isNext (Cond.code yX7_isNext cX7_isNext 3 (some .boolean) :: lw_all) (rmm 1 22) [.ref (a 0), .int x0, .int x1] g r g := by
  refine CtI.of (by decide +kernel) (Nat.le_of_ble_eq_true rfl) ?_
  intro p e s m args below meth c Q ls hx hb hml hown hts hK hP hS hl hend
  have hl : lv_has ls 3 [(0, .ref (a 0)), (1, .int x0), (2, .int x1)] := hl
  unfold m_X7_isNext at h
  refine lv_aload_n hx hb dX7_isNext_0 rfl (lv_at hl 0 rfl) ?_
  refine x_get hx hb hts inX7 hown hK hP tM_0 (C := RX7) (F := TX7) (N := 18) rfl 10 (by decide) q768 rfl rfl dX7_isNext_1 ?_
  refine lv_aload_n hx hb dX7_isNext_4 rfl (lv_at hl 0 rfl) ?_
  refine x_get hx hb hts inX7 hown hK hP tM_0 (C := RX7) (F := TX7) (N := 18) rfl 16 (by decide) q774 rfl rfl dX7_isNext_5 ?_
  refine lv_icmp_ge (tgt := 32) hx hb dX7_isNext_8 (by decide) (fun hc => ?_) (fun hc => ?_)
  · have h := ite_t hc h
    refine lv_iconst (v := (0 : Int32)) hx hb dX7_isNext_32 (by decide) ?_
    obtain rfl := Option.some.inj h
    exact hend _ _ _ _ dX7_isNext_33 rfl hP hS
  · have h := ite_f hc h
    refine lv_aload_n hx hb dX7_isNext_11 rfl (lv_at hl 0 rfl) ?_
    refine x_getr hx hb hts inX7 hown hK hP tM_0 (C := RX7) (F := TX7) (N := 18) rfl 3 (by decide) q761 rfl 4 rfl dX7_isNext_12 ?_
    refine lv_aload_n hx hb dX7_isNext_15 rfl (lv_at hl 0 rfl) ?_
    refine x_get hx hb hts inX7 hown hK hP tM_0 (C := RX7) (F := TX7) (N := 18) rfl 10 (by decide) q768 rfl rfl dX7_isNext_16 ?_
    obtain ⟨hz, h⟩ := ite_n h
    refine x_ald hx hb hK hP tM_4 hz dX7_isNext_19 ?_
    refine lv_iload_n hx hb dX7_isNext_20 rfl (lv_at hl 1 rfl) ?_
    refine lv_iload_n hx hb dX7_isNext_21 rfl (lv_at hl 2 rfl) ?_
    obtain ⟨r22, hcal, h⟩ := bnd_s h
    refine x_SI (As := [.int (g.1 4 (g.1 0 10).toNatClampNeg), .int x0, .int x1]) hx hb hml hown hts hK hP hS (ct_X7_in l D a cA cT hI g (g.1 4 (g.1 0 10).toNatClampNeg) x0 x1 r22 hcal) (g_S q798 q799 q77 q800) yd_X7_in ⟨Nat.le_of_ble_eq_true rfl, Nat.le_of_ble_eq_true rfl⟩ [] rfl (Nat.le_of_ble_eq_true rfl) hl.1 ⟨Nat.le_refl _, Nat.le_refl _⟩ dX7_isNext_22 (fun H locs hP hS => ?_)
    refine lv_if_eq (tgt := 32) hx hb dX7_isNext_25 (by decide) (fun hc => ?_) (fun hc => ?_)
    · have h := ite_t hc h
      refine lv_iconst (v := (0 : Int32)) hx hb dX7_isNext_32 (by decide) ?_
      obtain rfl := Option.some.inj h
      exact hend _ _ _ _ dX7_isNext_33 rfl hP hS
    · have h := ite_f hc h
      refine lv_iconst (v := (1 : Int32)) hx hb dX7_isNext_28 (by decide) ?_
      refine lv_goto (tgt := 33) hx hb dX7_isNext_29 (by decide) ?_
      obtain rfl := Option.some.inj h
      exact hend _ _ _ _ dX7_isNext_33 rfl hP hS
set_option maxHeartbeats 4000000 in
set_option maxRecDepth 100000 in
theorem ct_X7_add (l : Launch) (D : va_G) (a : Nat → Nat) (cA cT : ClassId) (hI : WI a TM) (g : MG) (x0 : Int32) (x1 : Int32) (x2 : Int32)  (g' : MG) (h : m_X7_add g x0 x1 x2 = some g') :
    CtV l D a cA cT TM yX7_add (Cond.code yX7_add cX7_add 4 none :: lw_all) (rmm 0 0) [.ref (a 0), .int x0, .int x1, .int x2] g g' := by
  refine CtV.of (by decide +kernel) (Nat.le_of_ble_eq_true rfl) ?_
  intro p e s m args below meth c Q ls hx hb hml hown hts hK hP hS hl hend
  have hl : lv_has ls 4 [(0, .ref (a 0)), (1, .int x0), (2, .int x1), (3, .int x2)] := hl
  unfold m_X7_add at h
  refine lv_aload_n hx hb dX7_add_0 rfl (lv_at hl 0 rfl) ?_
  refine x_getr hx hb hts inX7 hown hK hP tM_0 (C := RX7) (F := TX7) (N := 18) rfl 4 (by decide) q762 rfl 5 rfl dX7_add_1 ?_
  refine lv_aload_n hx hb dX7_add_4 rfl (lv_at hl 0 rfl) ?_
  refine x_get hx hb hts inX7 hown hK hP tM_0 (C := RX7) (F := TX7) (N := 18) rfl 8 (by decide) q766 rfl rfl dX7_add_5 ?_
  refine lv_iload_n hx hb dX7_add_8 rfl (lv_at hl 1 rfl) ?_
  obtain ⟨hz, h⟩ := ite_n h
  refine x_ast hx hb hK hI hP hS tM_5 hz dX7_add_9 (fun H locs hP hS => ?_)
  refine lv_aload_n hx hb dX7_add_10 rfl (lv_at hl 0 rfl) ?_
  refine x_getr hx hb hts inX7 hown hK hP tM_0 (C := RX7) (F := TX7) (N := 18) rfl 5 (by decide) q763 rfl 6 rfl dX7_add_11 ?_
  refine lv_aload_n hx hb dX7_add_14 rfl (lv_at hl 0 rfl) ?_
  refine x_get hx hb hts inX7 hown hK hP tM_0 (C := RX7) (F := TX7) (N := 18) rfl 8 (by decide) q766 rfl rfl dX7_add_15 ?_
  refine lv_iload_n hx hb dX7_add_18 rfl (lv_at hl 2 rfl) ?_
  obtain ⟨hz, h⟩ := ite_n h
  refine x_ast hx hb hK hI hP hS tM_6 hz dX7_add_19 (fun H locs hP hS => ?_)
  refine lv_aload_n hx hb dX7_add_20 rfl (lv_at hl 0 rfl) ?_
  refine x_getr hx hb hts inX7 hown hK hP tM_0 (C := RX7) (F := TX7) (N := 18) rfl 6 (by decide) q764 rfl 7 rfl dX7_add_21 ?_
  refine lv_aload_n hx hb dX7_add_24 rfl (lv_at hl 0 rfl) ?_
  refine x_get hx hb hts inX7 hown hK hP tM_0 (C := RX7) (F := TX7) (N := 18) rfl 8 (by decide) q766 rfl rfl dX7_add_25 ?_
  refine lv_iload_n hx hb dX7_add_28 rfl (lv_at hl 3 rfl) ?_
  obtain ⟨hz, h⟩ := ite_n h
  refine x_ast hx hb hK hI hP hS tM_7 hz dX7_add_29 (fun H locs hP hS => ?_)
  refine lv_aload_n hx hb dX7_add_30 rfl (lv_at hl 0 rfl) ?_
  refine lv_dup hx hb dX7_add_31 rfl ?_
  refine x_get hx hb hts inX7 hown hK hP tM_0 (C := RX7) (F := TX7) (N := 18) rfl 8 (by decide) q766 rfl rfl dX7_add_32 ?_
  refine lv_iconst (v := (1 : Int32)) hx hb dX7_add_35 (by decide) ?_
  refine lv_iadd hx hb dX7_add_36 ?_
  refine x_put hx hb hts inX7 tyX7 tyX7_ok nmX7 hown hK hI hP hS tM_0 (C := RX7) (F := TX7) (N := 18) rfl 8 (by decide) q766 rfl rfl rfl rfl rfl dX7_add_37 (fun H locs hP hS => ?_)
  obtain rfl := Option.some.inj h
  exact hend _ _ _ _ dX7_add_40 hP hS
set_option maxHeartbeats 4000000 in
set_option maxRecDepth 100000 in
theorem ct_X7_settle (l : Launch) (D : va_G) (a : Nat → Nat) (cA cT : ClassId) (hI : WI a TM) (g : MG) (x0 : Int32)  (g' : MG) (h : m_X7_settle g x0 = some g') :
    CtV l D a cA cT TM yX7_settle (Cond.code yX7_settle cX7_settle 2 none :: lw_all) (rmm 1 23) [.ref (a 0), .int x0] g g' := by
  refine CtV.of (by decide +kernel) (Nat.le_of_ble_eq_true rfl) ?_
  intro p e s m args below meth c Q ls hx hb hml hown hts hK hP hS hl hend
  have hl : lv_has ls 2 [(0, .ref (a 0)), (1, .int x0)] := hl
  unfold m_X7_settle at h
  have K0 : ∀ (n0 : Nat)  (g0 : MG) (H : Heap) (locs : List Loc) (ls : Array Slot), WP D a cA cT TM g0 H → va_S (AA a TM) s.heap H locs → lv_has ls 2 [(0, .ref (a 0)), (1, .int x0)] → lpo (b_X7_settle_L0 x0) n0 g0 = some g' → W p l e (rmm 1 23) s m args below meth c H locs 0 0 Q (F0 m 0 ls []) := by
    intro n0
    induction n0 with
    | zero => intro g0 H locs ls hP hS hl h; exact (lpo_0 h).elim
    | succ n0 ih0 =>
      intro g0 H locs ls hP hS hl h
      have h : m_X7_settle_L0 (lpo (b_X7_settle_L0 x0) n0) x0 g0 = some g' := h
      unfold m_X7_settle_L0 at h
      refine lv_aload_n hx hb dX7_settle_0 rfl (lv_at hl 0 rfl) ?_
      refine x_get hx hb hts inX7 hown hK hP tM_0 (C := RX7) (F := TX7) (N := 18) rfl 9 (by decide) q767 rfl rfl dX7_settle_1 ?_
      refine lv_if_le (tgt := 65) hx hb dX7_settle_4 (by decide) (fun hc => ?_) (fun hc => ?_)
      · have h := ite_t hc h
        obtain rfl := Option.some.inj h
        exact hend _ _ _ _ dX7_settle_65 hP hS
      · have h := ite_f hc h
        refine lv_aload_n hx hb dX7_settle_7 rfl (lv_at hl 0 rfl) ?_
        refine x_getr hx hb hts inX7 hown hK hP tM_0 (C := RX7) (F := TX7) (N := 18) rfl 7 (by decide) q765 rfl 8 rfl dX7_settle_8 ?_
        refine lv_aload_n hx hb dX7_settle_11 rfl (lv_at hl 0 rfl) ?_
        refine x_get hx hb hts inX7 hown hK hP tM_0 (C := RX7) (F := TX7) (N := 18) rfl 9 (by decide) q767 rfl rfl dX7_settle_12 ?_
        refine lv_iconst (v := (1 : Int32)) hx hb dX7_settle_15 (by decide) ?_
        refine lv_isub hx hb dX7_settle_16 ?_
        obtain ⟨hz, h⟩ := ite_n h
        refine x_ald hx hb hK hP tM_8 hz dX7_settle_17 ?_
        refine lv_iconst (v := (4 : Int32)) hx hb dX7_settle_18 (by decide) ?_
        refine lv_icmp_eq (tgt := 65) hx hb dX7_settle_19 (by decide) (fun hc => ?_) (fun hc => ?_)
        · have h := ite_t hc h
          obtain rfl := Option.some.inj h
          exact hend _ _ _ _ dX7_settle_65 hP hS
        · have h := ite_f hc h
          refine lv_aload_n hx hb dX7_settle_22 rfl (lv_at hl 0 rfl) ?_
          refine x_getr hx hb hts inX7 hown hK hP tM_0 (C := RX7) (F := TX7) (N := 18) rfl 7 (by decide) q765 rfl 8 rfl dX7_settle_23 ?_
          refine lv_aload_n hx hb dX7_settle_26 rfl (lv_at hl 0 rfl) ?_
          refine x_get hx hb hts inX7 hown hK hP tM_0 (C := RX7) (F := TX7) (N := 18) rfl 9 (by decide) q767 rfl rfl dX7_settle_27 ?_
          refine lv_iconst (v := (1 : Int32)) hx hb dX7_settle_30 (by decide) ?_
          refine lv_isub hx hb dX7_settle_31 ?_
          obtain ⟨hz, h⟩ := ite_n h
          refine x_ald hx hb hK hP tM_8 hz dX7_settle_32 ?_
          refine lv_iload_n hx hb dX7_settle_33 rfl (lv_at hl 1 rfl) ?_
          refine lv_icmp_gt (tgt := 65) hx hb dX7_settle_34 (by decide) (fun hc => ?_) (fun hc => ?_)
          · have h := ite_t hc h
            obtain rfl := Option.some.inj h
            exact hend _ _ _ _ dX7_settle_65 hP hS
          · have h := ite_f hc h
            refine lv_aload_n hx hb dX7_settle_37 rfl (lv_at hl 0 rfl) ?_
            refine lv_dup hx hb dX7_settle_38 rfl ?_
            refine x_get hx hb hts inX7 hown hK hP tM_0 (C := RX7) (F := TX7) (N := 18) rfl 9 (by decide) q767 rfl rfl dX7_settle_39 ?_
            refine lv_iconst (v := (1 : Int32)) hx hb dX7_settle_42 (by decide) ?_
            refine lv_isub hx hb dX7_settle_43 ?_
            refine x_put hx hb hts inX7 tyX7 tyX7_ok nmX7 hown hK hI hP hS tM_0 (C := RX7) (F := TX7) (N := 18) rfl 9 (by decide) q767 rfl rfl rfl rfl rfl dX7_settle_44 (fun H locs hP hS => ?_)
            refine lv_aload_n hx hb dX7_settle_47 rfl (lv_at hl 0 rfl) ?_
            refine lv_aload_n hx hb dX7_settle_48 rfl (lv_at hl 0 rfl) ?_
            refine x_getr hx hb hts inX7 hown hK hP tM_0 (C := RX7) (F := TX7) (N := 18) rfl 7 (by decide) q765 rfl 8 rfl dX7_settle_49 ?_
            refine lv_aload_n hx hb dX7_settle_52 rfl (lv_at hl 0 rfl) ?_
            refine x_get hx hb hts inX7 hown hK hP tM_0 (C := RX7) (F := TX7) (N := 18) rfl 9 (by decide) q767 rfl rfl dX7_settle_53 ?_
            obtain ⟨hz, h⟩ := ite_n h
            refine x_ald hx hb hK hP tM_8 hz dX7_settle_56 ?_
            refine lv_iconst (v := (0 : Int32)) hx hb dX7_settle_57 (by decide) ?_
            refine lv_iconst (v := (0 : Int32)) hx hb dX7_settle_58 (by decide) ?_
            obtain ⟨g59, hcal, h⟩ := bnd_s h
            refine x_VV (As := [.int ((g_w g0 0 9 ((g0.1 0 9) - (1 : Int32))).1 8 ((g_w g0 0 9 ((g0.1 0 9) - (1 : Int32))).1 0 9).toNatClampNeg), .int (0 : Int32), .int (0 : Int32)]) hx hb hml hown hts hK hP hS (ct_X7_add l D a cA cT hI (g_w g0 0 9 ((g0.1 0 9) - (1 : Int32))) ((g_w g0 0 9 ((g0.1 0 9) - (1 : Int32))).1 8 ((g_w g0 0 9 ((g0.1 0 9) - (1 : Int32))).1 0 9).toNatClampNeg) (0 : Int32) (0 : Int32) g59 hcal) tM_0 (C := RX7) (F := TX7) (N := 18) rfl (g_V q931 q932 q56 q77 q933) yd_X7_add ⟨Nat.le_of_ble_eq_true rfl, Nat.le_of_ble_eq_true rfl⟩ [] rfl (Nat.le_of_ble_eq_true rfl) hl.1 ⟨Nat.le_refl _, Nat.le_refl _⟩ dX7_settle_59 (fun H locs hP hS => ?_)
            refine lv_goto (tgt := 0) hx hb dX7_settle_62 (by decide) ?_
            exact ih0 g59 _ _ _ hP hS (lv_sub hl [0, 1] rfl) h
  exact K0 fuelN g _ _ _ hP hS (lv_sub hl [0, 1] rfl) h
set_option maxHeartbeats 4000000 in
set_option maxRecDepth 100000 in
theorem ct_X7_readNumber (l : Launch) (D : va_G) (a : Nat → Nat) (cA cT : ClassId) (hI : WI a TM) (g : MG) (x0 : Int32) (x1 : Int32)  (r : Int32) (g' : MG) (h : m_X7_readNumber g x0 x1 = some (r, g')) :
    CtI l D a cA cT TM yX7_readNumber (Cond.code yX7_readNumber cX7_readNumber 5 (some .boolean) :: lw_all) (rmm 2 44) [.ref (a 0), .int x0, .int x1] g r g' := by
  refine CtI.of (by decide +kernel) (Nat.le_of_ble_eq_true rfl) ?_
  intro p e s m args below meth c Q ls hx hb hml hown hts hK hP hS hl hend
  have hl : lv_has ls 5 [(0, .ref (a 0)), (1, .int x0), (2, .int x1)] := hl
  unfold m_X7_readNumber at h
  have J137 : ∀ (v3 : Int32) (v4 : Int32) (g137 : MG) (H : Heap) (locs : List Loc) (ls : Array Slot), WP D a cA cT TM g137 H → va_S (AA a TM) s.heap H locs → lv_has ls 5 [(0, .ref (a 0)), (1, .int x0), (2, .int x1), (3, .int v3), (4, .int v4)] → m_X7_readNumber_J137 x0 x1 v3 v4 g137 = some (r, g') → W p l e (rmm 2 44) s m args below meth c H locs 0 0 Q (F0 m 137 ls []) := by
    intro v3 v4 g137 H locs ls hP hS hl h
    unfold m_X7_readNumber_J137 at h
    refine lv_aload_n hx hb dX7_readNumber_137 rfl (lv_at hl 0 rfl) ?_
    refine lv_iload_n hx hb dX7_readNumber_138 rfl (lv_at hl 1 rfl) ?_
    refine lv_iload_n hx hb dX7_readNumber_139 rfl (lv_at hl 2 rfl) ?_
    refine lv_iload_n hx hb dX7_readNumber_140 rfl (lv_at hl 3 rfl) ?_
    refine lv_if_eq (tgt := 150) hx hb dX7_readNumber_141 (by decide) (fun hc => ?_) (fun hc => ?_)
    · have h := ite_t hc h
      refine lv_iload hx hb dX7_readNumber_150 (lv_at hl 4 rfl) ?_
      obtain ⟨g152, hcal, h⟩ := bnd_s h
      refine x_VV (As := [.int x0, .int x1, .int v4]) hx hb hml hown hts hK hP hS (ct_X7_add l D a cA cT hI g137 x0 x1 v4 g152 hcal) tM_0 (C := RX7) (F := TX7) (N := 18) rfl (g_V q931 q932 q56 q77 q933) yd_X7_add ⟨Nat.le_of_ble_eq_true rfl, Nat.le_of_ble_eq_true rfl⟩ [] rfl (Nat.le_of_ble_eq_true rfl) hl.1 ⟨Nat.le_refl _, Nat.le_refl _⟩ dX7_readNumber_152 (fun H locs hP hS => ?_)
      refine lv_iconst (v := (1 : Int32)) hx hb dX7_readNumber_155 (by decide) ?_
      obtain ⟨rfl, rfl⟩ := Prod.mk.inj (Option.some.inj h)
      exact hend _ _ _ _ dX7_readNumber_156 rfl hP hS
    · have h := ite_f hc h
      refine lv_iload hx hb dX7_readNumber_144 (lv_at hl 4 rfl) ?_
      refine lv_ineg hx hb dX7_readNumber_146 ?_
      refine lv_goto (tgt := 152) hx hb dX7_readNumber_147 (by decide) ?_
      obtain ⟨g152, hcal, h⟩ := bnd_s h
      refine x_VV (As := [.int x0, .int x1, .int (-v4)]) hx hb hml hown hts hK hP hS (ct_X7_add l D a cA cT hI g137 x0 x1 (-v4) g152 hcal) tM_0 (C := RX7) (F := TX7) (N := 18) rfl (g_V q931 q932 q56 q77 q933) yd_X7_add ⟨Nat.le_of_ble_eq_true rfl, Nat.le_of_ble_eq_true rfl⟩ [] rfl (Nat.le_of_ble_eq_true rfl) hl.1 ⟨Nat.le_refl _, Nat.le_refl _⟩ dX7_readNumber_152 (fun H locs hP hS => ?_)
      refine lv_iconst (v := (1 : Int32)) hx hb dX7_readNumber_155 (by decide) ?_
      obtain ⟨rfl, rfl⟩ := Prod.mk.inj (Option.some.inj h)
      exact hend _ _ _ _ dX7_readNumber_156 rfl hP hS
  have J23 : ∀ (v3 : Int32) (w1 : Int32) (w2 : Int32) (g23 : MG) (H : Heap) (locs : List Loc) (ls : Array Slot), WP D a cA cT TM g23 H → va_S (AA a TM) s.heap H locs → lv_has ls 5 [(0, .ref (a 0)), (1, .int x0), (2, .int x1), (3, .int v3)] → m_X7_readNumber_J23 x0 x1 v3 w1 w2 g23 = some (r, g') → W p l e (rmm 2 44) s m args below meth c H locs 0 0 Q (F0 m 23 ls [.int w2, .int w1, .ref (a 0)]) := by
    intro v3 w1 w2 g23 H locs ls hP hS hl h
    unfold m_X7_readNumber_J23 at h
    refine lv_iadd hx hb dX7_readNumber_23 ?_
    refine x_put hx hb hts inX7 tyX7 tyX7_ok nmX7 hown hK hI hP hS tM_0 (C := RX7) (F := TX7) (N := 18) rfl 10 (by decide) q768 rfl rfl rfl rfl rfl dX7_readNumber_24 (fun H locs hP hS => ?_)
    refine lv_aload_n hx hb dX7_readNumber_27 rfl (lv_at hl 0 rfl) ?_
    refine lv_bipush (v := (48 : Int32)) hx hb dX7_readNumber_28 (by decide) ?_
    refine lv_bipush (v := (57 : Int32)) hx hb dX7_readNumber_30 (by decide) ?_
    obtain ⟨r32, hcal, h⟩ := bnd_s h
    refine x_VI (As := [.int (48 : Int32), .int (57 : Int32)]) hx hb hml hown hts hK hP hS (ct_X7_isNext l D a cA cT hI (g_w g23 0 10 (w1 + w2)) (48 : Int32) (57 : Int32) r32 hcal) tM_0 (C := RX7) (F := TX7) (N := 18) rfl (g_V q922 q923 q53 q77 q924) yd_X7_isNext ⟨Nat.le_of_ble_eq_true rfl, Nat.le_of_ble_eq_true rfl⟩ [] rfl (Nat.le_of_ble_eq_true rfl) hl.1 ⟨Nat.le_refl _, Nat.le_refl _⟩ dX7_readNumber_32 (fun H locs hP hS => ?_)
    refine lv_if_ne (tgt := 40) hx hb dX7_readNumber_35 (by decide) (fun hc => ?_) (fun hc => ?_)
    · have h := ite_f hc h
      refine lv_aload_n hx hb dX7_readNumber_40 rfl (lv_at hl 0 rfl) ?_
      refine x_getr hx hb hts inX7 hown hK hP tM_0 (C := RX7) (F := TX7) (N := 18) rfl 3 (by decide) q761 rfl 4 rfl dX7_readNumber_41 ?_
      refine lv_aload_n hx hb dX7_readNumber_44 rfl (lv_at hl 0 rfl) ?_
      refine x_get hx hb hts inX7 hown hK hP tM_0 (C := RX7) (F := TX7) (N := 18) rfl 10 (by decide) q768 rfl rfl dX7_readNumber_45 ?_
      obtain ⟨hz, h⟩ := ite_n h
      refine x_ald hx hb hK hP tM_4 hz dX7_readNumber_48 ?_
      refine lv_bipush (v := (48 : Int32)) hx hb dX7_readNumber_49 (by decide) ?_
      refine lv_isub hx hb dX7_readNumber_51 ?_
      refine lv_istore (lv' := [(4, .int (((g_w g23 0 10 (w1 + w2)).1 4 ((g_w g23 0 10 (w1 + w2)).1 0 10).toNatClampNeg) - (48 : Int32))), (0, .ref (a 0)), (1, .int x0), (2, .int x1), (3, .int v3)]) hx hb dX7_readNumber_52 hl (by decide) rfl (fun ls hl => ?_)
      refine lv_aload_n hx hb dX7_readNumber_54 rfl (lv_at hl 1 rfl) ?_
      refine lv_dup hx hb dX7_readNumber_55 rfl ?_
      refine x_get hx hb hts inX7 hown hK hP tM_0 (C := RX7) (F := TX7) (N := 18) rfl 10 (by decide) q768 rfl rfl dX7_readNumber_56 ?_
      refine lv_iconst (v := (1 : Int32)) hx hb dX7_readNumber_59 (by decide) ?_
      refine lv_iadd hx hb dX7_readNumber_60 ?_
      refine x_put hx hb hts inX7 tyX7 tyX7_ok nmX7 hown hK hI hP hS tM_0 (C := RX7) (F := TX7) (N := 18) rfl 10 (by decide) q768 rfl rfl rfl rfl rfl dX7_readNumber_61 (fun H locs hP hS => ?_)
      have K64 : ∀ (n64 : Nat) (v4 : Int32) (g64 : MG) (H : Heap) (locs : List Loc) (ls : Array Slot), WP D a cA cT TM g64 H → va_S (AA a TM) s.heap H locs → lv_has ls 5 [(0, .ref (a 0)), (1, .int x0), (2, .int x1), (3, .int v3), (4, .int v4)] → lpo (b_X7_readNumber_L64 x0 x1 v3) n64 (v4, g64) = some (r, g') → W p l e (rmm 2 44) s m args below meth c H locs 0 0 Q (F0 m 64 ls []) := by
        intro n64
        induction n64 with
        | zero => intro v4 g64 H locs ls hP hS hl h; exact (lpo_0 h).elim
        | succ n64 ih64 =>
          intro v4 g64 H locs ls hP hS hl h
          have h : m_X7_readNumber_L64 (lpo (b_X7_readNumber_L64 x0 x1 v3) n64) x0 x1 v3 v4 g64 = some (r, g') := h
          unfold m_X7_readNumber_L64 at h
          refine lv_iload hx hb dX7_readNumber_64 (lv_at hl 4 rfl) ?_
          refine lv_if_le (tgt := 137) hx hb dX7_readNumber_66 (by decide) (fun hc => ?_) (fun hc => ?_)
          · have h := ite_t hc h
            exact J137 v3 v4 g64 _ _ _ hP hS (lv_sub hl [0, 1, 2, 3, 4] rfl) h
          · have h := ite_f hc h
            refine lv_aload_n hx hb dX7_readNumber_69 rfl (lv_at hl 0 rfl) ?_
            refine lv_bipush (v := (48 : Int32)) hx hb dX7_readNumber_70 (by decide) ?_
            refine lv_bipush (v := (57 : Int32)) hx hb dX7_readNumber_72 (by decide) ?_
            obtain ⟨r74, hcal, h⟩ := bnd_s h
            refine x_VI (As := [.int (48 : Int32), .int (57 : Int32)]) hx hb hml hown hts hK hP hS (ct_X7_isNext l D a cA cT hI g64 (48 : Int32) (57 : Int32) r74 hcal) tM_0 (C := RX7) (F := TX7) (N := 18) rfl (g_V q922 q923 q53 q77 q924) yd_X7_isNext ⟨Nat.le_of_ble_eq_true rfl, Nat.le_of_ble_eq_true rfl⟩ [] rfl (Nat.le_of_ble_eq_true rfl) hl.1 ⟨Nat.le_refl _, Nat.le_refl _⟩ dX7_readNumber_74 (fun H locs hP hS => ?_)
            refine lv_if_eq (tgt := 137) hx hb dX7_readNumber_77 (by decide) (fun hc => ?_) (fun hc => ?_)
            · have h := ite_t hc h
              exact J137 v3 v4 g64 _ _ _ hP hS (lv_sub hl [0, 1, 2, 3, 4] rfl) h
            · have h := ite_f hc h
              refine lv_bipush (v := (10 : Int32)) hx hb dX7_readNumber_80 (by decide) ?_
              refine lv_iload hx hb dX7_readNumber_82 (lv_at hl 4 rfl) ?_
              refine lv_imul hx hb dX7_readNumber_84 ?_
              refine lv_aload_n hx hb dX7_readNumber_85 rfl (lv_at hl 0 rfl) ?_
              refine x_getr hx hb hts inX7 hown hK hP tM_0 (C := RX7) (F := TX7) (N := 18) rfl 3 (by decide) q761 rfl 4 rfl dX7_readNumber_86 ?_
              refine lv_aload_n hx hb dX7_readNumber_89 rfl (lv_at hl 0 rfl) ?_
              refine x_get hx hb hts inX7 hown hK hP tM_0 (C := RX7) (F := TX7) (N := 18) rfl 10 (by decide) q768 rfl rfl dX7_readNumber_90 ?_
              obtain ⟨hz, h⟩ := ite_n h
              refine x_ald hx hb hK hP tM_4 hz dX7_readNumber_93 ?_
              refine lv_iadd hx hb dX7_readNumber_94 ?_
              refine lv_bipush (v := (48 : Int32)) hx hb dX7_readNumber_95 (by decide) ?_
              refine lv_isub hx hb dX7_readNumber_97 ?_
              refine lv_sipush (v := (999 : Int32)) hx hb dX7_readNumber_98 (by decide) ?_
              refine lv_icmp_gt (tgt := 137) hx hb dX7_readNumber_101 (by decide) (fun hc => ?_) (fun hc => ?_)
              · have h := ite_t hc h
                exact J137 v3 v4 g64 _ _ _ hP hS (lv_sub hl [0, 1, 2, 3, 4] rfl) h
              · have h := ite_f hc h
                refine lv_bipush (v := (10 : Int32)) hx hb dX7_readNumber_104 (by decide) ?_
                refine lv_iload hx hb dX7_readNumber_106 (lv_at hl 4 rfl) ?_
                refine lv_imul hx hb dX7_readNumber_108 ?_
                refine lv_aload_n hx hb dX7_readNumber_109 rfl (lv_at hl 0 rfl) ?_
                refine x_getr hx hb hts inX7 hown hK hP tM_0 (C := RX7) (F := TX7) (N := 18) rfl 3 (by decide) q761 rfl 4 rfl dX7_readNumber_110 ?_
                refine lv_aload_n hx hb dX7_readNumber_113 rfl (lv_at hl 0 rfl) ?_
                refine x_get hx hb hts inX7 hown hK hP tM_0 (C := RX7) (F := TX7) (N := 18) rfl 10 (by decide) q768 rfl rfl dX7_readNumber_114 ?_
                obtain ⟨hz, h⟩ := ite_n h
                refine x_ald hx hb hK hP tM_4 hz dX7_readNumber_117 ?_
                refine lv_iadd hx hb dX7_readNumber_118 ?_
                refine lv_bipush (v := (48 : Int32)) hx hb dX7_readNumber_119 (by decide) ?_
                refine lv_isub hx hb dX7_readNumber_121 ?_
                refine lv_istore (lv' := [(4, .int ((((10 : Int32) * v4) + (g64.1 4 (g64.1 0 10).toNatClampNeg)) - (48 : Int32))), (0, .ref (a 0)), (1, .int x0), (2, .int x1), (3, .int v3)]) hx hb dX7_readNumber_122 hl (by decide) rfl (fun ls hl => ?_)
                refine lv_aload_n hx hb dX7_readNumber_124 rfl (lv_at hl 1 rfl) ?_
                refine lv_dup hx hb dX7_readNumber_125 rfl ?_
                refine x_get hx hb hts inX7 hown hK hP tM_0 (C := RX7) (F := TX7) (N := 18) rfl 10 (by decide) q768 rfl rfl dX7_readNumber_126 ?_
                refine lv_iconst (v := (1 : Int32)) hx hb dX7_readNumber_129 (by decide) ?_
                refine lv_iadd hx hb dX7_readNumber_130 ?_
                refine x_put hx hb hts inX7 tyX7 tyX7_ok nmX7 hown hK hI hP hS tM_0 (C := RX7) (F := TX7) (N := 18) rfl 10 (by decide) q768 rfl rfl rfl rfl rfl dX7_readNumber_131 (fun H locs hP hS => ?_)
                refine lv_goto (tgt := 64) hx hb dX7_readNumber_134 (by decide) ?_
                exact ih64 ((((10 : Int32) * v4) + (g64.1 4 (g64.1 0 10).toNatClampNeg)) - (48 : Int32)) (g_w g64 0 10 ((g64.1 0 10) + (1 : Int32))) _ _ _ hP hS (lv_sub hl [1, 2, 3, 4, 0] rfl) h
      exact K64 fuelN (((g_w g23 0 10 (w1 + w2)).1 4 ((g_w g23 0 10 (w1 + w2)).1 0 10).toNatClampNeg) - (48 : Int32)) (g_w (g_w g23 0 10 (w1 + w2)) 0 10 (((g_w g23 0 10 (w1 + w2)).1 0 10) + (1 : Int32))) _ _ _ hP hS (lv_sub hl [1, 2, 3, 4, 0] rfl) h
    · have h := ite_t hc h
      refine lv_iconst (v := (0 : Int32)) hx hb dX7_readNumber_38 (by decide) ?_
      obtain ⟨rfl, rfl⟩ := Prod.mk.inj (Option.some.inj h)
      exact hend _ _ _ _ dX7_readNumber_39 rfl hP hS
  refine lv_aload_n hx hb dX7_readNumber_0 rfl (lv_at hl 0 rfl) ?_
  refine lv_bipush (v := (45 : Int32)) hx hb dX7_readNumber_1 (by decide) ?_
  refine lv_bipush (v := (45 : Int32)) hx hb dX7_readNumber_3 (by decide) ?_
  obtain ⟨r5, hcal, h⟩ := bnd_s h
  refine x_VI (As := [.int (45 : Int32), .int (45 : Int32)]) hx hb hml hown hts hK hP hS (ct_X7_isNext l D a cA cT hI g (45 : Int32) (45 : Int32) r5 hcal) tM_0 (C := RX7) (F := TX7) (N := 18) rfl (g_V q922 q923 q53 q77 q924) yd_X7_isNext ⟨Nat.le_of_ble_eq_true rfl, Nat.le_of_ble_eq_true rfl⟩ [] rfl (Nat.le_of_ble_eq_true rfl) hl.1 ⟨Nat.le_refl _, Nat.le_refl _⟩ dX7_readNumber_5 (fun H locs hP hS => ?_)
  refine lv_istore_n (lv' := [(3, .int r5), (0, .ref (a 0)), (1, .int x0), (2, .int x1)]) hx hb dX7_readNumber_8 rfl hl (by decide) rfl (fun ls hl => ?_)
  refine lv_aload_n hx hb dX7_readNumber_9 rfl (lv_at hl 1 rfl) ?_
  refine lv_dup hx hb dX7_readNumber_10 rfl ?_
  refine x_get hx hb hts inX7 hown hK hP tM_0 (C := RX7) (F := TX7) (N := 18) rfl 10 (by decide) q768 rfl rfl dX7_readNumber_11 ?_
  refine lv_iload_n hx hb dX7_readNumber_14 rfl (lv_at hl 0 rfl) ?_
  refine lv_if_eq (tgt := 22) hx hb dX7_readNumber_15 (by decide) (fun hc => ?_) (fun hc => ?_)
  · have h := ite_t hc h
    refine lv_iconst (v := (0 : Int32)) hx hb dX7_readNumber_22 (by decide) ?_
    exact J23 r5 (g.1 0 10) (0 : Int32) g _ _ _ hP hS (lv_sub hl [1, 2, 3, 0] rfl) h
  · have h := ite_f hc h
    refine lv_iconst (v := (1 : Int32)) hx hb dX7_readNumber_18 (by decide) ?_
    refine lv_goto (tgt := 23) hx hb dX7_readNumber_19 (by decide) ?_
    exact J23 r5 (g.1 0 10) (1 : Int32) g _ _ _ hP hS (lv_sub hl [1, 2, 3, 0] rfl) h
set_option maxHeartbeats 4000000 in
set_option maxRecDepth 100000 in
theorem ct_X7_isSign (l : Launch) (D : va_G) (a : Nat → Nat) (cA cT : ClassId) (hI : WI a TM) (g : MG)   (r : Int32) (h : m_X7_isSign g = some r) :
    CtI l D a cA cT TM yX7_isSign (Cond.code yX7_isSign cX7_isSign 1 (some .boolean) :: lw_all) (rmm 2 44) [.ref (a 0)] g r g := by
  refine CtI.of (by decide +kernel) (Nat.le_of_ble_eq_true rfl) ?_
  intro p e s m args below meth c Q ls hx hb hml hown hts hK hP hS hl hend
  have hl : lv_has ls 1 [(0, .ref (a 0))] := hl
  unfold m_X7_isSign at h
  refine lv_aload_n hx hb dX7_isSign_0 rfl (lv_at hl 0 rfl) ?_
  refine lv_bipush (v := (60 : Int32)) hx hb dX7_isSign_1 (by decide) ?_
  refine lv_bipush (v := (62 : Int32)) hx hb dX7_isSign_3 (by decide) ?_
  obtain ⟨r5, hcal, h⟩ := bnd_s h
  refine x_VI (As := [.int (60 : Int32), .int (62 : Int32)]) hx hb hml hown hts hK hP hS (ct_X7_isNext l D a cA cT hI g (60 : Int32) (62 : Int32) r5 hcal) tM_0 (C := RX7) (F := TX7) (N := 18) rfl (g_V q922 q923 q53 q77 q924) yd_X7_isNext ⟨Nat.le_of_ble_eq_true rfl, Nat.le_of_ble_eq_true rfl⟩ [] rfl (Nat.le_of_ble_eq_true rfl) hl.1 ⟨Nat.le_refl _, Nat.le_refl _⟩ dX7_isSign_5 (fun H locs hP hS => ?_)
  refine lv_if_ne (tgt := 22) hx hb dX7_isSign_8 (by decide) (fun hc => ?_) (fun hc => ?_)
  · have h := ite_f hc h
    refine lv_iconst (v := (1 : Int32)) hx hb dX7_isSign_22 (by decide) ?_
    refine lv_goto (tgt := 27) hx hb dX7_isSign_23 (by decide) ?_
    obtain rfl := Option.some.inj h
    exact hend _ _ _ _ dX7_isSign_27 rfl hP hS
  · have h := ite_t hc h
    refine lv_aload_n hx hb dX7_isSign_11 rfl (lv_at hl 0 rfl) ?_
    refine lv_bipush (v := (35 : Int32)) hx hb dX7_isSign_12 (by decide) ?_
    refine lv_bipush (v := (35 : Int32)) hx hb dX7_isSign_14 (by decide) ?_
    obtain ⟨r16, hcal, h⟩ := bnd_s h
    refine x_VI (As := [.int (35 : Int32), .int (35 : Int32)]) hx hb hml hown hts hK hP hS (ct_X7_isNext l D a cA cT hI g (35 : Int32) (35 : Int32) r16 hcal) tM_0 (C := RX7) (F := TX7) (N := 18) rfl (g_V q922 q923 q53 q77 q924) yd_X7_isNext ⟨Nat.le_of_ble_eq_true rfl, Nat.le_of_ble_eq_true rfl⟩ [] rfl (Nat.le_of_ble_eq_true rfl) hl.1 ⟨Nat.le_refl _, Nat.le_refl _⟩ dX7_isSign_16 (fun H locs hP hS => ?_)
    refine lv_if_eq (tgt := 26) hx hb dX7_isSign_19 (by decide) (fun hc => ?_) (fun hc => ?_)
    · have h := ite_t hc h
      refine lv_iconst (v := (0 : Int32)) hx hb dX7_isSign_26 (by decide) ?_
      obtain rfl := Option.some.inj h
      exact hend _ _ _ _ dX7_isSign_27 rfl hP hS
    · have h := ite_f hc h
      refine lv_iconst (v := (1 : Int32)) hx hb dX7_isSign_22 (by decide) ?_
      refine lv_goto (tgt := 27) hx hb dX7_isSign_23 (by decide) ?_
      obtain rfl := Option.some.inj h
      exact hend _ _ _ _ dX7_isSign_27 rfl hP hS
set_option maxHeartbeats 4000000 in
set_option maxRecDepth 100000 in
theorem ct_X7_read (l : Launch) (D : va_G) (a : Nat → Nat) (cA cT : ClassId) (hI : WI a TM) (g : MG)   (r : Int32) (g' : MG) (h : m_X7_read g = some (r, g')) :
    CtI l D a cA cT TM yX7_read (Cond.code yX7_read cX7_read 6 (some .int) :: lw_all) (rmm 3 68) [.ref (a 0)] g r g' := by
  refine CtI.of (by decide +kernel) (Nat.le_of_ble_eq_true rfl) ?_
  intro p e s m args below meth c Q ls hx hb hml hown hts hK hP hS hl hend
  have hl : lv_has ls 6 [(0, .ref (a 0))] := hl
  unfold m_X7_read at h
  refine lv_aload_n hx hb dX7_read_0 rfl (lv_at hl 0 rfl) ?_
  refine lv_iconst (v := (0 : Int32)) hx hb dX7_read_1 (by decide) ?_
  refine x_put hx hb hts inX7 tyX7 tyX7_ok nmX7 hown hK hI hP hS tM_0 (C := RX7) (F := TX7) (N := 18) rfl 8 (by decide) q766 rfl rfl rfl rfl rfl dX7_read_2 (fun H locs hP hS => ?_)
  refine lv_aload_n hx hb dX7_read_5 rfl (lv_at hl 0 rfl) ?_
  refine lv_iconst (v := (0 : Int32)) hx hb dX7_read_6 (by decide) ?_
  refine x_put hx hb hts inX7 tyX7 tyX7_ok nmX7 hown hK hI hP hS tM_0 (C := RX7) (F := TX7) (N := 18) rfl 9 (by decide) q767 rfl rfl rfl rfl rfl dX7_read_7 (fun H locs hP hS => ?_)
  refine lv_aload_n hx hb dX7_read_10 rfl (lv_at hl 0 rfl) ?_
  refine lv_iconst (v := (0 : Int32)) hx hb dX7_read_11 (by decide) ?_
  refine x_put hx hb hts inX7 tyX7 tyX7_ok nmX7 hown hK hI hP hS tM_0 (C := RX7) (F := TX7) (N := 18) rfl 10 (by decide) q768 rfl rfl rfl rfl rfl dX7_read_12 (fun H locs hP hS => ?_)
  refine lv_iconst (v := (0 : Int32)) hx hb dX7_read_15 (by decide) ?_
  refine lv_istore_n (lv' := [(1, .int (0 : Int32)), (0, .ref (a 0))]) hx hb dX7_read_16 rfl hl (by decide) rfl (fun ls hl => ?_)
  refine lv_iconst (v := (0 : Int32)) hx hb dX7_read_17 (by decide) ?_
  refine lv_istore_n (lv' := [(2, .int (0 : Int32)), (1, .int (0 : Int32)), (0, .ref (a 0))]) hx hb dX7_read_18 rfl hl (by decide) rfl (fun ls hl => ?_)
  refine lv_iconst (v := (1 : Int32)) hx hb dX7_read_19 (by decide) ?_
  refine lv_istore_n (lv' := [(3, .int (1 : Int32)), (2, .int (0 : Int32)), (1, .int (0 : Int32)), (0, .ref (a 0))]) hx hb dX7_read_20 rfl hl (by decide) rfl (fun ls hl => ?_)
  have K21 : ∀ (n21 : Nat) (v1 : Int32) (v2 : Int32) (v3 : Int32) (g21 : MG) (H : Heap) (locs : List Loc) (ls : Array Slot), WP D a cA cT TM g21 H → va_S (AA a TM) s.heap H locs → lv_has ls 6 [(0, .ref (a 0)), (1, .int v1), (2, .int v2), (3, .int v3)] → lpo (b_X7_read_L21) n21 (v1, v2, v3, g21) = some (r, g') → W p l e (rmm 3 68) s m args below meth c H locs 0 0 Q (F0 m 21 ls []) := by
    intro n21
    induction n21 with
    | zero => intro v1 v2 v3 g21 H locs ls hP hS hl h; exact (lpo_0 h).elim
    | succ n21 ih21 =>
      intro v1 v2 v3 g21 H locs ls hP hS hl h
      have h : m_X7_read_L21 (lpo (b_X7_read_L21) n21)  v1 v2 v3 g21 = some (r, g') := h
      unfold m_X7_read_L21 at h
      have J358 : ∀ (v1 : Int32) (v2 : Int32) (v3 : Int32) (g358 : MG) (H : Heap) (locs : List Loc) (ls : Array Slot), WP D a cA cT TM g358 H → va_S (AA a TM) s.heap H locs → lv_has ls 6 [(0, .ref (a 0)), (1, .int v1), (2, .int v2), (3, .int v3)] → m_X7_read_J358 (lpo (b_X7_read_L21) n21) v1 v2 v3 g358 = some (r, g') → W p l e (rmm 3 68) s m args below meth c H locs 0 0 Q (F0 m 358 ls []) := by
        intro v1 v2 v3 g358 H locs ls hP hS hl h
        unfold m_X7_read_J358 at h
        refine lv_iload_n hx hb dX7_read_358 rfl (lv_at hl 3 rfl) ?_
        refine lv_if_ne (tgt := 413) hx hb dX7_read_359 (by decide) (fun hc => ?_) (fun hc => ?_)
        · have h := ite_f hc h
          refine lv_aload_n hx hb dX7_read_413 rfl (lv_at hl 0 rfl) ?_
          refine x_get hx hb hts inX7 hown hK hP tM_0 (C := RX7) (F := TX7) (N := 18) rfl 10 (by decide) q768 rfl rfl dX7_read_414 ?_
          obtain ⟨rfl, rfl⟩ := Prod.mk.inj (Option.some.inj h)
          exact hend _ _ _ _ dX7_read_417 rfl hP hS
        · have h := ite_t hc h
          refine lv_aload_n hx hb dX7_read_362 rfl (lv_at hl 0 rfl) ?_
          refine lv_bipush (v := (41 : Int32)) hx hb dX7_read_363 (by decide) ?_
          refine lv_bipush (v := (41 : Int32)) hx hb dX7_read_365 (by decide) ?_
          obtain ⟨r367, hcal, h⟩ := bnd_s h
          refine x_VI (As := [.int (41 : Int32), .int (41 : Int32)]) hx hb hml hown hts hK hP hS (ct_X7_isNext l D a cA cT hI g358 (41 : Int32) (41 : Int32) r367 hcal) tM_0 (C := RX7) (F := TX7) (N := 18) rfl (g_V q922 q923 q53 q77 q924) yd_X7_isNext ⟨Nat.le_of_ble_eq_true rfl, Nat.le_of_ble_eq_true rfl⟩ [] rfl (Nat.le_of_ble_eq_true rfl) hl.1 ⟨Nat.le_refl _, Nat.le_refl _⟩ dX7_read_367 (fun H locs hP hS => ?_)
          refine lv_if_eq (tgt := 413) hx hb dX7_read_370 (by decide) (fun hc => ?_) (fun hc => ?_)
          · have h := ite_t hc h
            refine lv_aload_n hx hb dX7_read_413 rfl (lv_at hl 0 rfl) ?_
            refine x_get hx hb hts inX7 hown hK hP tM_0 (C := RX7) (F := TX7) (N := 18) rfl 10 (by decide) q768 rfl rfl dX7_read_414 ?_
            obtain ⟨rfl, rfl⟩ := Prod.mk.inj (Option.some.inj h)
            exact hend _ _ _ _ dX7_read_417 rfl hP hS
          · have h := ite_f hc h
            refine lv_iload_n hx hb dX7_read_373 rfl (lv_at hl 1 rfl) ?_
            refine lv_if_le (tgt := 413) hx hb dX7_read_374 (by decide) (fun hc => ?_) (fun hc => ?_)
            · have h := ite_t hc h
              refine lv_aload_n hx hb dX7_read_413 rfl (lv_at hl 0 rfl) ?_
              refine x_get hx hb hts inX7 hown hK hP tM_0 (C := RX7) (F := TX7) (N := 18) rfl 10 (by decide) q768 rfl rfl dX7_read_414 ?_
              obtain ⟨rfl, rfl⟩ := Prod.mk.inj (Option.some.inj h)
              exact hend _ _ _ _ dX7_read_417 rfl hP hS
            · have h := ite_f hc h
              refine lv_aload_n hx hb dX7_read_377 rfl (lv_at hl 0 rfl) ?_
              refine lv_iconst (v := (3 : Int32)) hx hb dX7_read_378 (by decide) ?_
              obtain ⟨g379, hcal, h⟩ := bnd_s h
              refine x_VV (As := [.int (3 : Int32)]) hx hb hml hown hts hK hP hS (ct_X7_settle l D a cA cT hI g358 (3 : Int32) g379 hcal) tM_0 (C := RX7) (F := TX7) (N := 18) rfl (g_V q934 q935 q57 q77 q936) yd_X7_settle ⟨Nat.le_of_ble_eq_true rfl, Nat.le_of_ble_eq_true rfl⟩ [] rfl (Nat.le_of_ble_eq_true rfl) hl.1 ⟨Nat.le_refl _, Nat.le_refl _⟩ dX7_read_379 (fun H locs hP hS => ?_)
              refine lv_aload_n hx hb dX7_read_382 rfl (lv_at hl 0 rfl) ?_
              refine lv_dup hx hb dX7_read_383 rfl ?_
              refine x_get hx hb hts inX7 hown hK hP tM_0 (C := RX7) (F := TX7) (N := 18) rfl 9 (by decide) q767 rfl rfl dX7_read_384 ?_
              refine lv_iconst (v := (1 : Int32)) hx hb dX7_read_387 (by decide) ?_
              refine lv_isub hx hb dX7_read_388 ?_
              refine x_put hx hb hts inX7 tyX7 tyX7_ok nmX7 hown hK hI hP hS tM_0 (C := RX7) (F := TX7) (N := 18) rfl 9 (by decide) q767 rfl rfl rfl rfl rfl dX7_read_389 (fun H locs hP hS => ?_)
              refine lv_aload_n hx hb dX7_read_392 rfl (lv_at hl 0 rfl) ?_
              refine lv_iconst (v := (1 : Int32)) hx hb dX7_read_393 (by decide) ?_
              obtain ⟨g394, hcal, h⟩ := bnd_s h
              refine x_VV (As := [.int (1 : Int32)]) hx hb hml hown hts hK hP hS (ct_X7_settle l D a cA cT hI (g_w g379 0 9 ((g379.1 0 9) - (1 : Int32))) (1 : Int32) g394 hcal) tM_0 (C := RX7) (F := TX7) (N := 18) rfl (g_V q934 q935 q57 q77 q936) yd_X7_settle ⟨Nat.le_of_ble_eq_true rfl, Nat.le_of_ble_eq_true rfl⟩ [] rfl (Nat.le_of_ble_eq_true rfl) hl.1 ⟨Nat.le_refl _, Nat.le_refl _⟩ dX7_read_394 (fun H locs hP hS => ?_)
              refine lv_iinc (v := (v1 + (-1 : Int32))) (lv' := [(1, .int (v1 + (-1 : Int32))), (0, .ref (a 0)), (2, .int v2), (3, .int v3)]) hx hb dX7_read_397 hl (k := 1) rfl rfl (by decide) rfl (fun ls hl => ?_)
              refine lv_aload_n hx hb dX7_read_400 rfl (lv_at hl 1 rfl) ?_
              refine lv_dup hx hb dX7_read_401 rfl ?_
              refine x_get hx hb hts inX7 hown hK hP tM_0 (C := RX7) (F := TX7) (N := 18) rfl 10 (by decide) q768 rfl rfl dX7_read_402 ?_
              refine lv_iconst (v := (1 : Int32)) hx hb dX7_read_405 (by decide) ?_
              refine lv_iadd hx hb dX7_read_406 ?_
              refine x_put hx hb hts inX7 tyX7 tyX7_ok nmX7 hown hK hI hP hS tM_0 (C := RX7) (F := TX7) (N := 18) rfl 10 (by decide) q768 rfl rfl rfl rfl rfl dX7_read_407 (fun H locs hP hS => ?_)
              refine lv_goto (tgt := 21) hx hb dX7_read_410 (by decide) ?_
              exact ih21 (v1 + (-1 : Int32)) v2 v3 (g_w g394 0 10 ((g394.1 0 10) + (1 : Int32))) _ _ _ hP hS (lv_sub hl [1, 0, 2, 3] rfl) h
      have J314 : ∀ (v1 : Int32) (v2 : Int32) (w0 : Int32) (g314 : MG) (H : Heap) (locs : List Loc) (ls : Array Slot), WP D a cA cT TM g314 H → va_S (AA a TM) s.heap H locs → lv_has ls 6 [(0, .ref (a 0)), (1, .int v1), (2, .int v2)] → m_X7_read_J314 (lpo (b_X7_read_L21) n21) v1 v2 w0 g314 = some (r, g') → W p l e (rmm 3 68) s m args below meth c H locs 0 0 Q (F0 m 314 ls [.int w0]) := by
        intro v1 v2 w0 g314 H locs ls hP hS hl h
        unfold m_X7_read_J314 at h
        refine lv_istore (lv' := [(4, .int w0), (0, .ref (a 0)), (1, .int v1), (2, .int v2)]) hx hb dX7_read_314 hl (by decide) rfl (fun ls hl => ?_)
        refine lv_aload_n hx hb dX7_read_316 rfl (lv_at hl 1 rfl) ?_
        refine lv_iload hx hb dX7_read_317 (lv_at hl 0 rfl) ?_
        obtain ⟨g319, hcal, h⟩ := bnd_s h
        refine x_VV (As := [.int w0]) hx hb hml hown hts hK hP hS (ct_X7_settle l D a cA cT hI g314 w0 g319 hcal) tM_0 (C := RX7) (F := TX7) (N := 18) rfl (g_V q934 q935 q57 q77 q936) yd_X7_settle ⟨Nat.le_of_ble_eq_true rfl, Nat.le_of_ble_eq_true rfl⟩ [] rfl (Nat.le_of_ble_eq_true rfl) hl.1 ⟨Nat.le_refl _, Nat.le_refl _⟩ dX7_read_319 (fun H locs hP hS => ?_)
        refine lv_aload_n hx hb dX7_read_322 rfl (lv_at hl 1 rfl) ?_
        refine x_getr hx hb hts inX7 hown hK hP tM_0 (C := RX7) (F := TX7) (N := 18) rfl 7 (by decide) q765 rfl 8 rfl dX7_read_323 ?_
        refine lv_aload_n hx hb dX7_read_326 rfl (lv_at hl 1 rfl) ?_
        refine x_get hx hb hts inX7 hown hK hP tM_0 (C := RX7) (F := TX7) (N := 18) rfl 9 (by decide) q767 rfl rfl dX7_read_327 ?_
        refine lv_iload hx hb dX7_read_330 (lv_at hl 0 rfl) ?_
        obtain ⟨hz, h⟩ := ite_n h
        refine x_ast hx hb hK hI hP hS tM_8 hz dX7_read_332 (fun H locs hP hS => ?_)
        refine lv_aload_n hx hb dX7_read_333 rfl (lv_at hl 1 rfl) ?_
        refine lv_dup hx hb dX7_read_334 rfl ?_
        refine x_get hx hb hts inX7 hown hK hP tM_0 (C := RX7) (F := TX7) (N := 18) rfl 9 (by decide) q767 rfl rfl dX7_read_335 ?_
        refine lv_iconst (v := (1 : Int32)) hx hb dX7_read_338 (by decide) ?_
        refine lv_iadd hx hb dX7_read_339 ?_
        refine x_put hx hb hts inX7 tyX7 tyX7_ok nmX7 hown hK hI hP hS tM_0 (C := RX7) (F := TX7) (N := 18) rfl 9 (by decide) q767 rfl rfl rfl rfl rfl dX7_read_340 (fun H locs hP hS => ?_)
        refine lv_aload_n hx hb dX7_read_343 rfl (lv_at hl 1 rfl) ?_
        refine lv_dup hx hb dX7_read_344 rfl ?_
        refine x_get hx hb hts inX7 hown hK hP tM_0 (C := RX7) (F := TX7) (N := 18) rfl 10 (by decide) q768 rfl rfl dX7_read_345 ?_
        refine lv_iconst (v := (1 : Int32)) hx hb dX7_read_348 (by decide) ?_
        refine lv_iadd hx hb dX7_read_349 ?_
        refine x_put hx hb hts inX7 tyX7 tyX7_ok nmX7 hown hK hI hP hS tM_0 (C := RX7) (F := TX7) (N := 18) rfl 10 (by decide) q768 rfl rfl rfl rfl rfl dX7_read_350 (fun H locs hP hS => ?_)
        refine lv_iconst (v := (1 : Int32)) hx hb dX7_read_353 (by decide) ?_
        refine lv_istore_n (lv' := [(3, .int (1 : Int32)), (4, .int w0), (0, .ref (a 0)), (1, .int v1), (2, .int v2)]) hx hb dX7_read_354 rfl hl (by decide) rfl (fun ls hl => ?_)
        refine lv_goto (tgt := 21) hx hb dX7_read_355 (by decide) ?_
        exact ih21 v1 v2 (1 : Int32) (g_w (g_w (g_w g319 8 (g319.1 0 9).toNatClampNeg w0) 0 9 (((g_w g319 8 (g319.1 0 9).toNatClampNeg w0).1 0 9) + (1 : Int32))) 0 10 (((g_w (g_w g319 8 (g319.1 0 9).toNatClampNeg w0) 0 9 (((g_w g319 8 (g319.1 0 9).toNatClampNeg w0).1 0 9) + (1 : Int32))).1 0 10) + (1 : Int32))) _ _ _ hP hS (lv_sub hl [2, 3, 4, 0] rfl) h
      have J295 : ∀ (v1 : Int32) (v2 : Int32) (g295 : MG) (H : Heap) (locs : List Loc) (ls : Array Slot), WP D a cA cT TM g295 H → va_S (AA a TM) s.heap H locs → lv_has ls 6 [(0, .ref (a 0)), (1, .int v1), (2, .int v2)] → m_X7_read_J295 (lpo (b_X7_read_L21) n21) v1 v2 g295 = some (r, g') → W p l e (rmm 3 68) s m args below meth c H locs 0 0 Q (F0 m 295 ls []) := by
        intro v1 v2 g295 H locs ls hP hS hl h
        unfold m_X7_read_J295 at h
        refine lv_aload_n hx hb dX7_read_295 rfl (lv_at hl 0 rfl) ?_
        refine x_getr hx hb hts inX7 hown hK hP tM_0 (C := RX7) (F := TX7) (N := 18) rfl 3 (by decide) q761 rfl 4 rfl dX7_read_296 ?_
        refine lv_aload_n hx hb dX7_read_299 rfl (lv_at hl 0 rfl) ?_
        refine x_get hx hb hts inX7 hown hK hP tM_0 (C := RX7) (F := TX7) (N := 18) rfl 10 (by decide) q768 rfl rfl dX7_read_300 ?_
        obtain ⟨hz, h⟩ := ite_n h
        refine x_ald hx hb hK hP tM_4 hz dX7_read_303 ?_
        refine lv_bipush (v := (38 : Int32)) hx hb dX7_read_304 (by decide) ?_
        refine lv_icmp_ne (tgt := 313) hx hb dX7_read_306 (by decide) (fun hc => ?_) (fun hc => ?_)
        · have h := ite_f hc h
          refine lv_iconst (v := (3 : Int32)) hx hb dX7_read_313 (by decide) ?_
          exact J314 v1 v2 (3 : Int32) g295 _ _ _ hP hS (lv_sub hl [0, 1, 2] rfl) h
        · have h := ite_t hc h
          refine lv_iconst (v := (2 : Int32)) hx hb dX7_read_309 (by decide) ?_
          refine lv_goto (tgt := 314) hx hb dX7_read_310 (by decide) ?_
          exact J314 v1 v2 (2 : Int32) g295 _ _ _ hP hS (lv_sub hl [0, 1, 2] rfl) h
      have J269 : ∀ (v1 : Int32) (v2 : Int32) (v3 : Int32) (g269 : MG) (H : Heap) (locs : List Loc) (ls : Array Slot), WP D a cA cT TM g269 H → va_S (AA a TM) s.heap H locs → lv_has ls 6 [(0, .ref (a 0)), (1, .int v1), (2, .int v2), (3, .int v3)] → m_X7_read_J269 (lpo (b_X7_read_L21) n21) v1 v2 v3 g269 = some (r, g') → W p l e (rmm 3 68) s m args below meth c H locs 0 0 Q (F0 m 269 ls []) := by
        intro v1 v2 v3 g269 H locs ls hP hS hl h
        unfold m_X7_read_J269 at h
        refine lv_iload_n hx hb dX7_read_269 rfl (lv_at hl 3 rfl) ?_
        refine lv_if_ne (tgt := 358) hx hb dX7_read_270 (by decide) (fun hc => ?_) (fun hc => ?_)
        · have h := ite_f hc h
          exact J358 v1 v2 v3 g269 _ _ _ hP hS (lv_sub hl [0, 1, 2, 3] rfl) h
        · have h := ite_t hc h
          refine lv_aload_n hx hb dX7_read_273 rfl (lv_at hl 0 rfl) ?_
          refine lv_bipush (v := (38 : Int32)) hx hb dX7_read_274 (by decide) ?_
          refine lv_bipush (v := (38 : Int32)) hx hb dX7_read_276 (by decide) ?_
          obtain ⟨r278, hcal, h⟩ := bnd_s h
          refine x_VI (As := [.int (38 : Int32), .int (38 : Int32)]) hx hb hml hown hts hK hP hS (ct_X7_isNext l D a cA cT hI g269 (38 : Int32) (38 : Int32) r278 hcal) tM_0 (C := RX7) (F := TX7) (N := 18) rfl (g_V q922 q923 q53 q77 q924) yd_X7_isNext ⟨Nat.le_of_ble_eq_true rfl, Nat.le_of_ble_eq_true rfl⟩ [] rfl (Nat.le_of_ble_eq_true rfl) hl.1 ⟨Nat.le_refl _, Nat.le_refl _⟩ dX7_read_278 (fun H locs hP hS => ?_)
          refine lv_if_ne (tgt := 295) hx hb dX7_read_281 (by decide) (fun hc => ?_) (fun hc => ?_)
          · have h := ite_f hc h
            exact J295 v1 v2 g269 _ _ _ hP hS (lv_sub hl [0, 1, 2] rfl) h
          · have h := ite_t hc h
            refine lv_aload_n hx hb dX7_read_284 rfl (lv_at hl 0 rfl) ?_
            refine lv_bipush (v := (124 : Int32)) hx hb dX7_read_285 (by decide) ?_
            refine lv_bipush (v := (124 : Int32)) hx hb dX7_read_287 (by decide) ?_
            obtain ⟨r289, hcal, h⟩ := bnd_s h
            refine x_VI (As := [.int (124 : Int32), .int (124 : Int32)]) hx hb hml hown hts hK hP hS (ct_X7_isNext l D a cA cT hI g269 (124 : Int32) (124 : Int32) r289 hcal) tM_0 (C := RX7) (F := TX7) (N := 18) rfl (g_V q922 q923 q53 q77 q924) yd_X7_isNext ⟨Nat.le_of_ble_eq_true rfl, Nat.le_of_ble_eq_true rfl⟩ [] rfl (Nat.le_of_ble_eq_true rfl) hl.1 ⟨Nat.le_refl _, Nat.le_refl _⟩ dX7_read_289 (fun H locs hP hS => ?_)
            refine lv_if_eq (tgt := 358) hx hb dX7_read_292 (by decide) (fun hc => ?_) (fun hc => ?_)
            · have h := ite_t hc h
              exact J358 v1 v2 v3 g269 _ _ _ hP hS (lv_sub hl [0, 1, 2, 3] rfl) h
            · have h := ite_f hc h
              exact J295 v1 v2 g269 _ _ _ hP hS (lv_sub hl [0, 1, 2] rfl) h
      have J196 : ∀ (v1 : Int32) (w0 : Int32) (g196 : MG) (H : Heap) (locs : List Loc) (ls : Array Slot), WP D a cA cT TM g196 H → va_S (AA a TM) s.heap H locs → lv_has ls 6 [(0, .ref (a 0)), (1, .int v1)] → m_X7_read_J196 (lpo (b_X7_read_L21) n21) v1 w0 g196 = some (r, g') → W p l e (rmm 3 68) s m args below meth c H locs 0 0 Q (F0 m 196 ls [.int w0]) := by
        intro v1 w0 g196 H locs ls hP hS hl h
        unfold m_X7_read_J196 at h
        refine lv_istore (lv' := [(4, .int w0), (0, .ref (a 0)), (1, .int v1)]) hx hb dX7_read_196 hl (by decide) rfl (fun ls hl => ?_)
        refine lv_aload_n hx hb dX7_read_198 rfl (lv_at hl 1 rfl) ?_
        refine lv_dup hx hb dX7_read_199 rfl ?_
        refine x_get hx hb hts inX7 hown hK hP tM_0 (C := RX7) (F := TX7) (N := 18) rfl 10 (by decide) q768 rfl rfl dX7_read_200 ?_
        refine lv_iconst (v := (1 : Int32)) hx hb dX7_read_203 (by decide) ?_
        refine lv_iadd hx hb dX7_read_204 ?_
        refine x_put hx hb hts inX7 tyX7 tyX7_ok nmX7 hown hK hI hP hS tM_0 (C := RX7) (F := TX7) (N := 18) rfl 10 (by decide) q768 rfl rfl rfl rfl rfl dX7_read_205 (fun H locs hP hS => ?_)
        refine lv_aload_n hx hb dX7_read_208 rfl (lv_at hl 1 rfl) ?_
        obtain ⟨r209, hcal, h⟩ := bnd_s h
        refine x_VI (As := []) hx hb hml hown hts hK hP hS (ct_X7_isSign l D a cA cT hI (g_w g196 0 10 ((g196.1 0 10) + (1 : Int32))) r209 hcal) tM_0 (C := RX7) (F := TX7) (N := 18) rfl (g_V q925 q926 q54 q77 q927) yd_X7_isSign ⟨Nat.le_of_ble_eq_true rfl, Nat.le_of_ble_eq_true rfl⟩ [] rfl (Nat.le_of_ble_eq_true rfl) hl.1 ⟨Nat.le_refl _, Nat.le_refl _⟩ dX7_read_209 (fun H locs hP hS => ?_)
        refine lv_if_ne (tgt := 220) hx hb dX7_read_212 (by decide) (fun hc => ?_) (fun hc => ?_)
        · have h := ite_f hc h
          refine lv_aload_n hx hb dX7_read_220 rfl (lv_at hl 1 rfl) ?_
          refine x_getr hx hb hts inX7 hown hK hP tM_0 (C := RX7) (F := TX7) (N := 18) rfl 3 (by decide) q761 rfl 4 rfl dX7_read_221 ?_
          refine lv_aload_n hx hb dX7_read_224 rfl (lv_at hl 1 rfl) ?_
          refine x_get hx hb hts inX7 hown hK hP tM_0 (C := RX7) (F := TX7) (N := 18) rfl 10 (by decide) q768 rfl rfl dX7_read_225 ?_
          obtain ⟨hz, h⟩ := ite_n h
          refine x_ald hx hb hK hP tM_4 hz dX7_read_228 ?_
          refine lv_istore (lv' := [(5, .int ((g_w g196 0 10 ((g196.1 0 10) + (1 : Int32))).1 4 ((g_w g196 0 10 ((g196.1 0 10) + (1 : Int32))).1 0 10).toNatClampNeg)), (4, .int w0), (0, .ref (a 0)), (1, .int v1)]) hx hb dX7_read_229 hl (by decide) rfl (fun ls hl => ?_)
          refine lv_aload_n hx hb dX7_read_231 rfl (lv_at hl 2 rfl) ?_
          refine lv_dup hx hb dX7_read_232 rfl ?_
          refine x_get hx hb hts inX7 hown hK hP tM_0 (C := RX7) (F := TX7) (N := 18) rfl 10 (by decide) q768 rfl rfl dX7_read_233 ?_
          refine lv_iconst (v := (1 : Int32)) hx hb dX7_read_236 (by decide) ?_
          refine lv_iadd hx hb dX7_read_237 ?_
          refine x_put hx hb hts inX7 tyX7 tyX7_ok nmX7 hown hK hI hP hS tM_0 (C := RX7) (F := TX7) (N := 18) rfl 10 (by decide) q768 rfl rfl rfl rfl rfl dX7_read_238 (fun H locs hP hS => ?_)
          refine lv_aload_n hx hb dX7_read_241 rfl (lv_at hl 2 rfl) ?_
          refine lv_iload hx hb dX7_read_242 (lv_at hl 1 rfl) ?_
          refine lv_iload hx hb dX7_read_244 (lv_at hl 0 rfl) ?_
          obtain ⟨r246, g246, hcal, h⟩ := bnd2_s h
          refine x_VI (As := [.int w0, .int ((g_w g196 0 10 ((g196.1 0 10) + (1 : Int32))).1 4 ((g_w g196 0 10 ((g196.1 0 10) + (1 : Int32))).1 0 10).toNatClampNeg)]) hx hb hml hown hts hK hP hS (ct_X7_readNumber l D a cA cT hI (g_w (g_w g196 0 10 ((g196.1 0 10) + (1 : Int32))) 0 10 (((g_w g196 0 10 ((g196.1 0 10) + (1 : Int32))).1 0 10) + (1 : Int32))) w0 ((g_w g196 0 10 ((g196.1 0 10) + (1 : Int32))).1 4 ((g_w g196 0 10 ((g196.1 0 10) + (1 : Int32))).1 0 10).toNatClampNeg) r246 g246 hcal) tM_0 (C := RX7) (F := TX7) (N := 18) rfl (g_V q928 q929 q55 q77 q930) yd_X7_readNumber ⟨Nat.le_of_ble_eq_true rfl, Nat.le_of_ble_eq_true rfl⟩ [] rfl (Nat.le_of_ble_eq_true rfl) hl.1 ⟨Nat.le_refl _, Nat.le_refl _⟩ dX7_read_246 (fun H locs hP hS => ?_)
          refine lv_if_ne (tgt := 257) hx hb dX7_read_249 (by decide) (fun hc => ?_) (fun hc => ?_)
          · have h := ite_f hc h
            refine lv_aload_n hx hb dX7_read_257 rfl (lv_at hl 2 rfl) ?_
            refine lv_iconst (v := (1 : Int32)) hx hb dX7_read_258 (by decide) ?_
            obtain ⟨g259, hcal, h⟩ := bnd_s h
            refine x_VV (As := [.int (1 : Int32)]) hx hb hml hown hts hK hP hS (ct_X7_settle l D a cA cT hI g246 (1 : Int32) g259 hcal) tM_0 (C := RX7) (F := TX7) (N := 18) rfl (g_V q934 q935 q57 q77 q936) yd_X7_settle ⟨Nat.le_of_ble_eq_true rfl, Nat.le_of_ble_eq_true rfl⟩ [] rfl (Nat.le_of_ble_eq_true rfl) hl.1 ⟨Nat.le_refl _, Nat.le_refl _⟩ dX7_read_259 (fun H locs hP hS => ?_)
            refine lv_iconst (v := (0 : Int32)) hx hb dX7_read_262 (by decide) ?_
            refine lv_istore_n (lv' := [(2, .int (0 : Int32)), (5, .int ((g_w g196 0 10 ((g196.1 0 10) + (1 : Int32))).1 4 ((g_w g196 0 10 ((g196.1 0 10) + (1 : Int32))).1 0 10).toNatClampNeg)), (4, .int w0), (0, .ref (a 0)), (1, .int v1)]) hx hb dX7_read_263 rfl hl (by decide) rfl (fun ls hl => ?_)
            refine lv_iconst (v := (0 : Int32)) hx hb dX7_read_264 (by decide) ?_
            refine lv_istore_n (lv' := [(3, .int (0 : Int32)), (2, .int (0 : Int32)), (5, .int ((g_w g196 0 10 ((g196.1 0 10) + (1 : Int32))).1 4 ((g_w g196 0 10 ((g196.1 0 10) + (1 : Int32))).1 0 10).toNatClampNeg)), (4, .int w0), (0, .ref (a 0)), (1, .int v1)]) hx hb dX7_read_265 rfl hl (by decide) rfl (fun ls hl => ?_)
            refine lv_goto (tgt := 21) hx hb dX7_read_266 (by decide) ?_
            exact ih21 v1 (0 : Int32) (0 : Int32) g259 _ _ _ hP hS (lv_sub hl [4, 5, 1, 0] rfl) h
          · have h := ite_t hc h
            refine lv_aload_n hx hb dX7_read_252 rfl (lv_at hl 2 rfl) ?_
            refine x_get hx hb hts inX7 hown hK hP tM_0 (C := RX7) (F := TX7) (N := 18) rfl 10 (by decide) q768 rfl rfl dX7_read_253 ?_
            obtain ⟨rfl, rfl⟩ := Prod.mk.inj (Option.some.inj h)
            exact hend _ _ _ _ dX7_read_256 rfl hP hS
        · have h := ite_t hc h
          refine lv_aload_n hx hb dX7_read_215 rfl (lv_at hl 1 rfl) ?_
          refine x_get hx hb hts inX7 hown hK hP tM_0 (C := RX7) (F := TX7) (N := 18) rfl 10 (by decide) q768 rfl rfl dX7_read_216 ?_
          obtain ⟨rfl, rfl⟩ := Prod.mk.inj (Option.some.inj h)
          exact hend _ _ _ _ dX7_read_219 rfl hP hS
      have J176 : ∀ (v1 : Int32) (g176 : MG) (H : Heap) (locs : List Loc) (ls : Array Slot), WP D a cA cT TM g176 H → va_S (AA a TM) s.heap H locs → lv_has ls 6 [(0, .ref (a 0)), (1, .int v1)] → m_X7_read_J176 (lpo (b_X7_read_L21) n21) v1 g176 = some (r, g') → W p l e (rmm 3 68) s m args below meth c H locs 0 0 Q (F0 m 176 ls []) := by
        intro v1 g176 H locs ls hP hS hl h
        unfold m_X7_read_J176 at h
        refine lv_aload_n hx hb dX7_read_176 rfl (lv_at hl 0 rfl) ?_
        refine x_getr hx hb hts inX7 hown hK hP tM_0 (C := RX7) (F := TX7) (N := 18) rfl 3 (by decide) q761 rfl 4 rfl dX7_read_177 ?_
        refine lv_aload_n hx hb dX7_read_180 rfl (lv_at hl 0 rfl) ?_
        refine x_get hx hb hts inX7 hown hK hP tM_0 (C := RX7) (F := TX7) (N := 18) rfl 10 (by decide) q768 rfl rfl dX7_read_181 ?_
        obtain ⟨hz, h⟩ := ite_n h
        refine x_ald hx hb hK hP tM_4 hz dX7_read_184 ?_
        refine lv_bipush (v := (107 : Int32)) hx hb dX7_read_185 (by decide) ?_
        refine lv_icmp_ne (tgt := 194) hx hb dX7_read_187 (by decide) (fun hc => ?_) (fun hc => ?_)
        · have h := ite_f hc h
          refine lv_bipush (v := (6 : Int32)) hx hb dX7_read_194 (by decide) ?_
          exact J196 v1 (6 : Int32) g176 _ _ _ hP hS (lv_sub hl [0, 1] rfl) h
        · have h := ite_t hc h
          refine lv_iconst (v := (5 : Int32)) hx hb dX7_read_190 (by decide) ?_
          refine lv_goto (tgt := 196) hx hb dX7_read_191 (by decide) ?_
          exact J196 v1 (5 : Int32) g176 _ _ _ hP hS (lv_sub hl [0, 1] rfl) h
      have J150 : ∀ (v1 : Int32) (v2 : Int32) (v3 : Int32) (g150 : MG) (H : Heap) (locs : List Loc) (ls : Array Slot), WP D a cA cT TM g150 H → va_S (AA a TM) s.heap H locs → lv_has ls 6 [(0, .ref (a 0)), (1, .int v1), (2, .int v2), (3, .int v3)] → m_X7_read_J150 (lpo (b_X7_read_L21) n21) v1 v2 v3 g150 = some (r, g') → W p l e (rmm 3 68) s m args below meth c H locs 0 0 Q (F0 m 150 ls []) := by
        intro v1 v2 v3 g150 H locs ls hP hS hl h
        unfold m_X7_read_J150 at h
        refine lv_iload_n hx hb dX7_read_150 rfl (lv_at hl 3 rfl) ?_
        refine lv_if_eq (tgt := 269) hx hb dX7_read_151 (by decide) (fun hc => ?_) (fun hc => ?_)
        · have h := ite_t hc h
          exact J269 v1 v2 v3 g150 _ _ _ hP hS (lv_sub hl [0, 1, 2, 3] rfl) h
        · have h := ite_f hc h
          refine lv_aload_n hx hb dX7_read_154 rfl (lv_at hl 0 rfl) ?_
          refine lv_bipush (v := (107 : Int32)) hx hb dX7_read_155 (by decide) ?_
          refine lv_bipush (v := (107 : Int32)) hx hb dX7_read_157 (by decide) ?_
          obtain ⟨r159, hcal, h⟩ := bnd_s h
          refine x_VI (As := [.int (107 : Int32), .int (107 : Int32)]) hx hb hml hown hts hK hP hS (ct_X7_isNext l D a cA cT hI g150 (107 : Int32) (107 : Int32) r159 hcal) tM_0 (C := RX7) (F := TX7) (N := 18) rfl (g_V q922 q923 q53 q77 q924) yd_X7_isNext ⟨Nat.le_of_ble_eq_true rfl, Nat.le_of_ble_eq_true rfl⟩ [] rfl (Nat.le_of_ble_eq_true rfl) hl.1 ⟨Nat.le_refl _, Nat.le_refl _⟩ dX7_read_159 (fun H locs hP hS => ?_)
          refine lv_if_ne (tgt := 176) hx hb dX7_read_162 (by decide) (fun hc => ?_) (fun hc => ?_)
          · have h := ite_f hc h
            exact J176 v1 g150 _ _ _ hP hS (lv_sub hl [0, 1] rfl) h
          · have h := ite_t hc h
            refine lv_aload_n hx hb dX7_read_165 rfl (lv_at hl 0 rfl) ?_
            refine lv_bipush (v := (118 : Int32)) hx hb dX7_read_166 (by decide) ?_
            refine lv_bipush (v := (118 : Int32)) hx hb dX7_read_168 (by decide) ?_
            obtain ⟨r170, hcal, h⟩ := bnd_s h
            refine x_VI (As := [.int (118 : Int32), .int (118 : Int32)]) hx hb hml hown hts hK hP hS (ct_X7_isNext l D a cA cT hI g150 (118 : Int32) (118 : Int32) r170 hcal) tM_0 (C := RX7) (F := TX7) (N := 18) rfl (g_V q922 q923 q53 q77 q924) yd_X7_isNext ⟨Nat.le_of_ble_eq_true rfl, Nat.le_of_ble_eq_true rfl⟩ [] rfl (Nat.le_of_ble_eq_true rfl) hl.1 ⟨Nat.le_refl _, Nat.le_refl _⟩ dX7_read_170 (fun H locs hP hS => ?_)
            refine lv_if_eq (tgt := 269) hx hb dX7_read_173 (by decide) (fun hc => ?_) (fun hc => ?_)
            · have h := ite_t hc h
              exact J269 v1 v2 v3 g150 _ _ _ hP hS (lv_sub hl [0, 1, 2, 3] rfl) h
            · have h := ite_f hc h
              exact J176 v1 g150 _ _ _ hP hS (lv_sub hl [0, 1] rfl) h
      have J92 : ∀ (v1 : Int32) (v2 : Int32) (v3 : Int32) (g92 : MG) (H : Heap) (locs : List Loc) (ls : Array Slot), WP D a cA cT TM g92 H → va_S (AA a TM) s.heap H locs → lv_has ls 6 [(0, .ref (a 0)), (1, .int v1), (2, .int v2), (3, .int v3)] → m_X7_read_J92 (lpo (b_X7_read_L21) n21) v1 v2 v3 g92 = some (r, g') → W p l e (rmm 3 68) s m args below meth c H locs 0 0 Q (F0 m 92 ls []) := by
        intro v1 v2 v3 g92 H locs ls hP hS hl h
        unfold m_X7_read_J92 at h
        refine lv_iload_n hx hb dX7_read_92 rfl (lv_at hl 3 rfl) ?_
        refine lv_if_eq (tgt := 150) hx hb dX7_read_93 (by decide) (fun hc => ?_) (fun hc => ?_)
        · have h := ite_t hc h
          exact J150 v1 v2 v3 g92 _ _ _ hP hS (lv_sub hl [0, 1, 2, 3] rfl) h
        · have h := ite_f hc h
          refine lv_aload_n hx hb dX7_read_96 rfl (lv_at hl 0 rfl) ?_
          refine lv_bipush (v := (40 : Int32)) hx hb dX7_read_97 (by decide) ?_
          refine lv_bipush (v := (40 : Int32)) hx hb dX7_read_99 (by decide) ?_
          obtain ⟨r101, hcal, h⟩ := bnd_s h
          refine x_VI (As := [.int (40 : Int32), .int (40 : Int32)]) hx hb hml hown hts hK hP hS (ct_X7_isNext l D a cA cT hI g92 (40 : Int32) (40 : Int32) r101 hcal) tM_0 (C := RX7) (F := TX7) (N := 18) rfl (g_V q922 q923 q53 q77 q924) yd_X7_isNext ⟨Nat.le_of_ble_eq_true rfl, Nat.le_of_ble_eq_true rfl⟩ [] rfl (Nat.le_of_ble_eq_true rfl) hl.1 ⟨Nat.le_refl _, Nat.le_refl _⟩ dX7_read_101 (fun H locs hP hS => ?_)
          refine lv_if_eq (tgt := 150) hx hb dX7_read_104 (by decide) (fun hc => ?_) (fun hc => ?_)
          · have h := ite_t hc h
            exact J150 v1 v2 v3 g92 _ _ _ hP hS (lv_sub hl [0, 1, 2, 3] rfl) h
          · have h := ite_f hc h
            refine lv_iload_n hx hb dX7_read_107 rfl (lv_at hl 1 rfl) ?_
            refine lv_iconst (v := (5 : Int32)) hx hb dX7_read_108 (by decide) ?_
            refine lv_icmp_ge (tgt := 150) hx hb dX7_read_109 (by decide) (fun hc => ?_) (fun hc => ?_)
            · have h := ite_t hc h
              exact J150 v1 v2 v3 g92 _ _ _ hP hS (lv_sub hl [0, 1, 2, 3] rfl) h
            · have h := ite_f hc h
              refine lv_aload_n hx hb dX7_read_112 rfl (lv_at hl 0 rfl) ?_
              refine x_getr hx hb hts inX7 hown hK hP tM_0 (C := RX7) (F := TX7) (N := 18) rfl 7 (by decide) q765 rfl 8 rfl dX7_read_113 ?_
              refine lv_aload_n hx hb dX7_read_116 rfl (lv_at hl 0 rfl) ?_
              refine x_get hx hb hts inX7 hown hK hP tM_0 (C := RX7) (F := TX7) (N := 18) rfl 9 (by decide) q767 rfl rfl dX7_read_117 ?_
              refine lv_iconst (v := (4 : Int32)) hx hb dX7_read_120 (by decide) ?_
              obtain ⟨hz, h⟩ := ite_n h
              refine x_ast hx hb hK hI hP hS tM_8 hz dX7_read_121 (fun H locs hP hS => ?_)
              refine lv_aload_n hx hb dX7_read_122 rfl (lv_at hl 0 rfl) ?_
              refine lv_dup hx hb dX7_read_123 rfl ?_
              refine x_get hx hb hts inX7 hown hK hP tM_0 (C := RX7) (F := TX7) (N := 18) rfl 9 (by decide) q767 rfl rfl dX7_read_124 ?_
              refine lv_iconst (v := (1 : Int32)) hx hb dX7_read_127 (by decide) ?_
              refine lv_iadd hx hb dX7_read_128 ?_
              refine x_put hx hb hts inX7 tyX7 tyX7_ok nmX7 hown hK hI hP hS tM_0 (C := RX7) (F := TX7) (N := 18) rfl 9 (by decide) q767 rfl rfl rfl rfl rfl dX7_read_129 (fun H locs hP hS => ?_)
              refine lv_iinc (v := (v1 + (1 : Int32))) (lv' := [(1, .int (v1 + (1 : Int32))), (0, .ref (a 0)), (2, .int v2), (3, .int v3)]) hx hb dX7_read_132 hl (k := 1) rfl rfl (by decide) rfl (fun ls hl => ?_)
              refine lv_iconst (v := (0 : Int32)) hx hb dX7_read_135 (by decide) ?_
              refine lv_istore_n (lv' := [(2, .int (0 : Int32)), (1, .int (v1 + (1 : Int32))), (0, .ref (a 0)), (3, .int v3)]) hx hb dX7_read_136 rfl hl (by decide) rfl (fun ls hl => ?_)
              refine lv_aload_n hx hb dX7_read_137 rfl (lv_at hl 2 rfl) ?_
              refine lv_dup hx hb dX7_read_138 rfl ?_
              refine x_get hx hb hts inX7 hown hK hP tM_0 (C := RX7) (F := TX7) (N := 18) rfl 10 (by decide) q768 rfl rfl dX7_read_139 ?_
              refine lv_iconst (v := (1 : Int32)) hx hb dX7_read_142 (by decide) ?_
              refine lv_iadd hx hb dX7_read_143 ?_
              refine x_put hx hb hts inX7 tyX7 tyX7_ok nmX7 hown hK hI hP hS tM_0 (C := RX7) (F := TX7) (N := 18) rfl 10 (by decide) q768 rfl rfl rfl rfl rfl dX7_read_144 (fun H locs hP hS => ?_)
              refine lv_goto (tgt := 21) hx hb dX7_read_147 (by decide) ?_
              exact ih21 (v1 + (1 : Int32)) (0 : Int32) v3 (g_w (g_w (g_w g92 8 (g92.1 0 9).toNatClampNeg (4 : Int32)) 0 9 (((g_w g92 8 (g92.1 0 9).toNatClampNeg (4 : Int32)).1 0 9) + (1 : Int32))) 0 10 (((g_w (g_w g92 8 (g92.1 0 9).toNatClampNeg (4 : Int32)) 0 9 (((g_w g92 8 (g92.1 0 9).toNatClampNeg (4 : Int32)).1 0 9) + (1 : Int32))).1 0 10) + (1 : Int32))) _ _ _ hP hS (lv_sub hl [2, 1, 0, 3] rfl) h
      have J36 : ∀ (v1 : Int32) (v2 : Int32) (v3 : Int32) (g36 : MG) (H : Heap) (locs : List Loc) (ls : Array Slot), WP D a cA cT TM g36 H → va_S (AA a TM) s.heap H locs → lv_has ls 6 [(0, .ref (a 0)), (1, .int v1), (2, .int v2), (3, .int v3)] → m_X7_read_J36 (lpo (b_X7_read_L21) n21) v1 v2 v3 g36 = some (r, g') → W p l e (rmm 3 68) s m args below meth c H locs 0 0 Q (F0 m 36 ls []) := by
        intro v1 v2 v3 g36 H locs ls hP hS hl h
        unfold m_X7_read_J36 at h
        refine lv_iload_n hx hb dX7_read_36 rfl (lv_at hl 3 rfl) ?_
        refine lv_if_eq (tgt := 92) hx hb dX7_read_37 (by decide) (fun hc => ?_) (fun hc => ?_)
        · have h := ite_t hc h
          exact J92 v1 v2 v3 g36 _ _ _ hP hS (lv_sub hl [0, 1, 2, 3] rfl) h
        · have h := ite_f hc h
          refine lv_aload_n hx hb dX7_read_40 rfl (lv_at hl 0 rfl) ?_
          refine lv_bipush (v := (33 : Int32)) hx hb dX7_read_41 (by decide) ?_
          refine lv_bipush (v := (33 : Int32)) hx hb dX7_read_43 (by decide) ?_
          obtain ⟨r45, hcal, h⟩ := bnd_s h
          refine x_VI (As := [.int (33 : Int32), .int (33 : Int32)]) hx hb hml hown hts hK hP hS (ct_X7_isNext l D a cA cT hI g36 (33 : Int32) (33 : Int32) r45 hcal) tM_0 (C := RX7) (F := TX7) (N := 18) rfl (g_V q922 q923 q53 q77 q924) yd_X7_isNext ⟨Nat.le_of_ble_eq_true rfl, Nat.le_of_ble_eq_true rfl⟩ [] rfl (Nat.le_of_ble_eq_true rfl) hl.1 ⟨Nat.le_refl _, Nat.le_refl _⟩ dX7_read_45 (fun H locs hP hS => ?_)
          refine lv_if_eq (tgt := 92) hx hb dX7_read_48 (by decide) (fun hc => ?_) (fun hc => ?_)
          · have h := ite_t hc h
            exact J92 v1 v2 v3 g36 _ _ _ hP hS (lv_sub hl [0, 1, 2, 3] rfl) h
          · have h := ite_f hc h
            refine lv_iload_n hx hb dX7_read_51 rfl (lv_at hl 2 rfl) ?_
            refine lv_iconst (v := (5 : Int32)) hx hb dX7_read_52 (by decide) ?_
            refine lv_icmp_ge (tgt := 92) hx hb dX7_read_53 (by decide) (fun hc => ?_) (fun hc => ?_)
            · have h := ite_t hc h
              exact J92 v1 v2 v3 g36 _ _ _ hP hS (lv_sub hl [0, 1, 2, 3] rfl) h
            · have h := ite_f hc h
              refine lv_aload_n hx hb dX7_read_56 rfl (lv_at hl 0 rfl) ?_
              refine x_getr hx hb hts inX7 hown hK hP tM_0 (C := RX7) (F := TX7) (N := 18) rfl 7 (by decide) q765 rfl 8 rfl dX7_read_57 ?_
              refine lv_aload_n hx hb dX7_read_60 rfl (lv_at hl 0 rfl) ?_
              refine x_get hx hb hts inX7 hown hK hP tM_0 (C := RX7) (F := TX7) (N := 18) rfl 9 (by decide) q767 rfl rfl dX7_read_61 ?_
              refine lv_iconst (v := (1 : Int32)) hx hb dX7_read_64 (by decide) ?_
              obtain ⟨hz, h⟩ := ite_n h
              refine x_ast hx hb hK hI hP hS tM_8 hz dX7_read_65 (fun H locs hP hS => ?_)
              refine lv_aload_n hx hb dX7_read_66 rfl (lv_at hl 0 rfl) ?_
              refine lv_dup hx hb dX7_read_67 rfl ?_
              refine x_get hx hb hts inX7 hown hK hP tM_0 (C := RX7) (F := TX7) (N := 18) rfl 9 (by decide) q767 rfl rfl dX7_read_68 ?_
              refine lv_iconst (v := (1 : Int32)) hx hb dX7_read_71 (by decide) ?_
              refine lv_iadd hx hb dX7_read_72 ?_
              refine x_put hx hb hts inX7 tyX7 tyX7_ok nmX7 hown hK hI hP hS tM_0 (C := RX7) (F := TX7) (N := 18) rfl 9 (by decide) q767 rfl rfl rfl rfl rfl dX7_read_73 (fun H locs hP hS => ?_)
              refine lv_iinc (v := (v2 + (1 : Int32))) (lv' := [(2, .int (v2 + (1 : Int32))), (0, .ref (a 0)), (1, .int v1), (3, .int v3)]) hx hb dX7_read_76 hl (k := 2) rfl rfl (by decide) rfl (fun ls hl => ?_)
              refine lv_aload_n hx hb dX7_read_79 rfl (lv_at hl 1 rfl) ?_
              refine lv_dup hx hb dX7_read_80 rfl ?_
              refine x_get hx hb hts inX7 hown hK hP tM_0 (C := RX7) (F := TX7) (N := 18) rfl 10 (by decide) q768 rfl rfl dX7_read_81 ?_
              refine lv_iconst (v := (1 : Int32)) hx hb dX7_read_84 (by decide) ?_
              refine lv_iadd hx hb dX7_read_85 ?_
              refine x_put hx hb hts inX7 tyX7 tyX7_ok nmX7 hown hK hI hP hS tM_0 (C := RX7) (F := TX7) (N := 18) rfl 10 (by decide) q768 rfl rfl rfl rfl rfl dX7_read_86 (fun H locs hP hS => ?_)
              refine lv_goto (tgt := 21) hx hb dX7_read_89 (by decide) ?_
              exact ih21 v1 (v2 + (1 : Int32)) v3 (g_w (g_w (g_w g36 8 (g36.1 0 9).toNatClampNeg (1 : Int32)) 0 9 (((g_w g36 8 (g36.1 0 9).toNatClampNeg (1 : Int32)).1 0 9) + (1 : Int32))) 0 10 (((g_w (g_w g36 8 (g36.1 0 9).toNatClampNeg (1 : Int32)) 0 9 (((g_w g36 8 (g36.1 0 9).toNatClampNeg (1 : Int32)).1 0 9) + (1 : Int32))).1 0 10) + (1 : Int32))) _ _ _ hP hS (lv_sub hl [1, 2, 0, 3] rfl) h
      refine lv_iload_n hx hb dX7_read_21 rfl (lv_at hl 3 rfl) ?_
      refine lv_if_ne (tgt := 36) hx hb dX7_read_22 (by decide) (fun hc => ?_) (fun hc => ?_)
      · have h := ite_f hc h
        exact J36 v1 v2 v3 g21 _ _ _ hP hS (lv_sub hl [0, 1, 2, 3] rfl) h
      · have h := ite_t hc h
        refine lv_aload_n hx hb dX7_read_25 rfl (lv_at hl 0 rfl) ?_
        refine x_get hx hb hts inX7 hown hK hP tM_0 (C := RX7) (F := TX7) (N := 18) rfl 10 (by decide) q768 rfl rfl dX7_read_26 ?_
        refine lv_aload_n hx hb dX7_read_29 rfl (lv_at hl 0 rfl) ?_
        refine x_get hx hb hts inX7 hown hK hP tM_0 (C := RX7) (F := TX7) (N := 18) rfl 16 (by decide) q774 rfl rfl dX7_read_30 ?_
        refine lv_icmp_ge (tgt := 418) hx hb dX7_read_33 (by decide) (fun hc => ?_) (fun hc => ?_)
        · have h := ite_t hc h
          refine lv_iload_n hx hb dX7_read_418 rfl (lv_at hl 1 rfl) ?_
          refine lv_if_le (tgt := 427) hx hb dX7_read_419 (by decide) (fun hc => ?_) (fun hc => ?_)
          · have h := ite_t hc h
            refine lv_aload_n hx hb dX7_read_427 rfl (lv_at hl 0 rfl) ?_
            refine lv_iconst (v := (3 : Int32)) hx hb dX7_read_428 (by decide) ?_
            obtain ⟨g429, hcal, h⟩ := bnd_s h
            refine x_VV (As := [.int (3 : Int32)]) hx hb hml hown hts hK hP hS (ct_X7_settle l D a cA cT hI g21 (3 : Int32) g429 hcal) tM_0 (C := RX7) (F := TX7) (N := 18) rfl (g_V q934 q935 q57 q77 q936) yd_X7_settle ⟨Nat.le_of_ble_eq_true rfl, Nat.le_of_ble_eq_true rfl⟩ [] rfl (Nat.le_of_ble_eq_true rfl) hl.1 ⟨Nat.le_refl _, Nat.le_refl _⟩ dX7_read_429 (fun H locs hP hS => ?_)
            refine lv_sipush (v := (-1005 : Int32)) hx hb dX7_read_432 (by decide) ?_
            obtain ⟨rfl, rfl⟩ := Prod.mk.inj (Option.some.inj h)
            exact hend _ _ _ _ dX7_read_435 rfl hP hS
          · have h := ite_f hc h
            refine lv_aload_n hx hb dX7_read_422 rfl (lv_at hl 0 rfl) ?_
            refine x_get hx hb hts inX7 hown hK hP tM_0 (C := RX7) (F := TX7) (N := 18) rfl 16 (by decide) q774 rfl rfl dX7_read_423 ?_
            obtain ⟨rfl, rfl⟩ := Prod.mk.inj (Option.some.inj h)
            exact hend _ _ _ _ dX7_read_426 rfl hP hS
        · have h := ite_f hc h
          exact J36 v1 v2 v3 g21 _ _ _ hP hS (lv_sub hl [0, 1, 2, 3] rfl) h
  exact K21 fuelN (0 : Int32) (0 : Int32) (1 : Int32) (g_w (g_w (g_w g 0 8 (0 : Int32)) 0 9 (0 : Int32)) 0 10 (0 : Int32)) _ _ _ hP hS (lv_sub hl [3, 2, 1, 0] rfl) h
set_option maxHeartbeats 4000000 in
set_option maxRecDepth 100000 in
theorem ct_X7_fault (l : Launch) (D : va_G) (a : Nat → Nat) (cA cT : ClassId) (hI : WI a TM) (g : MG)   (r : Int32) (g' : MG) (h : m_X7_fault g = some (r, g')) :
    CtI l D a cA cT TM yX7_fault (Cond.code yX7_fault cX7_fault 1 (some .int) :: lw_all) (rmm 4 93) [.ref (a 0)] g r g' := by
  refine CtI.of (by decide +kernel) (Nat.le_of_ble_eq_true rfl) ?_
  intro p e s m args below meth c Q ls hx hb hml hown hts hK hP hS hl hend
  have hl : lv_has ls 1 [(0, .ref (a 0))] := hl
  unfold m_X7_fault at h
  refine lv_aload_n hx hb dX7_fault_0 rfl (lv_at hl 0 rfl) ?_
  obtain ⟨r1, g1, hcal, h⟩ := bnd2_s h
  refine x_VI (As := []) hx hb hml hown hts hK hP hS (ct_X7_read l D a cA cT hI g r1 g1 hcal) tM_0 (C := RX7) (F := TX7) (N := 18) rfl (g_V q919 q920 q52 q77 q921) yd_X7_read ⟨Nat.le_of_ble_eq_true rfl, Nat.le_of_ble_eq_true rfl⟩ [] rfl (Nat.le_of_ble_eq_true rfl) hl.1 ⟨Nat.le_refl _, Nat.le_refl _⟩ dX7_fault_1 (fun H locs hP hS => ?_)
  obtain ⟨rfl, rfl⟩ := Prod.mk.inj (Option.some.inj h)
  exact hend _ _ _ _ dX7_fault_4 rfl hP hS
set_option maxHeartbeats 4000000 in
set_option maxRecDepth 100000 in
theorem ct_X7_undo (l : Launch) (D : va_G) (a : Nat → Nat) (cA cT : ClassId) (hI : WI a TM) (g : MG)   (r : Int32) (g' : MG) (h : m_X7_undo g = some (r, g')) :
    CtI l D a cA cT TM yX7_undo (Cond.code yX7_undo cX7_undo 2 (some .int) :: lw_all) (rmm 0 0) [.ref (a 0)] g r g' := by
  refine CtI.of (by decide +kernel) (Nat.le_of_ble_eq_true rfl) ?_
  intro p e s m args below meth c Q ls hx hb hml hown hts hK hP hS hl hend
  have hl : lv_has ls 2 [(0, .ref (a 0))] := hl
  unfold m_X7_undo at h
  refine lv_aload_n hx hb dX7_undo_0 rfl (lv_at hl 0 rfl) ?_
  refine x_get hx hb hts inX7 hown hK hP tM_0 (C := RX7) (F := TX7) (N := 18) rfl 15 (by decide) q773 rfl rfl dX7_undo_1 ?_
  refine lv_if_ne (tgt := 11) hx hb dX7_undo_4 (by decide) (fun hc => ?_) (fun hc => ?_)
  · have h := ite_f hc h
    refine lv_aload_n hx hb dX7_undo_11 rfl (lv_at hl 0 rfl) ?_
    refine lv_dup hx hb dX7_undo_12 rfl ?_
    refine x_get hx hb hts inX7 hown hK hP tM_0 (C := RX7) (F := TX7) (N := 18) rfl 15 (by decide) q773 rfl rfl dX7_undo_13 ?_
    refine lv_iconst (v := (1 : Int32)) hx hb dX7_undo_16 (by decide) ?_
    refine lv_isub hx hb dX7_undo_17 ?_
    refine x_put hx hb hts inX7 tyX7 tyX7_ok nmX7 hown hK hI hP hS tM_0 (C := RX7) (F := TX7) (N := 18) rfl 15 (by decide) q773 rfl rfl rfl rfl rfl dX7_undo_18 (fun H locs hP hS => ?_)
    refine lv_iconst (v := (0 : Int32)) hx hb dX7_undo_21 (by decide) ?_
    refine lv_istore_n (lv' := [(1, .int (0 : Int32)), (0, .ref (a 0))]) hx hb dX7_undo_22 rfl hl (by decide) rfl (fun ls hl => ?_)
    have K23 : ∀ (n23 : Nat) (v1 : Int32) (g23 : MG) (H : Heap) (locs : List Loc) (ls : Array Slot), WP D a cA cT TM g23 H → va_S (AA a TM) s.heap H locs → lv_has ls 2 [(0, .ref (a 0)), (1, .int v1)] → lpo (b_X7_undo_L23) n23 (v1, g23) = some (r, g') → W p l e (rmm 0 0) s m args below meth c H locs 0 0 Q (F0 m 23 ls []) := by
      intro n23
      induction n23 with
      | zero => intro v1 g23 H locs ls hP hS hl h; exact (lpo_0 h).elim
      | succ n23 ih23 =>
        intro v1 g23 H locs ls hP hS hl h
        have h : m_X7_undo_L23 (lpo (b_X7_undo_L23) n23)  v1 g23 = some (r, g') := h
        unfold m_X7_undo_L23 at h
        refine lv_iload_n hx hb dX7_undo_23 rfl (lv_at hl 1 rfl) ?_
        refine lv_sipush (v := (1385 : Int32)) hx hb dX7_undo_24 (by decide) ?_
        refine lv_icmp_ge (tgt := 57) hx hb dX7_undo_27 (by decide) (fun hc => ?_) (fun hc => ?_)
        · have h := ite_t hc h
          refine lv_aload_n hx hb dX7_undo_57 rfl (lv_at hl 0 rfl) ?_
          refine x_get hx hb hts inX7 hown hK hP tM_0 (C := RX7) (F := TX7) (N := 18) rfl 15 (by decide) q773 rfl rfl dX7_undo_58 ?_
          obtain ⟨rfl, rfl⟩ := Prod.mk.inj (Option.some.inj h)
          exact hend _ _ _ _ dX7_undo_61 rfl hP hS
        · have h := ite_f hc h
          refine lv_aload_n hx hb dX7_undo_30 rfl (lv_at hl 0 rfl) ?_
          refine x_getr hx hb hts inX7 hown hK hP tM_0 (C := RX7) (F := TX7) (N := 18) rfl 0 (by decide) q758 rfl 1 rfl dX7_undo_31 ?_
          refine lv_iload_n hx hb dX7_undo_34 rfl (lv_at hl 1 rfl) ?_
          refine lv_aload_n hx hb dX7_undo_35 rfl (lv_at hl 0 rfl) ?_
          refine x_getr hx hb hts inX7 hown hK hP tM_0 (C := RX7) (F := TX7) (N := 18) rfl 2 (by decide) q760 rfl 3 rfl dX7_undo_36 ?_
          refine lv_sipush (v := (1385 : Int32)) hx hb dX7_undo_39 (by decide) ?_
          refine lv_aload_n hx hb dX7_undo_42 rfl (lv_at hl 0 rfl) ?_
          refine x_get hx hb hts inX7 hown hK hP tM_0 (C := RX7) (F := TX7) (N := 18) rfl 15 (by decide) q773 rfl rfl dX7_undo_43 ?_
          refine lv_imul hx hb dX7_undo_46 ?_
          refine lv_iload_n hx hb dX7_undo_47 rfl (lv_at hl 1 rfl) ?_
          refine lv_iadd hx hb dX7_undo_48 ?_
          obtain ⟨hz, h⟩ := ite_n h
          refine x_ald hx hb hK hP tM_3 hz dX7_undo_49 ?_
          obtain ⟨hz, h⟩ := ite_n h
          refine x_ast hx hb hK hI hP hS tM_1 hz dX7_undo_50 (fun H locs hP hS => ?_)
          refine lv_iinc (v := (v1 + (1 : Int32))) (lv' := [(1, .int (v1 + (1 : Int32))), (0, .ref (a 0))]) hx hb dX7_undo_51 hl (k := 1) rfl rfl (by decide) rfl (fun ls hl => ?_)
          refine lv_goto (tgt := 23) hx hb dX7_undo_54 (by decide) ?_
          exact ih23 (v1 + (1 : Int32)) (g_w g23 1 v1.toNatClampNeg (g23.1 3 (((1385 : Int32) * (g23.1 0 15)) + v1).toNatClampNeg)) _ _ _ hP hS (lv_sub hl [1, 0] rfl) h
    exact K23 fuelN (0 : Int32) (g_w g 0 15 ((g.1 0 15) - (1 : Int32))) _ _ _ hP hS (lv_sub hl [1, 0] rfl) h
  · have h := ite_t hc h
    refine lv_sipush (v := (-1005 : Int32)) hx hb dX7_undo_7 (by decide) ?_
    obtain ⟨rfl, rfl⟩ := Prod.mk.inj (Option.some.inj h)
    exact hend _ _ _ _ dX7_undo_10 rfl hP hS
set_option maxHeartbeats 4000000 in
set_option maxRecDepth 100000 in
theorem ct_X7_keep (l : Launch) (D : va_G) (a : Nat → Nat) (cA cT : ClassId) (hI : WI a TM) (g : MG)   (r : Int32) (g' : MG) (h : m_X7_keep g = some (r, g')) :
    CtI l D a cA cT TM yX7_keep (Cond.code yX7_keep cX7_keep 2 (some .int) :: lw_all) (rmm 1 22) [.ref (a 0)] g r g' := by
  refine CtI.of (by decide +kernel) (Nat.le_of_ble_eq_true rfl) ?_
  intro p e s m args below meth c Q ls hx hb hml hown hts hK hP hS hl hend
  have hl : lv_has ls 2 [(0, .ref (a 0))] := hl
  unfold m_X7_keep at h
  refine lv_iconst (v := (0 : Int32)) hx hb dX7_keep_0 (by decide) ?_
  refine lv_istore_n (lv' := [(1, .int (0 : Int32)), (0, .ref (a 0))]) hx hb dX7_keep_1 rfl hl (by decide) rfl (fun ls hl => ?_)
  have K2 : ∀ (n2 : Nat) (v1 : Int32) (g2 : MG) (H : Heap) (locs : List Loc) (ls : Array Slot), WP D a cA cT TM g2 H → va_S (AA a TM) s.heap H locs → lv_has ls 2 [(0, .ref (a 0)), (1, .int v1)] → lpo (b_X7_keep_L2) n2 (v1, g2) = some (r, g') → W p l e (rmm 1 22) s m args below meth c H locs 0 0 Q (F0 m 2 ls []) := by
    intro n2
    induction n2 with
    | zero => intro v1 g2 H locs ls hP hS hl h; exact (lpo_0 h).elim
    | succ n2 ih2 =>
      intro v1 g2 H locs ls hP hS hl h
      have h : m_X7_keep_L2 (lpo (b_X7_keep_L2) n2)  v1 g2 = some (r, g') := h
      unfold m_X7_keep_L2 at h
      refine lv_iload_n hx hb dX7_keep_2 rfl (lv_at hl 1 rfl) ?_
      refine lv_sipush (v := (1385 : Int32)) hx hb dX7_keep_3 (by decide) ?_
      refine lv_icmp_ge (tgt := 27) hx hb dX7_keep_6 (by decide) (fun hc => ?_) (fun hc => ?_)
      · have h := ite_t hc h
        refine lv_aload_n hx hb dX7_keep_27 rfl (lv_at hl 0 rfl) ?_
        refine lv_iconst (v := (1 : Int32)) hx hb dX7_keep_28 (by decide) ?_
        refine x_put hx hb hts inX7 tyX7 tyX7_ok nmX7 hown hK hI hP hS tM_0 (C := RX7) (F := TX7) (N := 18) rfl 17 (by decide) q775 rfl rfl rfl rfl rfl dX7_keep_29 (fun H locs hP hS => ?_)
        refine lv_aload_n hx hb dX7_keep_32 rfl (lv_at hl 0 rfl) ?_
        obtain ⟨r33, hcal, h⟩ := bnd_s h
        refine x_VI (As := []) hx hb hml hown hts hK hP hS (ct_X7_slices l D a cA cT hI (g_w g2 0 17 (1 : Int32)) r33 hcal) tM_0 (C := RX7) (F := TX7) (N := 18) rfl (g_V q853 q854 q46 q77 q855) yd_X7_slices ⟨Nat.le_of_ble_eq_true rfl, Nat.le_of_ble_eq_true rfl⟩ [] rfl (Nat.le_of_ble_eq_true rfl) hl.1 ⟨Nat.le_refl _, Nat.le_refl _⟩ dX7_keep_33 (fun H locs hP hS => ?_)
        obtain ⟨rfl, rfl⟩ := Prod.mk.inj (Option.some.inj h)
        exact hend _ _ _ _ dX7_keep_36 rfl hP hS
      · have h := ite_f hc h
        refine lv_aload_n hx hb dX7_keep_9 rfl (lv_at hl 0 rfl) ?_
        refine x_getr hx hb hts inX7 hown hK hP tM_0 (C := RX7) (F := TX7) (N := 18) rfl 1 (by decide) q759 rfl 2 rfl dX7_keep_10 ?_
        refine lv_iload_n hx hb dX7_keep_13 rfl (lv_at hl 1 rfl) ?_
        refine lv_aload_n hx hb dX7_keep_14 rfl (lv_at hl 0 rfl) ?_
        refine x_getr hx hb hts inX7 hown hK hP tM_0 (C := RX7) (F := TX7) (N := 18) rfl 0 (by decide) q758 rfl 1 rfl dX7_keep_15 ?_
        refine lv_iload_n hx hb dX7_keep_18 rfl (lv_at hl 1 rfl) ?_
        obtain ⟨hz, h⟩ := ite_n h
        refine x_ald hx hb hK hP tM_1 hz dX7_keep_19 ?_
        obtain ⟨hz, h⟩ := ite_n h
        refine x_ast hx hb hK hI hP hS tM_2 hz dX7_keep_20 (fun H locs hP hS => ?_)
        refine lv_iinc (v := (v1 + (1 : Int32))) (lv' := [(1, .int (v1 + (1 : Int32))), (0, .ref (a 0))]) hx hb dX7_keep_21 hl (k := 1) rfl rfl (by decide) rfl (fun ls hl => ?_)
        refine lv_goto (tgt := 2) hx hb dX7_keep_24 (by decide) ?_
        exact ih2 (v1 + (1 : Int32)) (g_w g2 2 v1.toNatClampNeg (g2.1 1 v1.toNatClampNeg)) _ _ _ hP hS (lv_sub hl [1, 0] rfl) h
  exact K2 fuelN (0 : Int32) g _ _ _ hP hS (lv_sub hl [1, 0] rfl) h
set_option maxHeartbeats 4000000 in
set_option maxRecDepth 100000 in
theorem ct_X7_restore (l : Launch) (D : va_G) (a : Nat → Nat) (cA cT : ClassId) (hI : WI a TM) (g : MG)   (r : Int32) (g' : MG) (h : m_X7_restore g = some (r, g')) :
    CtI l D a cA cT TM yX7_restore (Cond.code yX7_restore cX7_restore 2 (some .int) :: lw_all) (rmm 1 22) [.ref (a 0)] g r g' := by
  refine CtI.of (by decide +kernel) (Nat.le_of_ble_eq_true rfl) ?_
  intro p e s m args below meth c Q ls hx hb hml hown hts hK hP hS hl hend
  have hl : lv_has ls 2 [(0, .ref (a 0))] := hl
  unfold m_X7_restore at h
  refine lv_aload_n hx hb dX7_restore_0 rfl (lv_at hl 0 rfl) ?_
  refine x_get hx hb hts inX7 hown hK hP tM_0 (C := RX7) (F := TX7) (N := 18) rfl 17 (by decide) q775 rfl rfl dX7_restore_1 ?_
  refine lv_if_ne (tgt := 11) hx hb dX7_restore_4 (by decide) (fun hc => ?_) (fun hc => ?_)
  · have h := ite_f hc h
    refine lv_aload_n hx hb dX7_restore_11 rfl (lv_at hl 0 rfl) ?_
    obtain ⟨g12, hcal, h⟩ := bnd_s h
    refine x_VV (As := []) hx hb hml hown hts hK hP hS (ct_X7_record l D a cA cT hI g g12 hcal) tM_0 (C := RX7) (F := TX7) (N := 18) rfl (g_V q816 q817 q39 q77 q818) yd_X7_record ⟨Nat.le_of_ble_eq_true rfl, Nat.le_of_ble_eq_true rfl⟩ [] rfl (Nat.le_of_ble_eq_true rfl) hl.1 ⟨Nat.le_refl _, Nat.le_refl _⟩ dX7_restore_12 (fun H locs hP hS => ?_)
    refine lv_iconst (v := (0 : Int32)) hx hb dX7_restore_15 (by decide) ?_
    refine lv_istore_n (lv' := [(1, .int (0 : Int32)), (0, .ref (a 0))]) hx hb dX7_restore_16 rfl hl (by decide) rfl (fun ls hl => ?_)
    have K17 : ∀ (n17 : Nat) (v1 : Int32) (g17 : MG) (H : Heap) (locs : List Loc) (ls : Array Slot), WP D a cA cT TM g17 H → va_S (AA a TM) s.heap H locs → lv_has ls 2 [(0, .ref (a 0)), (1, .int v1)] → lpo (b_X7_restore_L17) n17 (v1, g17) = some (r, g') → W p l e (rmm 1 22) s m args below meth c H locs 0 0 Q (F0 m 17 ls []) := by
      intro n17
      induction n17 with
      | zero => intro v1 g17 H locs ls hP hS hl h; exact (lpo_0 h).elim
      | succ n17 ih17 =>
        intro v1 g17 H locs ls hP hS hl h
        have h : m_X7_restore_L17 (lpo (b_X7_restore_L17) n17)  v1 g17 = some (r, g') := h
        unfold m_X7_restore_L17 at h
        refine lv_iload_n hx hb dX7_restore_17 rfl (lv_at hl 1 rfl) ?_
        refine lv_sipush (v := (1385 : Int32)) hx hb dX7_restore_18 (by decide) ?_
        refine lv_icmp_ge (tgt := 42) hx hb dX7_restore_21 (by decide) (fun hc => ?_) (fun hc => ?_)
        · have h := ite_t hc h
          refine lv_aload_n hx hb dX7_restore_42 rfl (lv_at hl 0 rfl) ?_
          obtain ⟨r43, hcal, h⟩ := bnd_s h
          refine x_VI (As := []) hx hb hml hown hts hK hP hS (ct_X7_slices l D a cA cT hI g17 r43 hcal) tM_0 (C := RX7) (F := TX7) (N := 18) rfl (g_V q853 q854 q46 q77 q855) yd_X7_slices ⟨Nat.le_of_ble_eq_true rfl, Nat.le_of_ble_eq_true rfl⟩ [] rfl (Nat.le_of_ble_eq_true rfl) hl.1 ⟨Nat.le_refl _, Nat.le_refl _⟩ dX7_restore_43 (fun H locs hP hS => ?_)
          obtain ⟨rfl, rfl⟩ := Prod.mk.inj (Option.some.inj h)
          exact hend _ _ _ _ dX7_restore_46 rfl hP hS
        · have h := ite_f hc h
          refine lv_aload_n hx hb dX7_restore_24 rfl (lv_at hl 0 rfl) ?_
          refine x_getr hx hb hts inX7 hown hK hP tM_0 (C := RX7) (F := TX7) (N := 18) rfl 0 (by decide) q758 rfl 1 rfl dX7_restore_25 ?_
          refine lv_iload_n hx hb dX7_restore_28 rfl (lv_at hl 1 rfl) ?_
          refine lv_aload_n hx hb dX7_restore_29 rfl (lv_at hl 0 rfl) ?_
          refine x_getr hx hb hts inX7 hown hK hP tM_0 (C := RX7) (F := TX7) (N := 18) rfl 1 (by decide) q759 rfl 2 rfl dX7_restore_30 ?_
          refine lv_iload_n hx hb dX7_restore_33 rfl (lv_at hl 1 rfl) ?_
          obtain ⟨hz, h⟩ := ite_n h
          refine x_ald hx hb hK hP tM_2 hz dX7_restore_34 ?_
          obtain ⟨hz, h⟩ := ite_n h
          refine x_ast hx hb hK hI hP hS tM_1 hz dX7_restore_35 (fun H locs hP hS => ?_)
          refine lv_iinc (v := (v1 + (1 : Int32))) (lv' := [(1, .int (v1 + (1 : Int32))), (0, .ref (a 0))]) hx hb dX7_restore_36 hl (k := 1) rfl rfl (by decide) rfl (fun ls hl => ?_)
          refine lv_goto (tgt := 17) hx hb dX7_restore_39 (by decide) ?_
          exact ih17 (v1 + (1 : Int32)) (g_w g17 1 v1.toNatClampNeg (g17.1 2 v1.toNatClampNeg)) _ _ _ hP hS (lv_sub hl [1, 0] rfl) h
    exact K17 fuelN (0 : Int32) g12 _ _ _ hP hS (lv_sub hl [1, 0] rfl) h
  · have h := ite_t hc h
    refine lv_sipush (v := (-1005 : Int32)) hx hb dX7_restore_7 (by decide) ?_
    obtain ⟨rfl, rfl⟩ := Prod.mk.inj (Option.some.inj h)
    exact hend _ _ _ _ dX7_restore_10 rfl hP hS
set_option maxHeartbeats 4000000 in
set_option maxRecDepth 100000 in
theorem ct_X7_passesTest (l : Launch) (D : va_G) (a : Nat → Nat) (cA cT : ClassId) (hI : WI a TM) (g : MG) (x0 : Int32) (x1 : Int32) (x2 : Int32)  (r : Int32) (h : m_X7_passesTest g x0 x1 x2 = some r) :
    CtI l D a cA cT TM yX7_passesTest (Cond.code yX7_passesTest cX7_passesTest 3 (some .boolean) :: lw_all) (rmm 0 0) [.int x0, .int x1, .int x2] g r g := by
  refine CtI.of (by decide +kernel) (Nat.le_of_ble_eq_true rfl) ?_
  intro p e s m args below meth c Q ls hx hb hml hown hts hK hP hS hl hend
  have hl : lv_has ls 3 [(0, .int x0), (1, .int x1), (2, .int x2)] := hl
  unfold m_X7_passesTest at h
  refine lv_iload_n hx hb dX7_passesTest_0 rfl (lv_at hl 1 rfl) ?_
  refine lv_bipush (v := (60 : Int32)) hx hb dX7_passesTest_1 (by decide) ?_
  refine lv_icmp_ne (tgt := 19) hx hb dX7_passesTest_3 (by decide) (fun hc => ?_) (fun hc => ?_)
  · have h := ite_f hc h
    refine lv_iload_n hx hb dX7_passesTest_19 rfl (lv_at hl 1 rfl) ?_
    refine lv_bipush (v := (62 : Int32)) hx hb dX7_passesTest_20 (by decide) ?_
    refine lv_icmp_ne (tgt := 38) hx hb dX7_passesTest_22 (by decide) (fun hc => ?_) (fun hc => ?_)
    · have h := ite_f hc h
      refine lv_iload_n hx hb dX7_passesTest_38 rfl (lv_at hl 1 rfl) ?_
      refine lv_bipush (v := (61 : Int32)) hx hb dX7_passesTest_39 (by decide) ?_
      refine lv_icmp_ne (tgt := 57) hx hb dX7_passesTest_41 (by decide) (fun hc => ?_) (fun hc => ?_)
      · have h := ite_f hc h
        refine lv_iload_n hx hb dX7_passesTest_57 rfl (lv_at hl 0 rfl) ?_
        refine lv_iload_n hx hb dX7_passesTest_58 rfl (lv_at hl 2 rfl) ?_
        refine lv_icmp_eq (tgt := 66) hx hb dX7_passesTest_59 (by decide) (fun hc => ?_) (fun hc => ?_)
        · have h := ite_t hc h
          refine lv_iconst (v := (0 : Int32)) hx hb dX7_passesTest_66 (by decide) ?_
          obtain rfl := Option.some.inj h
          exact hend _ _ _ _ dX7_passesTest_67 rfl hP hS
        · have h := ite_f hc h
          refine lv_iconst (v := (1 : Int32)) hx hb dX7_passesTest_62 (by decide) ?_
          refine lv_goto (tgt := 67) hx hb dX7_passesTest_63 (by decide) ?_
          obtain rfl := Option.some.inj h
          exact hend _ _ _ _ dX7_passesTest_67 rfl hP hS
      · have h := ite_t hc h
        refine lv_iload_n hx hb dX7_passesTest_44 rfl (lv_at hl 0 rfl) ?_
        refine lv_iload_n hx hb dX7_passesTest_45 rfl (lv_at hl 2 rfl) ?_
        refine lv_icmp_ne (tgt := 53) hx hb dX7_passesTest_46 (by decide) (fun hc => ?_) (fun hc => ?_)
        · have h := ite_f hc h
          refine lv_iconst (v := (0 : Int32)) hx hb dX7_passesTest_53 (by decide) ?_
          refine lv_goto (tgt := 67) hx hb dX7_passesTest_54 (by decide) ?_
          obtain rfl := Option.some.inj h
          exact hend _ _ _ _ dX7_passesTest_67 rfl hP hS
        · have h := ite_t hc h
          refine lv_iconst (v := (1 : Int32)) hx hb dX7_passesTest_49 (by decide) ?_
          refine lv_goto (tgt := 67) hx hb dX7_passesTest_50 (by decide) ?_
          obtain rfl := Option.some.inj h
          exact hend _ _ _ _ dX7_passesTest_67 rfl hP hS
    · have h := ite_t hc h
      refine lv_iload_n hx hb dX7_passesTest_25 rfl (lv_at hl 0 rfl) ?_
      refine lv_iload_n hx hb dX7_passesTest_26 rfl (lv_at hl 2 rfl) ?_
      refine lv_icmp_le (tgt := 34) hx hb dX7_passesTest_27 (by decide) (fun hc => ?_) (fun hc => ?_)
      · have h := ite_t hc h
        refine lv_iconst (v := (0 : Int32)) hx hb dX7_passesTest_34 (by decide) ?_
        refine lv_goto (tgt := 67) hx hb dX7_passesTest_35 (by decide) ?_
        obtain rfl := Option.some.inj h
        exact hend _ _ _ _ dX7_passesTest_67 rfl hP hS
      · have h := ite_f hc h
        refine lv_iconst (v := (1 : Int32)) hx hb dX7_passesTest_30 (by decide) ?_
        refine lv_goto (tgt := 67) hx hb dX7_passesTest_31 (by decide) ?_
        obtain rfl := Option.some.inj h
        exact hend _ _ _ _ dX7_passesTest_67 rfl hP hS
  · have h := ite_t hc h
    refine lv_iload_n hx hb dX7_passesTest_6 rfl (lv_at hl 0 rfl) ?_
    refine lv_iload_n hx hb dX7_passesTest_7 rfl (lv_at hl 2 rfl) ?_
    refine lv_icmp_ge (tgt := 15) hx hb dX7_passesTest_8 (by decide) (fun hc => ?_) (fun hc => ?_)
    · have h := ite_t hc h
      refine lv_iconst (v := (0 : Int32)) hx hb dX7_passesTest_15 (by decide) ?_
      refine lv_goto (tgt := 67) hx hb dX7_passesTest_16 (by decide) ?_
      obtain rfl := Option.some.inj h
      exact hend _ _ _ _ dX7_passesTest_67 rfl hP hS
    · have h := ite_f hc h
      refine lv_iconst (v := (1 : Int32)) hx hb dX7_passesTest_11 (by decide) ?_
      refine lv_goto (tgt := 67) hx hb dX7_passesTest_12 (by decide) ?_
      obtain rfl := Option.some.inj h
      exact hend _ _ _ _ dX7_passesTest_67 rfl hP hS
set_option maxHeartbeats 4000000 in
set_option maxRecDepth 100000 in
theorem ct_X7_push (l : Launch) (D : va_G) (a : Nat → Nat) (cA cT : ClassId) (hI : WI a TM) (g : MG) (x0 : Int32) (x1 : Int32)  (g' : MG) (h : m_X7_push g x0 x1 = some g') :
    CtV l D a cA cT TM yX7_push (Cond.code yX7_push cX7_push 3 none :: lw_all) (rmm 0 0) [.ref (a 0), .int x0, .int x1] g g' := by
  refine CtV.of (by decide +kernel) (Nat.le_of_ble_eq_true rfl) ?_
  intro p e s m args below meth c Q ls hx hb hml hown hts hK hP hS hl hend
  have hl : lv_has ls 3 [(0, .ref (a 0)), (1, .int x0), (2, .int x1)] := hl
  unfold m_X7_push at h
  refine lv_aload_n hx hb dX7_push_0 rfl (lv_at hl 0 rfl) ?_
  refine x_getr hx hb hts inX7 hown hK hP tM_0 (C := RX7) (F := TX7) (N := 18) rfl 11 (by decide) q769 rfl 9 rfl dX7_push_1 ?_
  refine lv_aload_n hx hb dX7_push_4 rfl (lv_at hl 0 rfl) ?_
  refine x_get hx hb hts inX7 hown hK hP tM_0 (C := RX7) (F := TX7) (N := 18) rfl 13 (by decide) q771 rfl rfl dX7_push_5 ?_
  refine lv_iload_n hx hb dX7_push_8 rfl (lv_at hl 1 rfl) ?_
  obtain ⟨hz, h⟩ := ite_n h
  refine x_ast hx hb hK hI hP hS tM_9 hz dX7_push_9 (fun H locs hP hS => ?_)
  refine lv_aload_n hx hb dX7_push_10 rfl (lv_at hl 0 rfl) ?_
  refine x_getr hx hb hts inX7 hown hK hP tM_0 (C := RX7) (F := TX7) (N := 18) rfl 12 (by decide) q770 rfl 10 rfl dX7_push_11 ?_
  refine lv_aload_n hx hb dX7_push_14 rfl (lv_at hl 0 rfl) ?_
  refine x_get hx hb hts inX7 hown hK hP tM_0 (C := RX7) (F := TX7) (N := 18) rfl 13 (by decide) q771 rfl rfl dX7_push_15 ?_
  refine lv_iload_n hx hb dX7_push_18 rfl (lv_at hl 2 rfl) ?_
  obtain ⟨hz, h⟩ := ite_n h
  refine x_ast hx hb hK hI hP hS tM_10 hz dX7_push_19 (fun H locs hP hS => ?_)
  refine lv_aload_n hx hb dX7_push_20 rfl (lv_at hl 0 rfl) ?_
  refine lv_dup hx hb dX7_push_21 rfl ?_
  refine x_get hx hb hts inX7 hown hK hP tM_0 (C := RX7) (F := TX7) (N := 18) rfl 13 (by decide) q771 rfl rfl dX7_push_22 ?_
  refine lv_iconst (v := (1 : Int32)) hx hb dX7_push_25 (by decide) ?_
  refine lv_iadd hx hb dX7_push_26 ?_
  refine x_put hx hb hts inX7 tyX7 tyX7_ok nmX7 hown hK hI hP hS tM_0 (C := RX7) (F := TX7) (N := 18) rfl 13 (by decide) q771 rfl rfl rfl rfl rfl dX7_push_27 (fun H locs hP hS => ?_)
  obtain rfl := Option.some.inj h
  exact hend _ _ _ _ dX7_push_30 hP hS
set_option maxHeartbeats 4000000 in
set_option maxRecDepth 100000 in
theorem ct_X7_truth (l : Launch) (D : va_G) (a : Nat → Nat) (cA cT : ClassId) (hI : WI a TM) (g : MG) (x0 : Int32) (x1 : Int32) (x2 : Int32)  (r : Int32) (g' : MG) (h : m_X7_truth g x0 x1 x2 = some (r, g')) :
    CtI l D a cA cT TM yX7_truth (Cond.code yX7_truth cX7_truth 7 (some .int) :: lw_all) (rmm 1 22) [.ref (a 0), .int x0, .int x1, .int x2] g r g' := by
  refine CtI.of (by decide +kernel) (Nat.le_of_ble_eq_true rfl) ?_
  intro p e s m args below meth c Q ls hx hb hml hown hts hK hP hS hl hend
  have hl : lv_has ls 7 [(0, .ref (a 0)), (1, .int x0), (2, .int x1), (3, .int x2)] := hl
  unfold m_X7_truth at h
  refine lv_aload_n hx hb dX7_truth_0 rfl (lv_at hl 0 rfl) ?_
  refine lv_iconst (v := (0 : Int32)) hx hb dX7_truth_1 (by decide) ?_
  refine x_put hx hb hts inX7 tyX7 tyX7_ok nmX7 hown hK hI hP hS tM_0 (C := RX7) (F := TX7) (N := 18) rfl 13 (by decide) q771 rfl rfl rfl rfl rfl dX7_truth_2 (fun H locs hP hS => ?_)
  refine lv_iconst (v := (0 : Int32)) hx hb dX7_truth_5 (by decide) ?_
  refine lv_istore (lv' := [(4, .int (0 : Int32)), (0, .ref (a 0)), (1, .int x0), (2, .int x1), (3, .int x2)]) hx hb dX7_truth_6 hl (by decide) rfl (fun ls hl => ?_)
  have K8 : ∀ (n8 : Nat) (v4 : Int32) (g8 : MG) (H : Heap) (locs : List Loc) (ls : Array Slot), WP D a cA cT TM g8 H → va_S (AA a TM) s.heap H locs → lv_has ls 7 [(0, .ref (a 0)), (1, .int x0), (2, .int x1), (3, .int x2), (4, .int v4)] → lpo (b_X7_truth_L8 x0 x1 x2) n8 (v4, g8) = some (r, g') → W p l e (rmm 1 22) s m args below meth c H locs 0 0 Q (F0 m 8 ls []) := by
    intro n8
    induction n8 with
    | zero => intro v4 g8 H locs ls hP hS hl h; exact (lpo_0 h).elim
    | succ n8 ih8 =>
      intro v4 g8 H locs ls hP hS hl h
      have h : m_X7_truth_L8 (lpo (b_X7_truth_L8 x0 x1 x2) n8) x0 x1 x2 v4 g8 = some (r, g') := h
      unfold m_X7_truth_L8 at h
      have J214 : ∀ (v4 : Int32) (v5 : Int32) (v6 : Int32) (w1 : Int32) (w2 : Int32) (g214 : MG) (H : Heap) (locs : List Loc) (ls : Array Slot), WP D a cA cT TM g214 H → va_S (AA a TM) s.heap H locs → lv_has ls 7 [(0, .ref (a 0)), (1, .int x0), (2, .int x1), (3, .int x2), (4, .int v4), (5, .int v5), (6, .int v6)] → m_X7_truth_J214 (lpo (b_X7_truth_L8 x0 x1 x2) n8) x0 x1 x2 v4 v5 v6 w1 w2 g214 = some (r, g') → W p l e (rmm 1 22) s m args below meth c H locs 0 0 Q (F0 m 214 ls [.int w2, .int w1, .ref (a 9)]) := by
        intro v4 v5 v6 w1 w2 g214 H locs ls hP hS hl h
        unfold m_X7_truth_J214 at h
        refine lv_iload hx hb dX7_truth_214 (lv_at hl 5 rfl) ?_
        refine lv_iload hx hb dX7_truth_216 (lv_at hl 6 rfl) ?_
        refine lv_icmp_ge (tgt := 225) hx hb dX7_truth_218 (by decide) (fun hc => ?_) (fun hc => ?_)
        · have h := ite_t hc h
          refine lv_iconst (v := (0 : Int32)) hx hb dX7_truth_225 (by decide) ?_
          refine lv_icmp_ne (tgt := 234) hx hb dX7_truth_226 (by decide) (fun hc => ?_) (fun hc => ?_)
          · have h := ite_f hc h
            refine lv_iload hx hb dX7_truth_234 (lv_at hl 6 rfl) ?_
            obtain ⟨hz, h⟩ := ite_n h
            refine x_ast hx hb hK hI hP hS tM_9 hz dX7_truth_236 (fun H locs hP hS => ?_)
            refine lv_iinc (v := (v4 + (1 : Int32))) (lv' := [(4, .int (v4 + (1 : Int32))), (0, .ref (a 0)), (1, .int x0), (2, .int x1), (3, .int x2), (5, .int v5), (6, .int v6)]) hx hb dX7_truth_237 hl (k := 4) rfl rfl (by decide) rfl (fun ls hl => ?_)
            refine lv_goto (tgt := 8) hx hb dX7_truth_240 (by decide) ?_
            exact ih8 (v4 + (1 : Int32)) (g_w g214 9 w1.toNatClampNeg v6) _ _ _ hP hS (lv_sub hl [1, 2, 3, 4, 0] rfl) h
          · have h := ite_t hc h
            refine lv_iload hx hb dX7_truth_229 (lv_at hl 5 rfl) ?_
            refine lv_goto (tgt := 236) hx hb dX7_truth_231 (by decide) ?_
            obtain ⟨hz, h⟩ := ite_n h
            refine x_ast hx hb hK hI hP hS tM_9 hz dX7_truth_236 (fun H locs hP hS => ?_)
            refine lv_iinc (v := (v4 + (1 : Int32))) (lv' := [(4, .int (v4 + (1 : Int32))), (0, .ref (a 0)), (1, .int x0), (2, .int x1), (3, .int x2), (5, .int v5), (6, .int v6)]) hx hb dX7_truth_237 hl (k := 4) rfl rfl (by decide) rfl (fun ls hl => ?_)
            refine lv_goto (tgt := 8) hx hb dX7_truth_240 (by decide) ?_
            exact ih8 (v4 + (1 : Int32)) (g_w g214 9 w1.toNatClampNeg v5) _ _ _ hP hS (lv_sub hl [1, 2, 3, 4, 0] rfl) h
        · have h := ite_f hc h
          refine lv_iconst (v := (1 : Int32)) hx hb dX7_truth_221 (by decide) ?_
          refine lv_goto (tgt := 226) hx hb dX7_truth_222 (by decide) ?_
          refine lv_icmp_ne (tgt := 234) hx hb dX7_truth_226 (by decide) (fun hc => ?_) (fun hc => ?_)
          · have h := ite_f hc h
            refine lv_iload hx hb dX7_truth_234 (lv_at hl 6 rfl) ?_
            obtain ⟨hz, h⟩ := ite_n h
            refine x_ast hx hb hK hI hP hS tM_9 hz dX7_truth_236 (fun H locs hP hS => ?_)
            refine lv_iinc (v := (v4 + (1 : Int32))) (lv' := [(4, .int (v4 + (1 : Int32))), (0, .ref (a 0)), (1, .int x0), (2, .int x1), (3, .int x2), (5, .int v5), (6, .int v6)]) hx hb dX7_truth_237 hl (k := 4) rfl rfl (by decide) rfl (fun ls hl => ?_)
            refine lv_goto (tgt := 8) hx hb dX7_truth_240 (by decide) ?_
            exact ih8 (v4 + (1 : Int32)) (g_w g214 9 w1.toNatClampNeg v6) _ _ _ hP hS (lv_sub hl [1, 2, 3, 4, 0] rfl) h
          · have h := ite_t hc h
            refine lv_iload hx hb dX7_truth_229 (lv_at hl 5 rfl) ?_
            refine lv_goto (tgt := 236) hx hb dX7_truth_231 (by decide) ?_
            obtain ⟨hz, h⟩ := ite_n h
            refine x_ast hx hb hK hI hP hS tM_9 hz dX7_truth_236 (fun H locs hP hS => ?_)
            refine lv_iinc (v := (v4 + (1 : Int32))) (lv' := [(4, .int (v4 + (1 : Int32))), (0, .ref (a 0)), (1, .int x0), (2, .int x1), (3, .int x2), (5, .int v5), (6, .int v6)]) hx hb dX7_truth_237 hl (k := 4) rfl rfl (by decide) rfl (fun ls hl => ?_)
            refine lv_goto (tgt := 8) hx hb dX7_truth_240 (by decide) ?_
            exact ih8 (v4 + (1 : Int32)) (g_w g214 9 w1.toNatClampNeg v5) _ _ _ hP hS (lv_sub hl [1, 2, 3, 4, 0] rfl) h
      refine lv_iload hx hb dX7_truth_8 (lv_at hl 4 rfl) ?_
      refine lv_aload_n hx hb dX7_truth_10 rfl (lv_at hl 0 rfl) ?_
      refine x_get hx hb hts inX7 hown hK hP tM_0 (C := RX7) (F := TX7) (N := 18) rfl 8 (by decide) q766 rfl rfl dX7_truth_11 ?_
      refine lv_icmp_ge (tgt := 243) hx hb dX7_truth_14 (by decide) (fun hc => ?_) (fun hc => ?_)
      · have h := ite_t hc h
        refine lv_aload_n hx hb dX7_truth_243 rfl (lv_at hl 0 rfl) ?_
        refine x_getr hx hb hts inX7 hown hK hP tM_0 (C := RX7) (F := TX7) (N := 18) rfl 11 (by decide) q769 rfl 9 rfl dX7_truth_244 ?_
        refine lv_iconst (v := (0 : Int32)) hx hb dX7_truth_247 (by decide) ?_
        obtain ⟨hz, h⟩ := ite_n h
        refine x_ald hx hb hK hP tM_9 hz dX7_truth_248 ?_
        obtain ⟨rfl, rfl⟩ := Prod.mk.inj (Option.some.inj h)
        exact hend _ _ _ _ dX7_truth_249 rfl hP hS
      · have h := ite_f hc h
        refine lv_aload_n hx hb dX7_truth_17 rfl (lv_at hl 0 rfl) ?_
        refine x_getr hx hb hts inX7 hown hK hP tM_0 (C := RX7) (F := TX7) (N := 18) rfl 4 (by decide) q762 rfl 5 rfl dX7_truth_18 ?_
        refine lv_iload hx hb dX7_truth_21 (lv_at hl 4 rfl) ?_
        obtain ⟨hz, h⟩ := ite_n h
        refine x_ald hx hb hK hP tM_5 hz dX7_truth_23 ?_
        refine lv_iconst (v := (5 : Int32)) hx hb dX7_truth_24 (by decide) ?_
        refine lv_icmp_ne (tgt := 62) hx hb dX7_truth_25 (by decide) (fun hc => ?_) (fun hc => ?_)
        · have h := ite_f hc h
          refine lv_aload_n hx hb dX7_truth_62 rfl (lv_at hl 0 rfl) ?_
          refine x_getr hx hb hts inX7 hown hK hP tM_0 (C := RX7) (F := TX7) (N := 18) rfl 4 (by decide) q762 rfl 5 rfl dX7_truth_63 ?_
          refine lv_iload hx hb dX7_truth_66 (lv_at hl 4 rfl) ?_
          obtain ⟨hz, h⟩ := ite_n h
          refine x_ald hx hb hK hP tM_5 hz dX7_truth_68 ?_
          refine lv_bipush (v := (6 : Int32)) hx hb dX7_truth_69 (by decide) ?_
          refine lv_icmp_ne (tgt := 116) hx hb dX7_truth_71 (by decide) (fun hc => ?_) (fun hc => ?_)
          · have h := ite_f hc h
            refine lv_aload_n hx hb dX7_truth_116 rfl (lv_at hl 0 rfl) ?_
            refine x_getr hx hb hts inX7 hown hK hP tM_0 (C := RX7) (F := TX7) (N := 18) rfl 4 (by decide) q762 rfl 5 rfl dX7_truth_117 ?_
            refine lv_iload hx hb dX7_truth_120 (lv_at hl 4 rfl) ?_
            obtain ⟨hz, h⟩ := ite_n h
            refine x_ald hx hb hK hP tM_5 hz dX7_truth_122 ?_
            refine lv_iconst (v := (1 : Int32)) hx hb dX7_truth_123 (by decide) ?_
            refine lv_icmp_ne (tgt := 154) hx hb dX7_truth_124 (by decide) (fun hc => ?_) (fun hc => ?_)
            · have h := ite_f hc h
              refine lv_aload_n hx hb dX7_truth_154 rfl (lv_at hl 0 rfl) ?_
              refine lv_dup hx hb dX7_truth_155 rfl ?_
              refine x_get hx hb hts inX7 hown hK hP tM_0 (C := RX7) (F := TX7) (N := 18) rfl 13 (by decide) q771 rfl rfl dX7_truth_156 ?_
              refine lv_iconst (v := (1 : Int32)) hx hb dX7_truth_159 (by decide) ?_
              refine lv_isub hx hb dX7_truth_160 ?_
              refine x_put hx hb hts inX7 tyX7 tyX7_ok nmX7 hown hK hI hP hS tM_0 (C := RX7) (F := TX7) (N := 18) rfl 13 (by decide) q771 rfl rfl rfl rfl rfl dX7_truth_161 (fun H locs hP hS => ?_)
              refine lv_aload_n hx hb dX7_truth_164 rfl (lv_at hl 0 rfl) ?_
              refine x_getr hx hb hts inX7 hown hK hP tM_0 (C := RX7) (F := TX7) (N := 18) rfl 11 (by decide) q769 rfl 9 rfl dX7_truth_165 ?_
              refine lv_aload_n hx hb dX7_truth_168 rfl (lv_at hl 0 rfl) ?_
              refine x_get hx hb hts inX7 hown hK hP tM_0 (C := RX7) (F := TX7) (N := 18) rfl 13 (by decide) q771 rfl rfl dX7_truth_169 ?_
              refine lv_iconst (v := (1 : Int32)) hx hb dX7_truth_172 (by decide) ?_
              refine lv_isub hx hb dX7_truth_173 ?_
              obtain ⟨hz, h⟩ := ite_n h
              refine x_ald hx hb hK hP tM_9 hz dX7_truth_174 ?_
              refine lv_istore (lv' := [(5, .int ((g_w g8 0 13 ((g8.1 0 13) - (1 : Int32))).1 9 (((g_w g8 0 13 ((g8.1 0 13) - (1 : Int32))).1 0 13) - (1 : Int32)).toNatClampNeg)), (0, .ref (a 0)), (1, .int x0), (2, .int x1), (3, .int x2), (4, .int v4)]) hx hb dX7_truth_175 hl (by decide) rfl (fun ls hl => ?_)
              refine lv_aload_n hx hb dX7_truth_177 rfl (lv_at hl 1 rfl) ?_
              refine x_getr hx hb hts inX7 hown hK hP tM_0 (C := RX7) (F := TX7) (N := 18) rfl 11 (by decide) q769 rfl 9 rfl dX7_truth_178 ?_
              refine lv_aload_n hx hb dX7_truth_181 rfl (lv_at hl 1 rfl) ?_
              refine x_get hx hb hts inX7 hown hK hP tM_0 (C := RX7) (F := TX7) (N := 18) rfl 13 (by decide) q771 rfl rfl dX7_truth_182 ?_
              obtain ⟨hz, h⟩ := ite_n h
              refine x_ald hx hb hK hP tM_9 hz dX7_truth_185 ?_
              refine lv_istore (lv' := [(6, .int ((g_w g8 0 13 ((g8.1 0 13) - (1 : Int32))).1 9 ((g_w g8 0 13 ((g8.1 0 13) - (1 : Int32))).1 0 13).toNatClampNeg)), (5, .int ((g_w g8 0 13 ((g8.1 0 13) - (1 : Int32))).1 9 (((g_w g8 0 13 ((g8.1 0 13) - (1 : Int32))).1 0 13) - (1 : Int32)).toNatClampNeg)), (0, .ref (a 0)), (1, .int x0), (2, .int x1), (3, .int x2), (4, .int v4)]) hx hb dX7_truth_186 hl (by decide) rfl (fun ls hl => ?_)
              refine lv_aload_n hx hb dX7_truth_188 rfl (lv_at hl 2 rfl) ?_
              refine x_getr hx hb hts inX7 hown hK hP tM_0 (C := RX7) (F := TX7) (N := 18) rfl 11 (by decide) q769 rfl 9 rfl dX7_truth_189 ?_
              refine lv_aload_n hx hb dX7_truth_192 rfl (lv_at hl 2 rfl) ?_
              refine x_get hx hb hts inX7 hown hK hP tM_0 (C := RX7) (F := TX7) (N := 18) rfl 13 (by decide) q771 rfl rfl dX7_truth_193 ?_
              refine lv_iconst (v := (1 : Int32)) hx hb dX7_truth_196 (by decide) ?_
              refine lv_isub hx hb dX7_truth_197 ?_
              refine lv_aload_n hx hb dX7_truth_198 rfl (lv_at hl 2 rfl) ?_
              refine x_getr hx hb hts inX7 hown hK hP tM_0 (C := RX7) (F := TX7) (N := 18) rfl 4 (by decide) q762 rfl 5 rfl dX7_truth_199 ?_
              refine lv_iload hx hb dX7_truth_202 (lv_at hl 6 rfl) ?_
              obtain ⟨hz, h⟩ := ite_n h
              refine x_ald hx hb hK hP tM_5 hz dX7_truth_204 ?_
              refine lv_iconst (v := (2 : Int32)) hx hb dX7_truth_205 (by decide) ?_
              refine lv_icmp_ne (tgt := 213) hx hb dX7_truth_206 (by decide) (fun hc => ?_) (fun hc => ?_)
              · have h := ite_f hc h
                refine lv_iconst (v := (0 : Int32)) hx hb dX7_truth_213 (by decide) ?_
                exact J214 v4 ((g_w g8 0 13 ((g8.1 0 13) - (1 : Int32))).1 9 (((g_w g8 0 13 ((g8.1 0 13) - (1 : Int32))).1 0 13) - (1 : Int32)).toNatClampNeg) ((g_w g8 0 13 ((g8.1 0 13) - (1 : Int32))).1 9 ((g_w g8 0 13 ((g8.1 0 13) - (1 : Int32))).1 0 13).toNatClampNeg) (((g_w g8 0 13 ((g8.1 0 13) - (1 : Int32))).1 0 13) - (1 : Int32)) (0 : Int32) (g_w g8 0 13 ((g8.1 0 13) - (1 : Int32))) _ _ _ hP hS (lv_sub hl [2, 3, 4, 5, 6, 1, 0] rfl) h
              · have h := ite_t hc h
                refine lv_iconst (v := (1 : Int32)) hx hb dX7_truth_209 (by decide) ?_
                refine lv_goto (tgt := 214) hx hb dX7_truth_210 (by decide) ?_
                exact J214 v4 ((g_w g8 0 13 ((g8.1 0 13) - (1 : Int32))).1 9 (((g_w g8 0 13 ((g8.1 0 13) - (1 : Int32))).1 0 13) - (1 : Int32)).toNatClampNeg) ((g_w g8 0 13 ((g8.1 0 13) - (1 : Int32))).1 9 ((g_w g8 0 13 ((g8.1 0 13) - (1 : Int32))).1 0 13).toNatClampNeg) (((g_w g8 0 13 ((g8.1 0 13) - (1 : Int32))).1 0 13) - (1 : Int32)) (1 : Int32) (g_w g8 0 13 ((g8.1 0 13) - (1 : Int32))) _ _ _ hP hS (lv_sub hl [2, 3, 4, 5, 6, 1, 0] rfl) h
            · have h := ite_t hc h
              refine lv_aload_n hx hb dX7_truth_127 rfl (lv_at hl 0 rfl) ?_
              refine x_getr hx hb hts inX7 hown hK hP tM_0 (C := RX7) (F := TX7) (N := 18) rfl 11 (by decide) q769 rfl 9 rfl dX7_truth_128 ?_
              refine lv_aload_n hx hb dX7_truth_131 rfl (lv_at hl 0 rfl) ?_
              refine x_get hx hb hts inX7 hown hK hP tM_0 (C := RX7) (F := TX7) (N := 18) rfl 13 (by decide) q771 rfl rfl dX7_truth_132 ?_
              refine lv_iconst (v := (1 : Int32)) hx hb dX7_truth_135 (by decide) ?_
              refine lv_isub hx hb dX7_truth_136 ?_
              refine lv_iconst (v := (2 : Int32)) hx hb dX7_truth_137 (by decide) ?_
              refine lv_aload_n hx hb dX7_truth_138 rfl (lv_at hl 0 rfl) ?_
              refine x_getr hx hb hts inX7 hown hK hP tM_0 (C := RX7) (F := TX7) (N := 18) rfl 11 (by decide) q769 rfl 9 rfl dX7_truth_139 ?_
              refine lv_aload_n hx hb dX7_truth_142 rfl (lv_at hl 0 rfl) ?_
              refine x_get hx hb hts inX7 hown hK hP tM_0 (C := RX7) (F := TX7) (N := 18) rfl 13 (by decide) q771 rfl rfl dX7_truth_143 ?_
              refine lv_iconst (v := (1 : Int32)) hx hb dX7_truth_146 (by decide) ?_
              refine lv_isub hx hb dX7_truth_147 ?_
              obtain ⟨hz, h⟩ := ite_n h
              refine x_ald hx hb hK hP tM_9 hz dX7_truth_148 ?_
              refine lv_isub hx hb dX7_truth_149 ?_
              obtain ⟨hz, h⟩ := ite_n h
              refine x_ast hx hb hK hI hP hS tM_9 hz dX7_truth_150 (fun H locs hP hS => ?_)
              refine lv_goto (tgt := 237) hx hb dX7_truth_151 (by decide) ?_
              refine lv_iinc (v := (v4 + (1 : Int32))) (lv' := [(4, .int (v4 + (1 : Int32))), (0, .ref (a 0)), (1, .int x0), (2, .int x1), (3, .int x2)]) hx hb dX7_truth_237 hl (k := 4) rfl rfl (by decide) rfl (fun ls hl => ?_)
              refine lv_goto (tgt := 8) hx hb dX7_truth_240 (by decide) ?_
              exact ih8 (v4 + (1 : Int32)) (g_w g8 9 ((g8.1 0 13) - (1 : Int32)).toNatClampNeg ((2 : Int32) - (g8.1 9 ((g8.1 0 13) - (1 : Int32)).toNatClampNeg))) _ _ _ hP hS (lv_sub hl [1, 2, 3, 4, 0] rfl) h
          · have h := ite_t hc h
            refine lv_aload_n hx hb dX7_truth_74 rfl (lv_at hl 0 rfl) ?_
            refine lv_iload_n hx hb dX7_truth_75 rfl (lv_at hl 3 rfl) ?_
            refine lv_if_ne (tgt := 83) hx hb dX7_truth_76 (by decide) (fun hc => ?_) (fun hc => ?_)
            · have h := ite_f hc h
              refine lv_iload_n hx hb dX7_truth_83 rfl (lv_at hl 2 rfl) ?_
              refine lv_aload_n hx hb dX7_truth_84 rfl (lv_at hl 0 rfl) ?_
              refine x_getr hx hb hts inX7 hown hK hP tM_0 (C := RX7) (F := TX7) (N := 18) rfl 5 (by decide) q763 rfl 6 rfl dX7_truth_85 ?_
              refine lv_iload hx hb dX7_truth_88 (lv_at hl 4 rfl) ?_
              obtain ⟨hz, h⟩ := ite_n h
              refine x_ald hx hb hK hP tM_6 hz dX7_truth_90 ?_
              refine lv_aload_n hx hb dX7_truth_91 rfl (lv_at hl 0 rfl) ?_
              refine x_getr hx hb hts inX7 hown hK hP tM_0 (C := RX7) (F := TX7) (N := 18) rfl 6 (by decide) q764 rfl 7 rfl dX7_truth_92 ?_
              refine lv_iload hx hb dX7_truth_95 (lv_at hl 4 rfl) ?_
              obtain ⟨hz, h⟩ := ite_n h
              refine x_ald hx hb hK hP tM_7 hz dX7_truth_97 ?_
              obtain ⟨r98, hcal, h⟩ := bnd_s h
              refine x_SI (As := [.int x1, .int (g8.1 6 v4.toNatClampNeg), .int (g8.1 7 v4.toNatClampNeg)]) hx hb hml hown hts hK hP hS (ct_X7_passesTest l D a cA cT hI g8 x1 (g8.1 6 v4.toNatClampNeg) (g8.1 7 v4.toNatClampNeg) r98 hcal) (g_S q965 q966 q77 q967) yd_X7_passesTest ⟨Nat.le_of_ble_eq_true rfl, Nat.le_of_ble_eq_true rfl⟩ [.ref (a 0)] rfl (Nat.le_of_ble_eq_true rfl) hl.1 ⟨Nat.le_refl _, Nat.le_refl _⟩ dX7_truth_98 (fun H locs hP hS => ?_)
              refine lv_if_eq (tgt := 108) hx hb dX7_truth_101 (by decide) (fun hc => ?_) (fun hc => ?_)
              · have h := ite_t hc h
                refine lv_iconst (v := (0 : Int32)) hx hb dX7_truth_108 (by decide) ?_
                refine lv_iconst (v := (0 : Int32)) hx hb dX7_truth_109 (by decide) ?_
                obtain ⟨g110, hcal, h⟩ := bnd_s h
                refine x_VV (As := [.int (0 : Int32), .int (0 : Int32)]) hx hb hml hown hts hK hP hS (ct_X7_push l D a cA cT hI g8 (0 : Int32) (0 : Int32) g110 hcal) tM_0 (C := RX7) (F := TX7) (N := 18) rfl (g_V q968 q969 q61 q77 q970) yd_X7_push ⟨Nat.le_of_ble_eq_true rfl, Nat.le_of_ble_eq_true rfl⟩ [] rfl (Nat.le_of_ble_eq_true rfl) hl.1 ⟨Nat.le_refl _, Nat.le_refl _⟩ dX7_truth_110 (fun H locs hP hS => ?_)
                refine lv_goto (tgt := 237) hx hb dX7_truth_113 (by decide) ?_
                refine lv_iinc (v := (v4 + (1 : Int32))) (lv' := [(4, .int (v4 + (1 : Int32))), (0, .ref (a 0)), (1, .int x0), (2, .int x1), (3, .int x2)]) hx hb dX7_truth_237 hl (k := 4) rfl rfl (by decide) rfl (fun ls hl => ?_)
                refine lv_goto (tgt := 8) hx hb dX7_truth_240 (by decide) ?_
                exact ih8 (v4 + (1 : Int32)) g110 _ _ _ hP hS (lv_sub hl [1, 2, 3, 4, 0] rfl) h
              · have h := ite_f hc h
                refine lv_iconst (v := (2 : Int32)) hx hb dX7_truth_104 (by decide) ?_
                refine lv_goto (tgt := 109) hx hb dX7_truth_105 (by decide) ?_
                refine lv_iconst (v := (0 : Int32)) hx hb dX7_truth_109 (by decide) ?_
                obtain ⟨g110, hcal, h⟩ := bnd_s h
                refine x_VV (As := [.int (2 : Int32), .int (0 : Int32)]) hx hb hml hown hts hK hP hS (ct_X7_push l D a cA cT hI g8 (2 : Int32) (0 : Int32) g110 hcal) tM_0 (C := RX7) (F := TX7) (N := 18) rfl (g_V q968 q969 q61 q77 q970) yd_X7_push ⟨Nat.le_of_ble_eq_true rfl, Nat.le_of_ble_eq_true rfl⟩ [] rfl (Nat.le_of_ble_eq_true rfl) hl.1 ⟨Nat.le_refl _, Nat.le_refl _⟩ dX7_truth_110 (fun H locs hP hS => ?_)
                refine lv_goto (tgt := 237) hx hb dX7_truth_113 (by decide) ?_
                refine lv_iinc (v := (v4 + (1 : Int32))) (lv' := [(4, .int (v4 + (1 : Int32))), (0, .ref (a 0)), (1, .int x0), (2, .int x1), (3, .int x2)]) hx hb dX7_truth_237 hl (k := 4) rfl rfl (by decide) rfl (fun ls hl => ?_)
                refine lv_goto (tgt := 8) hx hb dX7_truth_240 (by decide) ?_
                exact ih8 (v4 + (1 : Int32)) g110 _ _ _ hP hS (lv_sub hl [1, 2, 3, 4, 0] rfl) h
            · have h := ite_t hc h
              refine lv_iconst (v := (1 : Int32)) hx hb dX7_truth_79 (by decide) ?_
              refine lv_goto (tgt := 109) hx hb dX7_truth_80 (by decide) ?_
              refine lv_iconst (v := (0 : Int32)) hx hb dX7_truth_109 (by decide) ?_
              obtain ⟨g110, hcal, h⟩ := bnd_s h
              refine x_VV (As := [.int (1 : Int32), .int (0 : Int32)]) hx hb hml hown hts hK hP hS (ct_X7_push l D a cA cT hI g8 (1 : Int32) (0 : Int32) g110 hcal) tM_0 (C := RX7) (F := TX7) (N := 18) rfl (g_V q968 q969 q61 q77 q970) yd_X7_push ⟨Nat.le_of_ble_eq_true rfl, Nat.le_of_ble_eq_true rfl⟩ [] rfl (Nat.le_of_ble_eq_true rfl) hl.1 ⟨Nat.le_refl _, Nat.le_refl _⟩ dX7_truth_110 (fun H locs hP hS => ?_)
              refine lv_goto (tgt := 237) hx hb dX7_truth_113 (by decide) ?_
              refine lv_iinc (v := (v4 + (1 : Int32))) (lv' := [(4, .int (v4 + (1 : Int32))), (0, .ref (a 0)), (1, .int x0), (2, .int x1), (3, .int x2)]) hx hb dX7_truth_237 hl (k := 4) rfl rfl (by decide) rfl (fun ls hl => ?_)
              refine lv_goto (tgt := 8) hx hb dX7_truth_240 (by decide) ?_
              exact ih8 (v4 + (1 : Int32)) g110 _ _ _ hP hS (lv_sub hl [1, 2, 3, 4, 0] rfl) h
        · have h := ite_t hc h
          refine lv_aload_n hx hb dX7_truth_28 rfl (lv_at hl 0 rfl) ?_
          refine lv_iload_n hx hb dX7_truth_29 rfl (lv_at hl 1 rfl) ?_
          refine lv_aload_n hx hb dX7_truth_30 rfl (lv_at hl 0 rfl) ?_
          refine x_getr hx hb hts inX7 hown hK hP tM_0 (C := RX7) (F := TX7) (N := 18) rfl 5 (by decide) q763 rfl 6 rfl dX7_truth_31 ?_
          refine lv_iload hx hb dX7_truth_34 (lv_at hl 4 rfl) ?_
          obtain ⟨hz, h⟩ := ite_n h
          refine x_ald hx hb hK hP tM_6 hz dX7_truth_36 ?_
          refine lv_aload_n hx hb dX7_truth_37 rfl (lv_at hl 0 rfl) ?_
          refine x_getr hx hb hts inX7 hown hK hP tM_0 (C := RX7) (F := TX7) (N := 18) rfl 6 (by decide) q764 rfl 7 rfl dX7_truth_38 ?_
          refine lv_iload hx hb dX7_truth_41 (lv_at hl 4 rfl) ?_
          obtain ⟨hz, h⟩ := ite_n h
          refine x_ald hx hb hK hP tM_7 hz dX7_truth_43 ?_
          obtain ⟨r44, hcal, h⟩ := bnd_s h
          refine x_SI (As := [.int x0, .int (g8.1 6 v4.toNatClampNeg), .int (g8.1 7 v4.toNatClampNeg)]) hx hb hml hown hts hK hP hS (ct_X7_passesTest l D a cA cT hI g8 x0 (g8.1 6 v4.toNatClampNeg) (g8.1 7 v4.toNatClampNeg) r44 hcal) (g_S q965 q966 q77 q967) yd_X7_passesTest ⟨Nat.le_of_ble_eq_true rfl, Nat.le_of_ble_eq_true rfl⟩ [.ref (a 0)] rfl (Nat.le_of_ble_eq_true rfl) hl.1 ⟨Nat.le_refl _, Nat.le_refl _⟩ dX7_truth_44 (fun H locs hP hS => ?_)
          refine lv_if_eq (tgt := 54) hx hb dX7_truth_47 (by decide) (fun hc => ?_) (fun hc => ?_)
          · have h := ite_t hc h
            refine lv_iconst (v := (0 : Int32)) hx hb dX7_truth_54 (by decide) ?_
            refine lv_iconst (v := (0 : Int32)) hx hb dX7_truth_55 (by decide) ?_
            obtain ⟨g56, hcal, h⟩ := bnd_s h
            refine x_VV (As := [.int (0 : Int32), .int (0 : Int32)]) hx hb hml hown hts hK hP hS (ct_X7_push l D a cA cT hI g8 (0 : Int32) (0 : Int32) g56 hcal) tM_0 (C := RX7) (F := TX7) (N := 18) rfl (g_V q968 q969 q61 q77 q970) yd_X7_push ⟨Nat.le_of_ble_eq_true rfl, Nat.le_of_ble_eq_true rfl⟩ [] rfl (Nat.le_of_ble_eq_true rfl) hl.1 ⟨Nat.le_refl _, Nat.le_refl _⟩ dX7_truth_56 (fun H locs hP hS => ?_)
            refine lv_goto (tgt := 237) hx hb dX7_truth_59 (by decide) ?_
            refine lv_iinc (v := (v4 + (1 : Int32))) (lv' := [(4, .int (v4 + (1 : Int32))), (0, .ref (a 0)), (1, .int x0), (2, .int x1), (3, .int x2)]) hx hb dX7_truth_237 hl (k := 4) rfl rfl (by decide) rfl (fun ls hl => ?_)
            refine lv_goto (tgt := 8) hx hb dX7_truth_240 (by decide) ?_
            exact ih8 (v4 + (1 : Int32)) g56 _ _ _ hP hS (lv_sub hl [1, 2, 3, 4, 0] rfl) h
          · have h := ite_f hc h
            refine lv_iconst (v := (2 : Int32)) hx hb dX7_truth_50 (by decide) ?_
            refine lv_goto (tgt := 55) hx hb dX7_truth_51 (by decide) ?_
            refine lv_iconst (v := (0 : Int32)) hx hb dX7_truth_55 (by decide) ?_
            obtain ⟨g56, hcal, h⟩ := bnd_s h
            refine x_VV (As := [.int (2 : Int32), .int (0 : Int32)]) hx hb hml hown hts hK hP hS (ct_X7_push l D a cA cT hI g8 (2 : Int32) (0 : Int32) g56 hcal) tM_0 (C := RX7) (F := TX7) (N := 18) rfl (g_V q968 q969 q61 q77 q970) yd_X7_push ⟨Nat.le_of_ble_eq_true rfl, Nat.le_of_ble_eq_true rfl⟩ [] rfl (Nat.le_of_ble_eq_true rfl) hl.1 ⟨Nat.le_refl _, Nat.le_refl _⟩ dX7_truth_56 (fun H locs hP hS => ?_)
            refine lv_goto (tgt := 237) hx hb dX7_truth_59 (by decide) ?_
            refine lv_iinc (v := (v4 + (1 : Int32))) (lv' := [(4, .int (v4 + (1 : Int32))), (0, .ref (a 0)), (1, .int x0), (2, .int x1), (3, .int x2)]) hx hb dX7_truth_237 hl (k := 4) rfl rfl (by decide) rfl (fun ls hl => ?_)
            refine lv_goto (tgt := 8) hx hb dX7_truth_240 (by decide) ?_
            exact ih8 (v4 + (1 : Int32)) g56 _ _ _ hP hS (lv_sub hl [1, 2, 3, 4, 0] rfl) h
  exact K8 fuelN (0 : Int32) (g_w g 0 13 (0 : Int32)) _ _ _ hP hS (lv_sub hl [1, 2, 3, 4, 0] rfl) h
set_option maxHeartbeats 4000000 in
set_option maxRecDepth 100000 in
theorem ct_X7_passing (l : Launch) (D : va_G) (a : Nat → Nat) (cA cT : ClassId) (hI : WI a TM) (g : MG) (x0 : Int32) (x1 : Int32) (x2 : Int32) (x3 : Int32)  (r : Int32) (h : m_X7_passing g x0 x1 x2 x3 = some r) :
    CtI l D a cA cT TM yX7_passing (Cond.code yX7_passing cX7_passing 6 (some .int) :: lw_all) (rmm 1 22) [.int x0, .int x1, .int x2, .int x3] g r g := by
  refine CtI.of (by decide +kernel) (Nat.le_of_ble_eq_true rfl) ?_
  intro p e s m args below meth c Q ls hx hb hml hown hts hK hP hS hl hend
  have hl : lv_has ls 6 [(0, .int x0), (1, .int x1), (2, .int x2), (3, .int x3)] := hl
  unfold m_X7_passing at h
  refine lv_iconst (v := (0 : Int32)) hx hb dX7_passing_0 (by decide) ?_
  refine lv_istore (lv' := [(4, .int (0 : Int32)), (0, .int x0), (1, .int x1), (2, .int x2), (3, .int x3)]) hx hb dX7_passing_1 hl (by decide) rfl (fun ls hl => ?_)
  refine lv_iload_n hx hb dX7_passing_3 rfl (lv_at hl 1 rfl) ?_
  refine lv_istore (lv' := [(5, .int x0), (4, .int (0 : Int32)), (0, .int x0), (1, .int x1), (2, .int x2), (3, .int x3)]) hx hb dX7_passing_4 hl (by decide) rfl (fun ls hl => ?_)
  have K6 : ∀ (n6 : Nat) (v4 : Int32) (v5 : Int32) (H : Heap) (locs : List Loc) (ls : Array Slot), WP D a cA cT TM g H → va_S (AA a TM) s.heap H locs → lv_has ls 6 [(1, .int x1), (2, .int x2), (3, .int x3), (4, .int v4), (5, .int v5)] → lpo (b_X7_passing_L6 g x0 x1 x2 x3) n6 (v4, v5) = some r → W p l e (rmm 1 22) s m args below meth c H locs 0 0 Q (F0 m 6 ls []) := by
    intro n6
    induction n6 with
    | zero => intro v4 v5 H locs ls hP hS hl h; exact (lpo_0 h).elim
    | succ n6 ih6 =>
      intro v4 v5 H locs ls hP hS hl h
      have h : m_X7_passing_L6 (lpo (b_X7_passing_L6 g x0 x1 x2 x3) n6) g x0 x1 x2 x3 v4 v5 = some r := h
      unfold m_X7_passing_L6 at h
      refine lv_iload hx hb dX7_passing_6 (lv_at hl 4 rfl) ?_
      refine lv_iload_n hx hb dX7_passing_8 rfl (lv_at hl 0 rfl) ?_
      refine lv_icmp_gt (tgt := 38) hx hb dX7_passing_9 (by decide) (fun hc => ?_) (fun hc => ?_)
      · have h := ite_t hc h
        refine lv_iload hx hb dX7_passing_38 (lv_at hl 3 rfl) ?_
        obtain rfl := Option.some.inj h
        exact hend _ _ _ _ dX7_passing_40 rfl hP hS
      · have h := ite_f hc h
        refine lv_iload hx hb dX7_passing_12 (lv_at hl 3 rfl) ?_
        refine lv_iload hx hb dX7_passing_14 (lv_at hl 4 rfl) ?_
        refine lv_iload_n hx hb dX7_passing_16 rfl (lv_at hl 1 rfl) ?_
        refine lv_iload_n hx hb dX7_passing_17 rfl (lv_at hl 2 rfl) ?_
        obtain ⟨r18, hcal, h⟩ := bnd_s h
        refine x_SI (As := [.int v5, .int x2, .int x3]) hx hb hml hown hts hK hP hS (ct_X7_passesTest l D a cA cT hI g v5 x2 x3 r18 hcal) (g_S q965 q966 q77 q967) yd_X7_passesTest ⟨Nat.le_of_ble_eq_true rfl, Nat.le_of_ble_eq_true rfl⟩ [.int v4] rfl (Nat.le_of_ble_eq_true rfl) hl.1 ⟨Nat.le_refl _, Nat.le_refl _⟩ dX7_passing_18 (fun H locs hP hS => ?_)
        refine lv_if_eq (tgt := 28) hx hb dX7_passing_21 (by decide) (fun hc => ?_) (fun hc => ?_)
        · have h := ite_t hc h
          refine lv_iconst (v := (0 : Int32)) hx hb dX7_passing_28 (by decide) ?_
          refine lv_iadd hx hb dX7_passing_29 ?_
          refine lv_istore (lv' := [(4, .int (v4 + (0 : Int32))), (1, .int x1), (2, .int x2), (3, .int x3), (5, .int v5)]) hx hb dX7_passing_30 hl (by decide) rfl (fun ls hl => ?_)
          refine lv_iinc (v := (v5 + (1 : Int32))) (lv' := [(5, .int (v5 + (1 : Int32))), (4, .int (v4 + (0 : Int32))), (1, .int x1), (2, .int x2), (3, .int x3)]) hx hb dX7_passing_32 hl (k := 4) rfl rfl (by decide) rfl (fun ls hl => ?_)
          refine lv_goto (tgt := 6) hx hb dX7_passing_35 (by decide) ?_
          exact ih6 (v4 + (0 : Int32)) (v5 + (1 : Int32)) _ _ _ hP hS (lv_sub hl [2, 3, 4, 1, 0] rfl) h
        · have h := ite_f hc h
          refine lv_iconst (v := (1 : Int32)) hx hb dX7_passing_24 (by decide) ?_
          refine lv_goto (tgt := 29) hx hb dX7_passing_25 (by decide) ?_
          refine lv_iadd hx hb dX7_passing_29 ?_
          refine lv_istore (lv' := [(4, .int (v4 + (1 : Int32))), (1, .int x1), (2, .int x2), (3, .int x3), (5, .int v5)]) hx hb dX7_passing_30 hl (by decide) rfl (fun ls hl => ?_)
          refine lv_iinc (v := (v5 + (1 : Int32))) (lv' := [(5, .int (v5 + (1 : Int32))), (4, .int (v4 + (1 : Int32))), (1, .int x1), (2, .int x2), (3, .int x3)]) hx hb dX7_passing_32 hl (k := 4) rfl rfl (by decide) rfl (fun ls hl => ?_)
          refine lv_goto (tgt := 6) hx hb dX7_passing_35 (by decide) ?_
          exact ih6 (v4 + (1 : Int32)) (v5 + (1 : Int32)) _ _ _ hP hS (lv_sub hl [2, 3, 4, 1, 0] rfl) h
  exact K6 fuelN (0 : Int32) x0 _ _ _ hP hS (lv_sub hl [3, 4, 5, 1, 0] rfl) h
