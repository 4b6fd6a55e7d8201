set_option maxHeartbeats 4000000 in
set_option maxRecDepth 100000 in
theorem ct_X7_canHold (l : Launch) (D : va_G) (a : Nat → Nat) (cA cT : ClassId) (hI : WI a TM) (g : MG) (x0 : Int32) (x1 : Int32)  (r : Int32) (g' : MG) (h : m_X7_canHold g x0 x1 = some (r, g')) :
    CtI l D a cA cT TM yX7_canHold (Cond.code yX7_canHold cX7_canHold 5 (some .boolean) :: lw_all) (rmm 2 47) [.ref (a 0), .int x0, .int x1] g r g' := by
  refine CtI.of (by decide +kernel) (Nat.le_of_ble_eq_true rfl) ?_
  intro p e s m args below meth c Q ls hx hb hml hown hts hK hP hS hl hend
  have hl : lv_has ls 5 [(0, .ref (a 0)), (1, .int x0), (2, .int x1)] := hl
  unfold m_X7_canHold at h
  refine lv_aload_n hx hb dX7_canHold_0 rfl (lv_at hl 0 rfl) ?_
  refine lv_iconst (v := (0 : Int32)) hx hb dX7_canHold_1 (by decide) ?_
  refine x_put hx hb hts inX7 tyX7 tyX7_ok nmX7 hown hK hI hP hS tM_0 (C := RX7) (F := TX7) (N := 18) rfl 13 (by decide) q771 rfl rfl rfl rfl rfl dX7_canHold_2 (fun H locs hP hS => ?_)
  refine lv_iconst (v := (0 : Int32)) hx hb dX7_canHold_5 (by decide) ?_
  refine lv_istore_n (lv' := [(3, .int (0 : Int32)), (0, .ref (a 0)), (1, .int x0), (2, .int x1)]) hx hb dX7_canHold_6 rfl hl (by decide) rfl (fun ls hl => ?_)
  have K7 : ∀ (n7 : Nat) (v3 : Int32) (g7 : MG) (H : Heap) (locs : List Loc) (ls : Array Slot), WP D a cA cT TM g7 H → va_S (AA a TM) s.heap H locs → lv_has ls 5 [(0, .ref (a 0)), (1, .int x0), (2, .int x1), (3, .int v3)] → lpo (b_X7_canHold_L7 x0 x1) n7 (v3, g7) = some (r, g') → W p l e (rmm 2 47) s m args below meth c H locs 0 0 Q (F0 m 7 ls []) := by
    intro n7
    induction n7 with
    | zero => intro v3 g7 H locs ls hP hS hl h; exact (lpo_0 h).elim
    | succ n7 ih7 =>
      intro v3 g7 H locs ls hP hS hl h
      have h : m_X7_canHold_L7 (lpo (b_X7_canHold_L7 x0 x1) n7) x0 x1 v3 g7 = some (r, g') := h
      unfold m_X7_canHold_L7 at h
      have J236 : ∀ (v3 : Int32) (w1 : Int32) (w2 : Int32) (g236 : MG) (H : Heap) (locs : List Loc) (ls : Array Slot), WP D a cA cT TM g236 H → va_S (AA a TM) s.heap H locs → lv_has ls 5 [(0, .ref (a 0)), (1, .int x0), (2, .int x1), (3, .int v3)] → m_X7_canHold_J236 (lpo (b_X7_canHold_L7 x0 x1) n7) x0 x1 v3 w1 w2 g236 = some (r, g') → W p l e (rmm 2 47) s m args below meth c H locs 0 0 Q (F0 m 236 ls [.int w2, .int w1, .ref (a 9)]) := by
        intro v3 w1 w2 g236 H locs ls hP hS hl h
        unfold m_X7_canHold_J236 at h
        obtain ⟨hz, h⟩ := ite_n h
        refine x_ast hx hb hK hI hP hS tM_9 hz dX7_canHold_236 (fun H locs hP hS => ?_)
        refine lv_aload_n hx hb dX7_canHold_237 rfl (lv_at hl 0 rfl) ?_
        refine x_getr hx hb hts inX7 hown hK hP tM_0 (C := RX7) (F := TX7) (N := 18) rfl 12 (by decide) q770 rfl 10 rfl dX7_canHold_238 ?_
        refine lv_aload_n hx hb dX7_canHold_241 rfl (lv_at hl 0 rfl) ?_
        refine x_get hx hb hts inX7 hown hK hP tM_0 (C := RX7) (F := TX7) (N := 18) rfl 13 (by decide) q771 rfl rfl dX7_canHold_242 ?_
        refine lv_iconst (v := (1 : Int32)) hx hb dX7_canHold_245 (by decide) ?_
        refine lv_isub hx hb dX7_canHold_246 ?_
        refine lv_aload_n hx hb dX7_canHold_247 rfl (lv_at hl 0 rfl) ?_
        refine x_getr hx hb hts inX7 hown hK hP tM_0 (C := RX7) (F := TX7) (N := 18) rfl 4 (by decide) q762 rfl 5 rfl dX7_canHold_248 ?_
        refine lv_iload_n hx hb dX7_canHold_251 rfl (lv_at hl 3 rfl) ?_
        obtain ⟨hz, h⟩ := ite_n h
        refine x_ald hx hb hK hP tM_5 hz dX7_canHold_252 ?_
        refine lv_iconst (v := (2 : Int32)) hx hb dX7_canHold_253 (by decide) ?_
        refine lv_icmp_ne (tgt := 281) hx hb dX7_canHold_254 (by decide) (fun hc => ?_) (fun hc => ?_)
        · have h := ite_f hc h
          refine lv_aload_n hx hb dX7_canHold_281 rfl (lv_at hl 0 rfl) ?_
          refine x_getr hx hb hts inX7 hown hK hP tM_0 (C := RX7) (F := TX7) (N := 18) rfl 12 (by decide) q770 rfl 10 rfl dX7_canHold_282 ?_
          refine lv_aload_n hx hb dX7_canHold_285 rfl (lv_at hl 0 rfl) ?_
          refine x_get hx hb hts inX7 hown hK hP tM_0 (C := RX7) (F := TX7) (N := 18) rfl 13 (by decide) q771 rfl rfl dX7_canHold_286 ?_
          refine lv_iconst (v := (1 : Int32)) hx hb dX7_canHold_289 (by decide) ?_
          refine lv_isub hx hb dX7_canHold_290 ?_
          obtain ⟨hz, h⟩ := ite_n h
          refine x_ald hx hb hK hP tM_10 hz dX7_canHold_291 ?_
          refine lv_aload_n hx hb dX7_canHold_292 rfl (lv_at hl 0 rfl) ?_
          refine x_getr hx hb hts inX7 hown hK hP tM_0 (C := RX7) (F := TX7) (N := 18) rfl 12 (by decide) q770 rfl 10 rfl dX7_canHold_293 ?_
          refine lv_aload_n hx hb dX7_canHold_296 rfl (lv_at hl 0 rfl) ?_
          refine x_get hx hb hts inX7 hown hK hP tM_0 (C := RX7) (F := TX7) (N := 18) rfl 13 (by decide) q771 rfl rfl dX7_canHold_297 ?_
          obtain ⟨hz, h⟩ := ite_n h
          refine x_ald hx hb hK hP tM_10 hz dX7_canHold_300 ?_
          refine lv_ior hx hb dX7_canHold_301 ?_
          obtain ⟨hz, h⟩ := ite_n h
          refine x_ast hx hb hK hI hP hS tM_10 hz dX7_canHold_302 (fun H locs hP hS => ?_)
          refine lv_iinc (v := (v3 + (1 : Int32))) (lv' := [(3, .int (v3 + (1 : Int32))), (0, .ref (a 0)), (1, .int x0), (2, .int x1)]) hx hb dX7_canHold_303 hl (k := 3) rfl rfl (by decide) rfl (fun ls hl => ?_)
          refine lv_goto (tgt := 7) hx hb dX7_canHold_306 (by decide) ?_
          exact ih7 (v3 + (1 : Int32)) (g_w (g_w g236 9 w1.toNatClampNeg w2) 10 (((g_w g236 9 w1.toNatClampNeg w2).1 0 13) - (1 : Int32)).toNatClampNeg (((g_w g236 9 w1.toNatClampNeg w2).1 10 (((g_w g236 9 w1.toNatClampNeg w2).1 0 13) - (1 : Int32)).toNatClampNeg) ||| ((g_w g236 9 w1.toNatClampNeg w2).1 10 ((g_w g236 9 w1.toNatClampNeg w2).1 0 13).toNatClampNeg))) _ _ _ hP hS (lv_sub hl [1, 2, 3, 0] rfl) h
        · have h := ite_t hc h
          refine lv_aload_n hx hb dX7_canHold_257 rfl (lv_at hl 0 rfl) ?_
          refine x_getr hx hb hts inX7 hown hK hP tM_0 (C := RX7) (F := TX7) (N := 18) rfl 12 (by decide) q770 rfl 10 rfl dX7_canHold_258 ?_
          refine lv_aload_n hx hb dX7_canHold_261 rfl (lv_at hl 0 rfl) ?_
          refine x_get hx hb hts inX7 hown hK hP tM_0 (C := RX7) (F := TX7) (N := 18) rfl 13 (by decide) q771 rfl rfl dX7_canHold_262 ?_
          refine lv_iconst (v := (1 : Int32)) hx hb dX7_canHold_265 (by decide) ?_
          refine lv_isub hx hb dX7_canHold_266 ?_
          obtain ⟨hz, h⟩ := ite_n h
          refine x_ald hx hb hK hP tM_10 hz dX7_canHold_267 ?_
          refine lv_aload_n hx hb dX7_canHold_268 rfl (lv_at hl 0 rfl) ?_
          refine x_getr hx hb hts inX7 hown hK hP tM_0 (C := RX7) (F := TX7) (N := 18) rfl 12 (by decide) q770 rfl 10 rfl dX7_canHold_269 ?_
          refine lv_aload_n hx hb dX7_canHold_272 rfl (lv_at hl 0 rfl) ?_
          refine x_get hx hb hts inX7 hown hK hP tM_0 (C := RX7) (F := TX7) (N := 18) rfl 13 (by decide) q771 rfl rfl dX7_canHold_273 ?_
          obtain ⟨hz, h⟩ := ite_n h
          refine x_ald hx hb hK hP tM_10 hz dX7_canHold_276 ?_
          refine lv_iand hx hb dX7_canHold_277 ?_
          refine lv_goto (tgt := 302) hx hb dX7_canHold_278 (by decide) ?_
          obtain ⟨hz, h⟩ := ite_n h
          refine x_ast hx hb hK hI hP hS tM_10 hz dX7_canHold_302 (fun H locs hP hS => ?_)
          refine lv_iinc (v := (v3 + (1 : Int32))) (lv' := [(3, .int (v3 + (1 : Int32))), (0, .ref (a 0)), (1, .int x0), (2, .int x1)]) hx hb dX7_canHold_303 hl (k := 3) rfl rfl (by decide) rfl (fun ls hl => ?_)
          refine lv_goto (tgt := 7) hx hb dX7_canHold_306 (by decide) ?_
          exact ih7 (v3 + (1 : Int32)) (g_w (g_w g236 9 w1.toNatClampNeg w2) 10 (((g_w g236 9 w1.toNatClampNeg w2).1 0 13) - (1 : Int32)).toNatClampNeg (((g_w g236 9 w1.toNatClampNeg w2).1 10 (((g_w g236 9 w1.toNatClampNeg w2).1 0 13) - (1 : Int32)).toNatClampNeg) &&& ((g_w g236 9 w1.toNatClampNeg w2).1 10 ((g_w g236 9 w1.toNatClampNeg w2).1 0 13).toNatClampNeg))) _ _ _ hP hS (lv_sub hl [1, 2, 3, 0] rfl) h
      have J55 : ∀ (v3 : Int32) (v4 : Int32) (w1 : Int32) (g55 : MG) (H : Heap) (locs : List Loc) (ls : Array Slot), WP D a cA cT TM g55 H → va_S (AA a TM) s.heap H locs → lv_has ls 5 [(0, .ref (a 0)), (1, .int x0), (2, .int x1), (3, .int v3), (4, .int v4)] → m_X7_canHold_J55 (lpo (b_X7_canHold_L7 x0 x1) n7) x0 x1 v3 v4 w1 g55 = some (r, g') → W p l e (rmm 2 47) s m args below meth c H locs 0 0 Q (F0 m 55 ls [.int w1, .ref (a 0)]) := by
        intro v3 v4 w1 g55 H locs ls hP hS hl h
        unfold m_X7_canHold_J55 at h
        refine lv_iload hx hb dX7_canHold_55 (lv_at hl 4 rfl) ?_
        refine lv_iload_n hx hb dX7_canHold_57 rfl (lv_at hl 2 rfl) ?_
        refine lv_iload_n hx hb dX7_canHold_58 rfl (lv_at hl 1 rfl) ?_
        refine lv_isub hx hb dX7_canHold_59 ?_
        refine lv_iconst (v := (1 : Int32)) hx hb dX7_canHold_60 (by decide) ?_
        refine lv_iadd hx hb dX7_canHold_61 ?_
        refine lv_icmp_ne (tgt := 69) hx hb dX7_canHold_62 (by decide) (fun hc => ?_) (fun hc => ?_)
        · have h := ite_f hc h
          refine lv_iconst (v := (0 : Int32)) hx hb dX7_canHold_69 (by decide) ?_
          obtain ⟨g70, hcal, h⟩ := bnd_s h
          refine x_VV (As := [.int w1, .int (0 : Int32)]) hx hb hml hown hts hK hP hS (ct_X7_push l D a cA cT hI g55 w1 (0 : Int32) g70 hcal) tM_0 (C := RX7) (F := TX7) (N := 18) rfl (g_V q968 q969 q61 q77 q970) yd_X7_push ⟨Nat.le_of_ble_eq_true rfl, Nat.le_of_ble_eq_true rfl⟩ [] rfl (Nat.le_of_ble_eq_true rfl) hl.1 ⟨Nat.le_refl _, Nat.le_refl _⟩ dX7_canHold_70 (fun H locs hP hS => ?_)
          refine lv_goto (tgt := 303) hx hb dX7_canHold_73 (by decide) ?_
          refine lv_iinc (v := (v3 + (1 : Int32))) (lv' := [(3, .int (v3 + (1 : Int32))), (0, .ref (a 0)), (1, .int x0), (2, .int x1), (4, .int v4)]) hx hb dX7_canHold_303 hl (k := 3) rfl rfl (by decide) rfl (fun ls hl => ?_)
          refine lv_goto (tgt := 7) hx hb dX7_canHold_306 (by decide) ?_
          exact ih7 (v3 + (1 : Int32)) g70 _ _ _ hP hS (lv_sub hl [1, 2, 3, 0] rfl) h
        · have h := ite_t hc h
          refine lv_iconst (v := (1 : Int32)) hx hb dX7_canHold_65 (by decide) ?_
          refine lv_goto (tgt := 70) hx hb dX7_canHold_66 (by decide) ?_
          obtain ⟨g70, hcal, h⟩ := bnd_s h
          refine x_VV (As := [.int w1, .int (1 : Int32)]) hx hb hml hown hts hK hP hS (ct_X7_push l D a cA cT hI g55 w1 (1 : Int32) g70 hcal) tM_0 (C := RX7) (F := TX7) (N := 18) rfl (g_V q968 q969 q61 q77 q970) yd_X7_push ⟨Nat.le_of_ble_eq_true rfl, Nat.le_of_ble_eq_true rfl⟩ [] rfl (Nat.le_of_ble_eq_true rfl) hl.1 ⟨Nat.le_refl _, Nat.le_refl _⟩ dX7_canHold_70 (fun H locs hP hS => ?_)
          refine lv_goto (tgt := 303) hx hb dX7_canHold_73 (by decide) ?_
          refine lv_iinc (v := (v3 + (1 : Int32))) (lv' := [(3, .int (v3 + (1 : Int32))), (0, .ref (a 0)), (1, .int x0), (2, .int x1), (4, .int v4)]) hx hb dX7_canHold_303 hl (k := 3) rfl rfl (by decide) rfl (fun ls hl => ?_)
          refine lv_goto (tgt := 7) hx hb dX7_canHold_306 (by decide) ?_
          exact ih7 (v3 + (1 : Int32)) g70 _ _ _ hP hS (lv_sub hl [1, 2, 3, 0] rfl) h
      refine lv_iload_n hx hb dX7_canHold_7 rfl (lv_at hl 3 rfl) ?_
      refine lv_aload_n hx hb dX7_canHold_8 rfl (lv_at hl 0 rfl) ?_
      refine x_get hx hb hts inX7 hown hK hP tM_0 (C := RX7) (F := TX7) (N := 18) rfl 8 (by decide) q766 rfl rfl dX7_canHold_9 ?_
      refine lv_icmp_ge (tgt := 309) hx hb dX7_canHold_12 (by decide) (fun hc => ?_) (fun hc => ?_)
      · have h := ite_t hc h
        refine lv_aload_n hx hb dX7_canHold_309 rfl (lv_at hl 0 rfl) ?_
        refine x_getr hx hb hts inX7 hown hK hP tM_0 (C := RX7) (F := TX7) (N := 18) rfl 11 (by decide) q769 rfl 9 rfl dX7_canHold_310 ?_
        refine lv_iconst (v := (0 : Int32)) hx hb dX7_canHold_313 (by decide) ?_
        obtain ⟨hz, h⟩ := ite_n h
        refine x_ald hx hb hK hP tM_9 hz dX7_canHold_314 ?_
        refine lv_iconst (v := (1 : Int32)) hx hb dX7_canHold_315 (by decide) ?_
        refine lv_icmp_ne (tgt := 323) hx hb dX7_canHold_316 (by decide) (fun hc => ?_) (fun hc => ?_)
        · have h := ite_f hc h
          refine lv_iconst (v := (0 : Int32)) hx hb dX7_canHold_323 (by decide) ?_
          obtain ⟨rfl, rfl⟩ := Prod.mk.inj (Option.some.inj h)
          exact hend _ _ _ _ dX7_canHold_324 rfl hP hS
        · have h := ite_t hc h
          refine lv_iconst (v := (1 : Int32)) hx hb dX7_canHold_319 (by decide) ?_
          refine lv_goto (tgt := 324) hx hb dX7_canHold_320 (by decide) ?_
          obtain ⟨rfl, rfl⟩ := Prod.mk.inj (Option.some.inj h)
          exact hend _ _ _ _ dX7_canHold_324 rfl hP hS
      · have h := ite_f hc h
        refine lv_aload_n hx hb dX7_canHold_15 rfl (lv_at hl 0 rfl) ?_
        refine x_getr hx hb hts inX7 hown hK hP tM_0 (C := RX7) (F := TX7) (N := 18) rfl 4 (by decide) q762 rfl 5 rfl dX7_canHold_16 ?_
        refine lv_iload_n hx hb dX7_canHold_19 rfl (lv_at hl 3 rfl) ?_
        obtain ⟨hz, h⟩ := ite_n h
        refine x_ald hx hb hK hP tM_5 hz dX7_canHold_20 ?_
        refine lv_iconst (v := (5 : Int32)) hx hb dX7_canHold_21 (by decide) ?_
        refine lv_icmp_ne (tgt := 76) hx hb dX7_canHold_22 (by decide) (fun hc => ?_) (fun hc => ?_)
        · have h := ite_f hc h
          refine lv_aload_n hx hb dX7_canHold_76 rfl (lv_at hl 0 rfl) ?_
          refine x_getr hx hb hts inX7 hown hK hP tM_0 (C := RX7) (F := TX7) (N := 18) rfl 4 (by decide) q762 rfl 5 rfl dX7_canHold_77 ?_
          refine lv_iload_n hx hb dX7_canHold_80 rfl (lv_at hl 3 rfl) ?_
          obtain ⟨hz, h⟩ := ite_n h
          refine x_ald hx hb hK hP tM_5 hz dX7_canHold_81 ?_
          refine lv_bipush (v := (6 : Int32)) hx hb dX7_canHold_82 (by decide) ?_
          refine lv_icmp_ne (tgt := 96) hx hb dX7_canHold_84 (by decide) (fun hc => ?_) (fun hc => ?_)
          · have h := ite_f hc h
            refine lv_aload_n hx hb dX7_canHold_96 rfl (lv_at hl 0 rfl) ?_
            refine x_getr hx hb hts inX7 hown hK hP tM_0 (C := RX7) (F := TX7) (N := 18) rfl 4 (by decide) q762 rfl 5 rfl dX7_canHold_97 ?_
            refine lv_iload_n hx hb dX7_canHold_100 rfl (lv_at hl 3 rfl) ?_
            obtain ⟨hz, h⟩ := ite_n h
            refine x_ald hx hb hK hP tM_5 hz dX7_canHold_101 ?_
            refine lv_iconst (v := (1 : Int32)) hx hb dX7_canHold_102 (by decide) ?_
            refine lv_icmp_ne (tgt := 161) hx hb dX7_canHold_103 (by decide) (fun hc => ?_) (fun hc => ?_)
            · have h := ite_f hc h
              refine lv_aload_n hx hb dX7_canHold_161 rfl (lv_at hl 0 rfl) ?_
              refine lv_dup hx hb dX7_canHold_162 rfl ?_
              refine x_get hx hb hts inX7 hown hK hP tM_0 (C := RX7) (F := TX7) (N := 18) rfl 13 (by decide) q771 rfl rfl dX7_canHold_163 ?_
              refine lv_iconst (v := (1 : Int32)) hx hb dX7_canHold_166 (by decide) ?_
              refine lv_isub hx hb dX7_canHold_167 ?_
              refine x_put hx hb hts inX7 tyX7 tyX7_ok nmX7 hown hK hI hP hS tM_0 (C := RX7) (F := TX7) (N := 18) rfl 13 (by decide) q771 rfl rfl rfl rfl rfl dX7_canHold_168 (fun H locs hP hS => ?_)
              refine lv_aload_n hx hb dX7_canHold_171 rfl (lv_at hl 0 rfl) ?_
              refine x_getr hx hb hts inX7 hown hK hP tM_0 (C := RX7) (F := TX7) (N := 18) rfl 11 (by decide) q769 rfl 9 rfl dX7_canHold_172 ?_
              refine lv_aload_n hx hb dX7_canHold_175 rfl (lv_at hl 0 rfl) ?_
              refine x_get hx hb hts inX7 hown hK hP tM_0 (C := RX7) (F := TX7) (N := 18) rfl 13 (by decide) q771 rfl rfl dX7_canHold_176 ?_
              refine lv_iconst (v := (1 : Int32)) hx hb dX7_canHold_179 (by decide) ?_
              refine lv_isub hx hb dX7_canHold_180 ?_
              refine lv_aload_n hx hb dX7_canHold_181 rfl (lv_at hl 0 rfl) ?_
              refine x_getr hx hb hts inX7 hown hK hP tM_0 (C := RX7) (F := TX7) (N := 18) rfl 4 (by decide) q762 rfl 5 rfl dX7_canHold_182 ?_
              refine lv_iload_n hx hb dX7_canHold_185 rfl (lv_at hl 3 rfl) ?_
              obtain ⟨hz, h⟩ := ite_n h
              refine x_ald hx hb hK hP tM_5 hz dX7_canHold_186 ?_
              refine lv_iconst (v := (2 : Int32)) hx hb dX7_canHold_187 (by decide) ?_
              refine lv_icmp_ne (tgt := 215) hx hb dX7_canHold_188 (by decide) (fun hc => ?_) (fun hc => ?_)
              · have h := ite_f hc h
                refine lv_aload_n hx hb dX7_canHold_215 rfl (lv_at hl 0 rfl) ?_
                refine x_getr hx hb hts inX7 hown hK hP tM_0 (C := RX7) (F := TX7) (N := 18) rfl 11 (by decide) q769 rfl 9 rfl dX7_canHold_216 ?_
                refine lv_aload_n hx hb dX7_canHold_219 rfl (lv_at hl 0 rfl) ?_
                refine x_get hx hb hts inX7 hown hK hP tM_0 (C := RX7) (F := TX7) (N := 18) rfl 13 (by decide) q771 rfl rfl dX7_canHold_220 ?_
                refine lv_iconst (v := (1 : Int32)) hx hb dX7_canHold_223 (by decide) ?_
                refine lv_isub hx hb dX7_canHold_224 ?_
                obtain ⟨hz, h⟩ := ite_n h
                refine x_ald hx hb hK hP tM_9 hz dX7_canHold_225 ?_
                refine lv_aload_n hx hb dX7_canHold_226 rfl (lv_at hl 0 rfl) ?_
                refine x_getr hx hb hts inX7 hown hK hP tM_0 (C := RX7) (F := TX7) (N := 18) rfl 11 (by decide) q769 rfl 9 rfl dX7_canHold_227 ?_
                refine lv_aload_n hx hb dX7_canHold_230 rfl (lv_at hl 0 rfl) ?_
                refine x_get hx hb hts inX7 hown hK hP tM_0 (C := RX7) (F := TX7) (N := 18) rfl 13 (by decide) q771 rfl rfl dX7_canHold_231 ?_
                obtain ⟨hz, h⟩ := ite_n h
                refine x_ald hx hb hK hP tM_9 hz dX7_canHold_234 ?_
                refine lv_ior hx hb dX7_canHold_235 ?_
                exact J236 v3 (((g_w g7 0 13 ((g7.1 0 13) - (1 : Int32))).1 0 13) - (1 : Int32)) (((g_w g7 0 13 ((g7.1 0 13) - (1 : Int32))).1 9 (((g_w g7 0 13 ((g7.1 0 13) - (1 : Int32))).1 0 13) - (1 : Int32)).toNatClampNeg) ||| ((g_w g7 0 13 ((g7.1 0 13) - (1 : Int32))).1 9 ((g_w g7 0 13 ((g7.1 0 13) - (1 : Int32))).1 0 13).toNatClampNeg)) (g_w g7 0 13 ((g7.1 0 13) - (1 : Int32))) _ _ _ hP hS (lv_sub hl [0, 1, 2, 3] rfl) h
              · have h := ite_t hc h
                refine lv_aload_n hx hb dX7_canHold_191 rfl (lv_at hl 0 rfl) ?_
                refine x_getr hx hb hts inX7 hown hK hP tM_0 (C := RX7) (F := TX7) (N := 18) rfl 11 (by decide) q769 rfl 9 rfl dX7_canHold_192 ?_
                refine lv_aload_n hx hb dX7_canHold_195 rfl (lv_at hl 0 rfl) ?_
                refine x_get hx hb hts inX7 hown hK hP tM_0 (C := RX7) (F := TX7) (N := 18) rfl 13 (by decide) q771 rfl rfl dX7_canHold_196 ?_
                refine lv_iconst (v := (1 : Int32)) hx hb dX7_canHold_199 (by decide) ?_
                refine lv_isub hx hb dX7_canHold_200 ?_
                obtain ⟨hz, h⟩ := ite_n h
                refine x_ald hx hb hK hP tM_9 hz dX7_canHold_201 ?_
                refine lv_aload_n hx hb dX7_canHold_202 rfl (lv_at hl 0 rfl) ?_
                refine x_getr hx hb hts inX7 hown hK hP tM_0 (C := RX7) (F := TX7) (N := 18) rfl 11 (by decide) q769 rfl 9 rfl dX7_canHold_203 ?_
                refine lv_aload_n hx hb dX7_canHold_206 rfl (lv_at hl 0 rfl) ?_
                refine x_get hx hb hts inX7 hown hK hP tM_0 (C := RX7) (F := TX7) (N := 18) rfl 13 (by decide) q771 rfl rfl dX7_canHold_207 ?_
                obtain ⟨hz, h⟩ := ite_n h
                refine x_ald hx hb hK hP tM_9 hz dX7_canHold_210 ?_
                refine lv_iand hx hb dX7_canHold_211 ?_
                refine lv_goto (tgt := 236) hx hb dX7_canHold_212 (by decide) ?_
                exact J236 v3 (((g_w g7 0 13 ((g7.1 0 13) - (1 : Int32))).1 0 13) - (1 : Int32)) (((g_w g7 0 13 ((g7.1 0 13) - (1 : Int32))).1 9 (((g_w g7 0 13 ((g7.1 0 13) - (1 : Int32))).1 0 13) - (1 : Int32)).toNatClampNeg) &&& ((g_w g7 0 13 ((g7.1 0 13) - (1 : Int32))).1 9 ((g_w g7 0 13 ((g7.1 0 13) - (1 : Int32))).1 0 13).toNatClampNeg)) (g_w g7 0 13 ((g7.1 0 13) - (1 : Int32))) _ _ _ hP hS (lv_sub hl [0, 1, 2, 3] rfl) h
            · have h := ite_t hc h
              refine lv_aload_n hx hb dX7_canHold_106 rfl (lv_at hl 0 rfl) ?_
              refine x_getr hx hb hts inX7 hown hK hP tM_0 (C := RX7) (F := TX7) (N := 18) rfl 11 (by decide) q769 rfl 9 rfl dX7_canHold_107 ?_
              refine lv_aload_n hx hb dX7_canHold_110 rfl (lv_at hl 0 rfl) ?_
              refine x_get hx hb hts inX7 hown hK hP tM_0 (C := RX7) (F := TX7) (N := 18) rfl 13 (by decide) q771 rfl rfl dX7_canHold_111 ?_
              refine lv_iconst (v := (1 : Int32)) hx hb dX7_canHold_114 (by decide) ?_
              refine lv_isub hx hb dX7_canHold_115 ?_
              obtain ⟨hz, h⟩ := ite_n h
              refine x_ald hx hb hK hP tM_9 hz dX7_canHold_116 ?_
              refine lv_istore (lv' := [(4, .int (g7.1 9 ((g7.1 0 13) - (1 : Int32)).toNatClampNeg)), (0, .ref (a 0)), (1, .int x0), (2, .int x1), (3, .int v3)]) hx hb dX7_canHold_117 hl (by decide) rfl (fun ls hl => ?_)
              refine lv_aload_n hx hb dX7_canHold_119 rfl (lv_at hl 1 rfl) ?_
              refine x_getr hx hb hts inX7 hown hK hP tM_0 (C := RX7) (F := TX7) (N := 18) rfl 11 (by decide) q769 rfl 9 rfl dX7_canHold_120 ?_
              refine lv_aload_n hx hb dX7_canHold_123 rfl (lv_at hl 1 rfl) ?_
              refine x_get hx hb hts inX7 hown hK hP tM_0 (C := RX7) (F := TX7) (N := 18) rfl 13 (by decide) q771 rfl rfl dX7_canHold_124 ?_
              refine lv_iconst (v := (1 : Int32)) hx hb dX7_canHold_127 (by decide) ?_
              refine lv_isub hx hb dX7_canHold_128 ?_
              refine lv_iconst (v := (1 : Int32)) hx hb dX7_canHold_129 (by decide) ?_
              refine lv_aload_n hx hb dX7_canHold_130 rfl (lv_at hl 1 rfl) ?_
              refine x_getr hx hb hts inX7 hown hK hP tM_0 (C := RX7) (F := TX7) (N := 18) rfl 12 (by decide) q770 rfl 10 rfl dX7_canHold_131 ?_
              refine lv_aload_n hx hb dX7_canHold_134 rfl (lv_at hl 1 rfl) ?_
              refine x_get hx hb hts inX7 hown hK hP tM_0 (C := RX7) (F := TX7) (N := 18) rfl 13 (by decide) q771 rfl rfl dX7_canHold_135 ?_
              refine lv_iconst (v := (1 : Int32)) hx hb dX7_canHold_138 (by decide) ?_
              refine lv_isub hx hb dX7_canHold_139 ?_
              obtain ⟨hz, h⟩ := ite_n h
              refine x_ald hx hb hK hP tM_10 hz dX7_canHold_140 ?_
              refine lv_isub hx hb dX7_canHold_141 ?_
              obtain ⟨hz, h⟩ := ite_n h
              refine x_ast hx hb hK hI hP hS tM_9 hz dX7_canHold_142 (fun H locs hP hS => ?_)
              refine lv_aload_n hx hb dX7_canHold_143 rfl (lv_at hl 1 rfl) ?_
              refine x_getr hx hb hts inX7 hown hK hP tM_0 (C := RX7) (F := TX7) (N := 18) rfl 12 (by decide) q770 rfl 10 rfl dX7_canHold_144 ?_
              refine lv_aload_n hx hb dX7_canHold_147 rfl (lv_at hl 1 rfl) ?_
              refine x_get hx hb hts inX7 hown hK hP tM_0 (C := RX7) (F := TX7) (N := 18) rfl 13 (by decide) q771 rfl rfl dX7_canHold_148 ?_
              refine lv_iconst (v := (1 : Int32)) hx hb dX7_canHold_151 (by decide) ?_
              refine lv_isub hx hb dX7_canHold_152 ?_
              refine lv_iconst (v := (1 : Int32)) hx hb dX7_canHold_153 (by decide) ?_
              refine lv_iload hx hb dX7_canHold_154 (lv_at hl 0 rfl) ?_
              refine lv_isub hx hb dX7_canHold_156 ?_
              obtain ⟨hz, h⟩ := ite_n h
              refine x_ast hx hb hK hI hP hS tM_10 hz dX7_canHold_157 (fun H locs hP hS => ?_)
              refine lv_goto (tgt := 303) hx hb dX7_canHold_158 (by decide) ?_
              refine lv_iinc (v := (v3 + (1 : Int32))) (lv' := [(3, .int (v3 + (1 : Int32))), (4, .int (g7.1 9 ((g7.1 0 13) - (1 : Int32)).toNatClampNeg)), (0, .ref (a 0)), (1, .int x0), (2, .int x1)]) hx hb dX7_canHold_303 hl (k := 4) rfl rfl (by decide) rfl (fun ls hl => ?_)
              refine lv_goto (tgt := 7) hx hb dX7_canHold_306 (by decide) ?_
              exact ih7 (v3 + (1 : Int32)) (g_w (g_w g7 9 ((g7.1 0 13) - (1 : Int32)).toNatClampNeg ((1 : Int32) - (g7.1 10 ((g7.1 0 13) - (1 : Int32)).toNatClampNeg))) 10 (((g_w g7 9 ((g7.1 0 13) - (1 : Int32)).toNatClampNeg ((1 : Int32) - (g7.1 10 ((g7.1 0 13) - (1 : Int32)).toNatClampNeg))).1 0 13) - (1 : Int32)).toNatClampNeg ((1 : Int32) - (g7.1 9 ((g7.1 0 13) - (1 : Int32)).toNatClampNeg))) _ _ _ hP hS (lv_sub hl [2, 3, 4, 0] rfl) h
          · have h := ite_t hc h
            refine lv_aload_n hx hb dX7_canHold_87 rfl (lv_at hl 0 rfl) ?_
            refine lv_iconst (v := (1 : Int32)) hx hb dX7_canHold_88 (by decide) ?_
            refine lv_iconst (v := (0 : Int32)) hx hb dX7_canHold_89 (by decide) ?_
            obtain ⟨g90, hcal, h⟩ := bnd_s h
            refine x_VV (As := [.int (1 : Int32), .int (0 : Int32)]) hx hb hml hown hts hK hP hS (ct_X7_push l D a cA cT hI g7 (1 : Int32) (0 : Int32) g90 hcal) tM_0 (C := RX7) (F := TX7) (N := 18) rfl (g_V q968 q969 q61 q77 q970) yd_X7_push ⟨Nat.le_of_ble_eq_true rfl, Nat.le_of_ble_eq_true rfl⟩ [] rfl (Nat.le_of_ble_eq_true rfl) hl.1 ⟨Nat.le_refl _, Nat.le_refl _⟩ dX7_canHold_90 (fun H locs hP hS => ?_)
            refine lv_goto (tgt := 303) hx hb dX7_canHold_93 (by decide) ?_
            refine lv_iinc (v := (v3 + (1 : Int32))) (lv' := [(3, .int (v3 + (1 : Int32))), (0, .ref (a 0)), (1, .int x0), (2, .int x1)]) hx hb dX7_canHold_303 hl (k := 3) rfl rfl (by decide) rfl (fun ls hl => ?_)
            refine lv_goto (tgt := 7) hx hb dX7_canHold_306 (by decide) ?_
            exact ih7 (v3 + (1 : Int32)) g90 _ _ _ hP hS (lv_sub hl [1, 2, 3, 0] rfl) h
        · have h := ite_t hc h
          refine lv_iload_n hx hb dX7_canHold_25 rfl (lv_at hl 1 rfl) ?_
          refine lv_iload_n hx hb dX7_canHold_26 rfl (lv_at hl 2 rfl) ?_
          refine lv_aload_n hx hb dX7_canHold_27 rfl (lv_at hl 0 rfl) ?_
          refine x_getr hx hb hts inX7 hown hK hP tM_0 (C := RX7) (F := TX7) (N := 18) rfl 5 (by decide) q763 rfl 6 rfl dX7_canHold_28 ?_
          refine lv_iload_n hx hb dX7_canHold_31 rfl (lv_at hl 3 rfl) ?_
          obtain ⟨hz, h⟩ := ite_n h
          refine x_ald hx hb hK hP tM_6 hz dX7_canHold_32 ?_
          refine lv_aload_n hx hb dX7_canHold_33 rfl (lv_at hl 0 rfl) ?_
          refine x_getr hx hb hts inX7 hown hK hP tM_0 (C := RX7) (F := TX7) (N := 18) rfl 6 (by decide) q764 rfl 7 rfl dX7_canHold_34 ?_
          refine lv_iload_n hx hb dX7_canHold_37 rfl (lv_at hl 3 rfl) ?_
          obtain ⟨hz, h⟩ := ite_n h
          refine x_ald hx hb hK hP tM_7 hz dX7_canHold_38 ?_
          obtain ⟨r39, hcal, h⟩ := bnd_s h
          refine x_SI (As := [.int x0, .int x1, .int (g7.1 6 v3.toNatClampNeg), .int (g7.1 7 v3.toNatClampNeg)]) hx hb hml hown hts hK hP hS (ct_X7_passing l D a cA cT hI g7 x0 x1 (g7.1 6 v3.toNatClampNeg) (g7.1 7 v3.toNatClampNeg) r39 hcal) (g_S q962 q963 q77 q964) yd_X7_passing ⟨Nat.le_of_ble_eq_true rfl, Nat.le_of_ble_eq_true rfl⟩ [] rfl (Nat.le_of_ble_eq_true rfl) hl.1 ⟨Nat.le_refl _, Nat.le_refl _⟩ dX7_canHold_39 (fun H locs hP hS => ?_)
          refine lv_istore (lv' := [(4, .int r39), (0, .ref (a 0)), (1, .int x0), (2, .int x1), (3, .int v3)]) hx hb dX7_canHold_42 hl (by decide) rfl (fun ls hl => ?_)
          refine lv_aload_n hx hb dX7_canHold_44 rfl (lv_at hl 1 rfl) ?_
          refine lv_iload hx hb dX7_canHold_45 (lv_at hl 0 rfl) ?_
          refine lv_if_le (tgt := 54) hx hb dX7_canHold_47 (by decide) (fun hc => ?_) (fun hc => ?_)
          · have h := ite_t hc h
            refine lv_iconst (v := (0 : Int32)) hx hb dX7_canHold_54 (by decide) ?_
            exact J55 v3 r39 (0 : Int32) g7 _ _ _ hP hS (lv_sub hl [1, 2, 3, 4, 0] rfl) h
          · have h := ite_f hc h
            refine lv_iconst (v := (1 : Int32)) hx hb dX7_canHold_50 (by decide) ?_
            refine lv_goto (tgt := 55) hx hb dX7_canHold_51 (by decide) ?_
            exact J55 v3 r39 (1 : Int32) g7 _ _ _ hP hS (lv_sub hl [1, 2, 3, 4, 0] rfl) h
  exact K7 fuelN (0 : Int32) (g_w g 0 13 (0 : Int32)) _ _ _ hP hS (lv_sub hl [1, 2, 3, 0] rfl) h
set_option maxHeartbeats 4000000 in
set_option maxRecDepth 100000 in
theorem ct_X7_hasKey (l : Launch) (D : va_G) (a : Nat → Nat) (cA cT : ClassId) (hI : WI a TM) (g : MG) (x0 : Int32)  (r : Int32) (g' : MG) (h : m_X7_hasKey g x0 = some (r, g')) :
    CtI l D a cA cT TM yX7_hasKey (Cond.code yX7_hasKey cX7_hasKey 4 (some .boolean) :: lw_all) (rmm 3 66) [.ref (a 0), .int x0] g r g' := by
  refine CtI.of (by decide +kernel) (Nat.le_of_ble_eq_true rfl) ?_
  intro p e s m args below meth c Q ls hx hb hml hown hts hK hP hS hl hend
  have hl : lv_has ls 4 [(0, .ref (a 0)), (1, .int x0)] := hl
  unfold m_X7_hasKey at h
  refine lv_iconst (v := (0 : Int32)) hx hb dX7_hasKey_0 (by decide) ?_
  refine lv_istore_n (lv' := [(2, .int (0 : Int32)), (0, .ref (a 0)), (1, .int x0)]) hx hb dX7_hasKey_1 rfl hl (by decide) rfl (fun ls hl => ?_)
  have K2 : ∀ (n2 : Nat) (v2 : Int32) (g2 : MG) (H : Heap) (locs : List Loc) (ls : Array Slot), WP D a cA cT TM g2 H → va_S (AA a TM) s.heap H locs → lv_has ls 4 [(0, .ref (a 0)), (1, .int x0), (2, .int v2)] → lpo (b_X7_hasKey_L2 x0) n2 (v2, g2) = some (r, g') → W p l e (rmm 3 66) s m args below meth c H locs 0 0 Q (F0 m 2 ls []) := by
    intro n2
    induction n2 with
    | zero => intro v2 g2 H locs ls hP hS hl h; exact (lpo_0 h).elim
    | succ n2 ih2 =>
      intro v2 g2 H locs ls hP hS hl h
      have h : m_X7_hasKey_L2 (lpo (b_X7_hasKey_L2 x0) n2) x0 v2 g2 = some (r, g') := h
      unfold m_X7_hasKey_L2 at h
      refine lv_iload_n hx hb dX7_hasKey_2 rfl (lv_at hl 2 rfl) ?_
      refine lv_sipush (v := (1000 : Int32)) hx hb dX7_hasKey_3 (by decide) ?_
      refine lv_icmp_ge (tgt := 63) hx hb dX7_hasKey_6 (by decide) (fun hc => ?_) (fun hc => ?_)
      · have h := ite_t hc h
        refine lv_iconst (v := (0 : Int32)) hx hb dX7_hasKey_63 (by decide) ?_
        obtain ⟨rfl, rfl⟩ := Prod.mk.inj (Option.some.inj h)
        exact hend _ _ _ _ dX7_hasKey_64 rfl hP hS
      · have h := ite_f hc h
        refine lv_iload_n hx hb dX7_hasKey_9 rfl (lv_at hl 1 rfl) ?_
        refine lv_bipush (v := (60 : Int32)) hx hb dX7_hasKey_10 (by decide) ?_
        refine lv_icmp_ne (tgt := 34) hx hb dX7_hasKey_12 (by decide) (fun hc => ?_) (fun hc => ?_)
        · have h := ite_f hc h
          refine lv_aload_n hx hb dX7_hasKey_34 rfl (lv_at hl 0 rfl) ?_
          refine lv_iload_n hx hb dX7_hasKey_35 rfl (lv_at hl 1 rfl) ?_
          refine lv_iload_n hx hb dX7_hasKey_36 rfl (lv_at hl 2 rfl) ?_
          obtain ⟨r37, hcal, h⟩ := bnd_s h
          refine x_VI (As := [.int x0, .int v2]) hx hb hml hown hts hK hP hS (ct_X7_has l D a cA cT hI g2 x0 v2 r37 hcal) tM_0 (C := RX7) (F := TX7) (N := 18) rfl (g_V q810 q811 q37 q77 q812) yd_X7_has ⟨Nat.le_of_ble_eq_true rfl, Nat.le_of_ble_eq_true rfl⟩ [] rfl (Nat.le_of_ble_eq_true rfl) hl.1 ⟨Nat.le_refl _, Nat.le_refl _⟩ dX7_hasKey_37 (fun H locs hP hS => ?_)
          refine lv_istore_n (lv' := [(3, .int r37), (0, .ref (a 0)), (1, .int x0), (2, .int v2)]) hx hb dX7_hasKey_40 rfl hl (by decide) rfl (fun ls hl => ?_)
          refine lv_iload_n hx hb dX7_hasKey_41 rfl (lv_at hl 0 rfl) ?_
          refine lv_if_eq (tgt := 57) hx hb dX7_hasKey_42 (by decide) (fun hc => ?_) (fun hc => ?_)
          · have h := ite_t hc h
            refine lv_iinc (v := (v2 + (1 : Int32))) (lv' := [(2, .int (v2 + (1 : Int32))), (3, .int r37), (0, .ref (a 0)), (1, .int x0)]) hx hb dX7_hasKey_57 hl (k := 3) rfl rfl (by decide) rfl (fun ls hl => ?_)
            refine lv_goto (tgt := 2) hx hb dX7_hasKey_60 (by decide) ?_
            exact ih2 (v2 + (1 : Int32)) g2 _ _ _ hP hS (lv_sub hl [2, 3, 0] rfl) h
          · have h := ite_f hc h
            refine lv_aload_n hx hb dX7_hasKey_45 rfl (lv_at hl 1 rfl) ?_
            refine lv_iload_n hx hb dX7_hasKey_46 rfl (lv_at hl 3 rfl) ?_
            refine lv_iconst (v := (0 : Int32)) hx hb dX7_hasKey_47 (by decide) ?_
            refine lv_iconst (v := (0 : Int32)) hx hb dX7_hasKey_48 (by decide) ?_
            obtain ⟨r49, g49, hcal, h⟩ := bnd2_s h
            refine x_VI (As := [.int v2, .int (0 : Int32), .int (0 : Int32)]) hx hb hml hown hts hK hP hS (ct_X7_truth l D a cA cT hI g2 v2 (0 : Int32) (0 : Int32) r49 g49 hcal) tM_0 (C := RX7) (F := TX7) (N := 18) rfl (g_V q974 q975 q63 q77 q976) yd_X7_truth ⟨Nat.le_of_ble_eq_true rfl, Nat.le_of_ble_eq_true rfl⟩ [] rfl (Nat.le_of_ble_eq_true rfl) hl.1 ⟨Nat.le_refl _, Nat.le_refl _⟩ dX7_hasKey_49 (fun H locs hP hS => ?_)
            refine lv_if_le (tgt := 57) hx hb dX7_hasKey_52 (by decide) (fun hc => ?_) (fun hc => ?_)
            · have h := ite_t hc h
              refine lv_iinc (v := (v2 + (1 : Int32))) (lv' := [(2, .int (v2 + (1 : Int32))), (3, .int r37), (0, .ref (a 0)), (1, .int x0)]) hx hb dX7_hasKey_57 hl (k := 3) rfl rfl (by decide) rfl (fun ls hl => ?_)
              refine lv_goto (tgt := 2) hx hb dX7_hasKey_60 (by decide) ?_
              exact ih2 (v2 + (1 : Int32)) g49 _ _ _ hP hS (lv_sub hl [2, 3, 0] rfl) h
            · have h := ite_f hc h
              refine lv_iconst (v := (1 : Int32)) hx hb dX7_hasKey_55 (by decide) ?_
              obtain ⟨rfl, rfl⟩ := Prod.mk.inj (Option.some.inj h)
              exact hend _ _ _ _ dX7_hasKey_56 rfl hP hS
        · have h := ite_t hc h
          refine lv_aload_n hx hb dX7_hasKey_15 rfl (lv_at hl 0 rfl) ?_
          refine lv_iload_n hx hb dX7_hasKey_16 rfl (lv_at hl 2 rfl) ?_
          obtain ⟨r17, hcal, h⟩ := bnd_s h
          refine x_VI (As := [.int v2]) hx hb hml hown hts hK hP hS (ct_X7_owner l D a cA cT hI g2 v2 r17 hcal) tM_0 (C := RX7) (F := TX7) (N := 18) rfl (g_V q804 q805 q35 q77 q806) yd_X7_owner ⟨Nat.le_of_ble_eq_true rfl, Nat.le_of_ble_eq_true rfl⟩ [] rfl (Nat.le_of_ble_eq_true rfl) hl.1 ⟨Nat.le_refl _, Nat.le_refl _⟩ dX7_hasKey_17 (fun H locs hP hS => ?_)
          refine lv_sipush (v := (-1005 : Int32)) hx hb dX7_hasKey_20 (by decide) ?_
          refine lv_icmp_ne (tgt := 30) hx hb dX7_hasKey_23 (by decide) (fun hc => ?_) (fun hc => ?_)
          · have h := ite_f hc h
            refine lv_iconst (v := (0 : Int32)) hx hb dX7_hasKey_30 (by decide) ?_
            refine lv_goto (tgt := 40) hx hb dX7_hasKey_31 (by decide) ?_
            refine lv_istore_n (lv' := [(3, .int (0 : Int32)), (0, .ref (a 0)), (1, .int x0), (2, .int v2)]) hx hb dX7_hasKey_40 rfl hl (by decide) rfl (fun ls hl => ?_)
            refine lv_iload_n hx hb dX7_hasKey_41 rfl (lv_at hl 0 rfl) ?_
            refine lv_if_eq (tgt := 57) hx hb dX7_hasKey_42 (by decide) (fun hc => ?_) (fun hc => ?_)
            · have h := ite_t hc h
              refine lv_iinc (v := (v2 + (1 : Int32))) (lv' := [(2, .int (v2 + (1 : Int32))), (3, .int (0 : Int32)), (0, .ref (a 0)), (1, .int x0)]) hx hb dX7_hasKey_57 hl (k := 3) rfl rfl (by decide) rfl (fun ls hl => ?_)
              refine lv_goto (tgt := 2) hx hb dX7_hasKey_60 (by decide) ?_
              exact ih2 (v2 + (1 : Int32)) g2 _ _ _ hP hS (lv_sub hl [2, 3, 0] rfl) h
            · have h := ite_f hc h
              refine lv_aload_n hx hb dX7_hasKey_45 rfl (lv_at hl 1 rfl) ?_
              refine lv_iload_n hx hb dX7_hasKey_46 rfl (lv_at hl 3 rfl) ?_
              refine lv_iconst (v := (0 : Int32)) hx hb dX7_hasKey_47 (by decide) ?_
              refine lv_iconst (v := (0 : Int32)) hx hb dX7_hasKey_48 (by decide) ?_
              obtain ⟨r49, g49, hcal, h⟩ := bnd2_s h
              refine x_VI (As := [.int v2, .int (0 : Int32), .int (0 : Int32)]) hx hb hml hown hts hK hP hS (ct_X7_truth l D a cA cT hI g2 v2 (0 : Int32) (0 : Int32) r49 g49 hcal) tM_0 (C := RX7) (F := TX7) (N := 18) rfl (g_V q974 q975 q63 q77 q976) yd_X7_truth ⟨Nat.le_of_ble_eq_true rfl, Nat.le_of_ble_eq_true rfl⟩ [] rfl (Nat.le_of_ble_eq_true rfl) hl.1 ⟨Nat.le_refl _, Nat.le_refl _⟩ dX7_hasKey_49 (fun H locs hP hS => ?_)
              refine lv_if_le (tgt := 57) hx hb dX7_hasKey_52 (by decide) (fun hc => ?_) (fun hc => ?_)
              · have h := ite_t hc h
                refine lv_iinc (v := (v2 + (1 : Int32))) (lv' := [(2, .int (v2 + (1 : Int32))), (3, .int (0 : Int32)), (0, .ref (a 0)), (1, .int x0)]) hx hb dX7_hasKey_57 hl (k := 3) rfl rfl (by decide) rfl (fun ls hl => ?_)
                refine lv_goto (tgt := 2) hx hb dX7_hasKey_60 (by decide) ?_
                exact ih2 (v2 + (1 : Int32)) g49 _ _ _ hP hS (lv_sub hl [2, 3, 0] rfl) h
              · have h := ite_f hc h
                refine lv_iconst (v := (1 : Int32)) hx hb dX7_hasKey_55 (by decide) ?_
                obtain ⟨rfl, rfl⟩ := Prod.mk.inj (Option.some.inj h)
                exact hend _ _ _ _ dX7_hasKey_56 rfl hP hS
          · have h := ite_t hc h
            refine lv_iconst (v := (1 : Int32)) hx hb dX7_hasKey_26 (by decide) ?_
            refine lv_goto (tgt := 40) hx hb dX7_hasKey_27 (by decide) ?_
            refine lv_istore_n (lv' := [(3, .int (1 : Int32)), (0, .ref (a 0)), (1, .int x0), (2, .int v2)]) hx hb dX7_hasKey_40 rfl hl (by decide) rfl (fun ls hl => ?_)
            refine lv_iload_n hx hb dX7_hasKey_41 rfl (lv_at hl 0 rfl) ?_
            refine lv_if_eq (tgt := 57) hx hb dX7_hasKey_42 (by decide) (fun hc => ?_) (fun hc => ?_)
            · have h := ite_t hc h
              refine lv_iinc (v := (v2 + (1 : Int32))) (lv' := [(2, .int (v2 + (1 : Int32))), (3, .int (1 : Int32)), (0, .ref (a 0)), (1, .int x0)]) hx hb dX7_hasKey_57 hl (k := 3) rfl rfl (by decide) rfl (fun ls hl => ?_)
              refine lv_goto (tgt := 2) hx hb dX7_hasKey_60 (by decide) ?_
              exact ih2 (v2 + (1 : Int32)) g2 _ _ _ hP hS (lv_sub hl [2, 3, 0] rfl) h
            · have h := ite_f hc h
              refine lv_aload_n hx hb dX7_hasKey_45 rfl (lv_at hl 1 rfl) ?_
              refine lv_iload_n hx hb dX7_hasKey_46 rfl (lv_at hl 3 rfl) ?_
              refine lv_iconst (v := (0 : Int32)) hx hb dX7_hasKey_47 (by decide) ?_
              refine lv_iconst (v := (0 : Int32)) hx hb dX7_hasKey_48 (by decide) ?_
              obtain ⟨r49, g49, hcal, h⟩ := bnd2_s h
              refine x_VI (As := [.int v2, .int (0 : Int32), .int (0 : Int32)]) hx hb hml hown hts hK hP hS (ct_X7_truth l D a cA cT hI g2 v2 (0 : Int32) (0 : Int32) r49 g49 hcal) tM_0 (C := RX7) (F := TX7) (N := 18) rfl (g_V q974 q975 q63 q77 q976) yd_X7_truth ⟨Nat.le_of_ble_eq_true rfl, Nat.le_of_ble_eq_true rfl⟩ [] rfl (Nat.le_of_ble_eq_true rfl) hl.1 ⟨Nat.le_refl _, Nat.le_refl _⟩ dX7_hasKey_49 (fun H locs hP hS => ?_)
              refine lv_if_le (tgt := 57) hx hb dX7_hasKey_52 (by decide) (fun hc => ?_) (fun hc => ?_)
              · have h := ite_t hc h
                refine lv_iinc (v := (v2 + (1 : Int32))) (lv' := [(2, .int (v2 + (1 : Int32))), (3, .int (1 : Int32)), (0, .ref (a 0)), (1, .int x0)]) hx hb dX7_hasKey_57 hl (k := 3) rfl rfl (by decide) rfl (fun ls hl => ?_)
                refine lv_goto (tgt := 2) hx hb dX7_hasKey_60 (by decide) ?_
                exact ih2 (v2 + (1 : Int32)) g49 _ _ _ hP hS (lv_sub hl [2, 3, 0] rfl) h
              · have h := ite_f hc h
                refine lv_iconst (v := (1 : Int32)) hx hb dX7_hasKey_55 (by decide) ?_
                obtain ⟨rfl, rfl⟩ := Prod.mk.inj (Option.some.inj h)
                exact hend _ _ _ _ dX7_hasKey_56 rfl hP hS
  exact K2 fuelN (0 : Int32) g _ _ _ hP hS (lv_sub hl [1, 2, 0] rfl) h
set_option maxHeartbeats 4000000 in
set_option maxRecDepth 100000 in
theorem ct_X7_looks (l : Launch) (D : va_G) (a : Nat → Nat) (cA cT : ClassId) (hI : WI a TM) (g : MG) (x0 : Int32) (x1 : Int32)  (r : Int32) (g' : MG) (h : m_X7_looks g x0 x1 = some (r, g')) :
    CtI l D a cA cT TM yX7_looks (Cond.code yX7_looks cX7_looks 3 (some .boolean) :: lw_all) (rmm 4 89) [.ref (a 0), .int x0, .int x1] g r g' := by
  refine CtI.of (by decide +kernel) (Nat.le_of_ble_eq_true rfl) ?_
  intro p e s m args below meth c Q ls hx hb hml hown hts hK hP hS hl hend
  have hl : lv_has ls 3 [(0, .ref (a 0)), (1, .int x0), (2, .int x1)] := hl
  unfold m_X7_looks at h
  refine lv_iload_n hx hb dX7_looks_0 rfl (lv_at hl 1 rfl) ?_
  refine lv_bipush (v := (60 : Int32)) hx hb dX7_looks_1 (by decide) ?_
  refine lv_icmp_ne (tgt := 17) hx hb dX7_looks_3 (by decide) (fun hc => ?_) (fun hc => ?_)
  · have h := ite_f hc h
    refine lv_iload_n hx hb dX7_looks_17 rfl (lv_at hl 2 rfl) ?_
    refine lv_if_eq (tgt := 32) hx hb dX7_looks_18 (by decide) (fun hc => ?_) (fun hc => ?_)
    · have h := ite_t hc h
      refine lv_iconst (v := (1 : Int32)) hx hb dX7_looks_32 (by decide) ?_
      obtain ⟨rfl, rfl⟩ := Prod.mk.inj (Option.some.inj h)
      exact hend _ _ _ _ dX7_looks_33 rfl hP hS
    · have h := ite_f hc h
      refine lv_iload_n hx hb dX7_looks_21 rfl (lv_at hl 1 rfl) ?_
      refine lv_bipush (v := (60 : Int32)) hx hb dX7_looks_22 (by decide) ?_
      refine lv_icmp_ne (tgt := 34) hx hb dX7_looks_24 (by decide) (fun hc => ?_) (fun hc => ?_)
      · have h := ite_f hc h
        refine lv_iload_n hx hb dX7_looks_34 rfl (lv_at hl 2 rfl) ?_
        refine lv_iconst (v := (1 : Int32)) hx hb dX7_looks_35 (by decide) ?_
        refine lv_icmp_ne (tgt := 68) hx hb dX7_looks_36 (by decide) (fun hc => ?_) (fun hc => ?_)
        · have h := ite_f hc h
          refine lv_aload_n hx hb dX7_looks_68 rfl (lv_at hl 0 rfl) ?_
          refine lv_iload_n hx hb dX7_looks_69 rfl (lv_at hl 1 rfl) ?_
          obtain ⟨r70, g70, hcal, h⟩ := bnd2_s h
          refine x_VI (As := [.int x0]) hx hb hml hown hts hK hP hS (ct_X7_hasKey l D a cA cT hI g x0 r70 g70 hcal) tM_0 (C := RX7) (F := TX7) (N := 18) rfl (g_V q971 q972 q62 q77 q973) yd_X7_hasKey ⟨Nat.le_of_ble_eq_true rfl, Nat.le_of_ble_eq_true rfl⟩ [] rfl (Nat.le_of_ble_eq_true rfl) hl.1 ⟨Nat.le_refl _, Nat.le_refl _⟩ dX7_looks_70 (fun H locs hP hS => ?_)
          obtain ⟨hz, h⟩ := ite_n h
          obtain ⟨rfl, rfl⟩ := Prod.mk.inj (Option.some.inj h)
          exact hend _ _ _ _ dX7_looks_73 (bz_n hz) hP hS
        · have h := ite_t hc h
          refine lv_aload_n hx hb dX7_looks_39 rfl (lv_at hl 0 rfl) ?_
          refine lv_aload_n hx hb dX7_looks_40 rfl (lv_at hl 0 rfl) ?_
          refine x_getr hx hb hts inX7 hown hK hP tM_0 (C := RX7) (F := TX7) (N := 18) rfl 0 (by decide) q758 rfl 1 rfl dX7_looks_41 ?_
          refine lv_sipush (v := (1265 : Int32)) hx hb dX7_looks_44 (by decide) ?_
          refine lv_iload_n hx hb dX7_looks_47 rfl (lv_at hl 1 rfl) ?_
          refine lv_iadd hx hb dX7_looks_48 ?_
          obtain ⟨hz, h⟩ := ite_n h
          refine x_ald hx hb hK hP tM_1 hz dX7_looks_49 ?_
          refine lv_aload_n hx hb dX7_looks_50 rfl (lv_at hl 0 rfl) ?_
          refine x_getr hx hb hts inX7 hown hK hP tM_0 (C := RX7) (F := TX7) (N := 18) rfl 0 (by decide) q758 rfl 1 rfl dX7_looks_51 ?_
          refine lv_sipush (v := (1325 : Int32)) hx hb dX7_looks_54 (by decide) ?_
          refine lv_iload_n hx hb dX7_looks_57 rfl (lv_at hl 1 rfl) ?_
          refine lv_iadd hx hb dX7_looks_58 ?_
          obtain ⟨hz, h⟩ := ite_n h
          refine x_ald hx hb hK hP tM_1 hz dX7_looks_59 ?_
          refine lv_iconst (v := (1 : Int32)) hx hb dX7_looks_60 (by decide) ?_
          refine lv_isub hx hb dX7_looks_61 ?_
          obtain ⟨r62, g62, hcal, h⟩ := bnd2_s h
          refine x_VI (As := [.int (g.1 1 ((1265 : Int32) + x0).toNatClampNeg), .int ((g.1 1 ((1325 : Int32) + x0).toNatClampNeg) - (1 : Int32))]) hx hb hml hown hts hK hP hS (ct_X7_canHold l D a cA cT hI g (g.1 1 ((1265 : Int32) + x0).toNatClampNeg) ((g.1 1 ((1325 : Int32) + x0).toNatClampNeg) - (1 : Int32)) r62 g62 hcal) tM_0 (C := RX7) (F := TX7) (N := 18) rfl (g_V q959 q960 q60 q77 q961) yd_X7_canHold ⟨Nat.le_of_ble_eq_true rfl, Nat.le_of_ble_eq_true rfl⟩ [] rfl (Nat.le_of_ble_eq_true rfl) hl.1 ⟨Nat.le_refl _, Nat.le_refl _⟩ dX7_looks_62 (fun H locs hP hS => ?_)
          refine lv_goto (tgt := 73) hx hb dX7_looks_65 (by decide) ?_
          obtain ⟨hz, h⟩ := ite_n h
          obtain ⟨rfl, rfl⟩ := Prod.mk.inj (Option.some.inj h)
          exact hend _ _ _ _ dX7_looks_73 (bz_n hz) hP hS
      · have h := ite_t hc h
        refine lv_iload_n hx hb dX7_looks_27 rfl (lv_at hl 2 rfl) ?_
        refine lv_iconst (v := (1 : Int32)) hx hb dX7_looks_28 (by decide) ?_
        refine lv_icmp_ne (tgt := 34) hx hb dX7_looks_29 (by decide) (fun hc => ?_) (fun hc => ?_)
        · have h := ite_f hc h
          refine lv_iload_n hx hb dX7_looks_34 rfl (lv_at hl 2 rfl) ?_
          refine lv_iconst (v := (1 : Int32)) hx hb dX7_looks_35 (by decide) ?_
          refine lv_icmp_ne (tgt := 68) hx hb dX7_looks_36 (by decide) (fun hc => ?_) (fun hc => ?_)
          · have h := ite_f hc h
            refine lv_aload_n hx hb dX7_looks_68 rfl (lv_at hl 0 rfl) ?_
            refine lv_iload_n hx hb dX7_looks_69 rfl (lv_at hl 1 rfl) ?_
            obtain ⟨r70, g70, hcal, h⟩ := bnd2_s h
            refine x_VI (As := [.int x0]) hx hb hml hown hts hK hP hS (ct_X7_hasKey l D a cA cT hI g x0 r70 g70 hcal) tM_0 (C := RX7) (F := TX7) (N := 18) rfl (g_V q971 q972 q62 q77 q973) yd_X7_hasKey ⟨Nat.le_of_ble_eq_true rfl, Nat.le_of_ble_eq_true rfl⟩ [] rfl (Nat.le_of_ble_eq_true rfl) hl.1 ⟨Nat.le_refl _, Nat.le_refl _⟩ dX7_looks_70 (fun H locs hP hS => ?_)
            obtain ⟨hz, h⟩ := ite_n h
            obtain ⟨rfl, rfl⟩ := Prod.mk.inj (Option.some.inj h)
            exact hend _ _ _ _ dX7_looks_73 (bz_n hz) hP hS
          · have h := ite_t hc h
            refine lv_aload_n hx hb dX7_looks_39 rfl (lv_at hl 0 rfl) ?_
            refine lv_aload_n hx hb dX7_looks_40 rfl (lv_at hl 0 rfl) ?_
            refine x_getr hx hb hts inX7 hown hK hP tM_0 (C := RX7) (F := TX7) (N := 18) rfl 0 (by decide) q758 rfl 1 rfl dX7_looks_41 ?_
            refine lv_sipush (v := (1265 : Int32)) hx hb dX7_looks_44 (by decide) ?_
            refine lv_iload_n hx hb dX7_looks_47 rfl (lv_at hl 1 rfl) ?_
            refine lv_iadd hx hb dX7_looks_48 ?_
            obtain ⟨hz, h⟩ := ite_n h
            refine x_ald hx hb hK hP tM_1 hz dX7_looks_49 ?_
            refine lv_aload_n hx hb dX7_looks_50 rfl (lv_at hl 0 rfl) ?_
            refine x_getr hx hb hts inX7 hown hK hP tM_0 (C := RX7) (F := TX7) (N := 18) rfl 0 (by decide) q758 rfl 1 rfl dX7_looks_51 ?_
            refine lv_sipush (v := (1325 : Int32)) hx hb dX7_looks_54 (by decide) ?_
            refine lv_iload_n hx hb dX7_looks_57 rfl (lv_at hl 1 rfl) ?_
            refine lv_iadd hx hb dX7_looks_58 ?_
            obtain ⟨hz, h⟩ := ite_n h
            refine x_ald hx hb hK hP tM_1 hz dX7_looks_59 ?_
            refine lv_iconst (v := (1 : Int32)) hx hb dX7_looks_60 (by decide) ?_
            refine lv_isub hx hb dX7_looks_61 ?_
            obtain ⟨r62, g62, hcal, h⟩ := bnd2_s h
            refine x_VI (As := [.int (g.1 1 ((1265 : Int32) + x0).toNatClampNeg), .int ((g.1 1 ((1325 : Int32) + x0).toNatClampNeg) - (1 : Int32))]) hx hb hml hown hts hK hP hS (ct_X7_canHold l D a cA cT hI g (g.1 1 ((1265 : Int32) + x0).toNatClampNeg) ((g.1 1 ((1325 : Int32) + x0).toNatClampNeg) - (1 : Int32)) r62 g62 hcal) tM_0 (C := RX7) (F := TX7) (N := 18) rfl (g_V q959 q960 q60 q77 q961) yd_X7_canHold ⟨Nat.le_of_ble_eq_true rfl, Nat.le_of_ble_eq_true rfl⟩ [] rfl (Nat.le_of_ble_eq_true rfl) hl.1 ⟨Nat.le_refl _, Nat.le_refl _⟩ dX7_looks_62 (fun H locs hP hS => ?_)
            refine lv_goto (tgt := 73) hx hb dX7_looks_65 (by decide) ?_
            obtain ⟨hz, h⟩ := ite_n h
            obtain ⟨rfl, rfl⟩ := Prod.mk.inj (Option.some.inj h)
            exact hend _ _ _ _ dX7_looks_73 (bz_n hz) hP hS
        · have h := ite_t hc h
          refine lv_iconst (v := (1 : Int32)) hx hb dX7_looks_32 (by decide) ?_
          obtain ⟨rfl, rfl⟩ := Prod.mk.inj (Option.some.inj h)
          exact hend _ _ _ _ dX7_looks_33 rfl hP hS
  · have h := ite_t hc h
    refine lv_aload_n hx hb dX7_looks_6 rfl (lv_at hl 0 rfl) ?_
    refine x_getr hx hb hts inX7 hown hK hP tM_0 (C := RX7) (F := TX7) (N := 18) rfl 0 (by decide) q758 rfl 1 rfl dX7_looks_7 ?_
    refine lv_iconst (v := (2 : Int32)) hx hb dX7_looks_10 (by decide) ?_
    obtain ⟨hz, h⟩ := ite_n h
    refine x_ald hx hb hK hP tM_1 hz dX7_looks_11 ?_
    refine lv_if_ne (tgt := 17) hx hb dX7_looks_12 (by decide) (fun hc => ?_) (fun hc => ?_)
    · have h := ite_f hc h
      refine lv_iload_n hx hb dX7_looks_17 rfl (lv_at hl 2 rfl) ?_
      refine lv_if_eq (tgt := 32) hx hb dX7_looks_18 (by decide) (fun hc => ?_) (fun hc => ?_)
      · have h := ite_t hc h
        refine lv_iconst (v := (1 : Int32)) hx hb dX7_looks_32 (by decide) ?_
        obtain ⟨rfl, rfl⟩ := Prod.mk.inj (Option.some.inj h)
        exact hend _ _ _ _ dX7_looks_33 rfl hP hS
      · have h := ite_f hc h
        refine lv_iload_n hx hb dX7_looks_21 rfl (lv_at hl 1 rfl) ?_
        refine lv_bipush (v := (60 : Int32)) hx hb dX7_looks_22 (by decide) ?_
        refine lv_icmp_ne (tgt := 34) hx hb dX7_looks_24 (by decide) (fun hc => ?_) (fun hc => ?_)
        · have h := ite_f hc h
          refine lv_iload_n hx hb dX7_looks_34 rfl (lv_at hl 2 rfl) ?_
          refine lv_iconst (v := (1 : Int32)) hx hb dX7_looks_35 (by decide) ?_
          refine lv_icmp_ne (tgt := 68) hx hb dX7_looks_36 (by decide) (fun hc => ?_) (fun hc => ?_)
          · have h := ite_f hc h
            refine lv_aload_n hx hb dX7_looks_68 rfl (lv_at hl 0 rfl) ?_
            refine lv_iload_n hx hb dX7_looks_69 rfl (lv_at hl 1 rfl) ?_
            obtain ⟨r70, g70, hcal, h⟩ := bnd2_s h
            refine x_VI (As := [.int x0]) hx hb hml hown hts hK hP hS (ct_X7_hasKey l D a cA cT hI g x0 r70 g70 hcal) tM_0 (C := RX7) (F := TX7) (N := 18) rfl (g_V q971 q972 q62 q77 q973) yd_X7_hasKey ⟨Nat.le_of_ble_eq_true rfl, Nat.le_of_ble_eq_true rfl⟩ [] rfl (Nat.le_of_ble_eq_true rfl) hl.1 ⟨Nat.le_refl _, Nat.le_refl _⟩ dX7_looks_70 (fun H locs hP hS => ?_)
            obtain ⟨hz, h⟩ := ite_n h
            obtain ⟨rfl, rfl⟩ := Prod.mk.inj (Option.some.inj h)
            exact hend _ _ _ _ dX7_looks_73 (bz_n hz) hP hS
          · have h := ite_t hc h
            refine lv_aload_n hx hb dX7_looks_39 rfl (lv_at hl 0 rfl) ?_
            refine lv_aload_n hx hb dX7_looks_40 rfl (lv_at hl 0 rfl) ?_
            refine x_getr hx hb hts inX7 hown hK hP tM_0 (C := RX7) (F := TX7) (N := 18) rfl 0 (by decide) q758 rfl 1 rfl dX7_looks_41 ?_
            refine lv_sipush (v := (1265 : Int32)) hx hb dX7_looks_44 (by decide) ?_
            refine lv_iload_n hx hb dX7_looks_47 rfl (lv_at hl 1 rfl) ?_
            refine lv_iadd hx hb dX7_looks_48 ?_
            obtain ⟨hz, h⟩ := ite_n h
            refine x_ald hx hb hK hP tM_1 hz dX7_looks_49 ?_
            refine lv_aload_n hx hb dX7_looks_50 rfl (lv_at hl 0 rfl) ?_
            refine x_getr hx hb hts inX7 hown hK hP tM_0 (C := RX7) (F := TX7) (N := 18) rfl 0 (by decide) q758 rfl 1 rfl dX7_looks_51 ?_
            refine lv_sipush (v := (1325 : Int32)) hx hb dX7_looks_54 (by decide) ?_
            refine lv_iload_n hx hb dX7_looks_57 rfl (lv_at hl 1 rfl) ?_
            refine lv_iadd hx hb dX7_looks_58 ?_
            obtain ⟨hz, h⟩ := ite_n h
            refine x_ald hx hb hK hP tM_1 hz dX7_looks_59 ?_
            refine lv_iconst (v := (1 : Int32)) hx hb dX7_looks_60 (by decide) ?_
            refine lv_isub hx hb dX7_looks_61 ?_
            obtain ⟨r62, g62, hcal, h⟩ := bnd2_s h
            refine x_VI (As := [.int (g.1 1 ((1265 : Int32) + x0).toNatClampNeg), .int ((g.1 1 ((1325 : Int32) + x0).toNatClampNeg) - (1 : Int32))]) hx hb hml hown hts hK hP hS (ct_X7_canHold l D a cA cT hI g (g.1 1 ((1265 : Int32) + x0).toNatClampNeg) ((g.1 1 ((1325 : Int32) + x0).toNatClampNeg) - (1 : Int32)) r62 g62 hcal) tM_0 (C := RX7) (F := TX7) (N := 18) rfl (g_V q959 q960 q60 q77 q961) yd_X7_canHold ⟨Nat.le_of_ble_eq_true rfl, Nat.le_of_ble_eq_true rfl⟩ [] rfl (Nat.le_of_ble_eq_true rfl) hl.1 ⟨Nat.le_refl _, Nat.le_refl _⟩ dX7_looks_62 (fun H locs hP hS => ?_)
            refine lv_goto (tgt := 73) hx hb dX7_looks_65 (by decide) ?_
            obtain ⟨hz, h⟩ := ite_n h
            obtain ⟨rfl, rfl⟩ := Prod.mk.inj (Option.some.inj h)
            exact hend _ _ _ _ dX7_looks_73 (bz_n hz) hP hS
        · have h := ite_t hc h
          refine lv_iload_n hx hb dX7_looks_27 rfl (lv_at hl 2 rfl) ?_
          refine lv_iconst (v := (1 : Int32)) hx hb dX7_looks_28 (by decide) ?_
          refine lv_icmp_ne (tgt := 34) hx hb dX7_looks_29 (by decide) (fun hc => ?_) (fun hc => ?_)
          · have h := ite_f hc h
            refine lv_iload_n hx hb dX7_looks_34 rfl (lv_at hl 2 rfl) ?_
            refine lv_iconst (v := (1 : Int32)) hx hb dX7_looks_35 (by decide) ?_
            refine lv_icmp_ne (tgt := 68) hx hb dX7_looks_36 (by decide) (fun hc => ?_) (fun hc => ?_)
            · have h := ite_f hc h
              refine lv_aload_n hx hb dX7_looks_68 rfl (lv_at hl 0 rfl) ?_
              refine lv_iload_n hx hb dX7_looks_69 rfl (lv_at hl 1 rfl) ?_
              obtain ⟨r70, g70, hcal, h⟩ := bnd2_s h
              refine x_VI (As := [.int x0]) hx hb hml hown hts hK hP hS (ct_X7_hasKey l D a cA cT hI g x0 r70 g70 hcal) tM_0 (C := RX7) (F := TX7) (N := 18) rfl (g_V q971 q972 q62 q77 q973) yd_X7_hasKey ⟨Nat.le_of_ble_eq_true rfl, Nat.le_of_ble_eq_true rfl⟩ [] rfl (Nat.le_of_ble_eq_true rfl) hl.1 ⟨Nat.le_refl _, Nat.le_refl _⟩ dX7_looks_70 (fun H locs hP hS => ?_)
              obtain ⟨hz, h⟩ := ite_n h
              obtain ⟨rfl, rfl⟩ := Prod.mk.inj (Option.some.inj h)
              exact hend _ _ _ _ dX7_looks_73 (bz_n hz) hP hS
            · have h := ite_t hc h
              refine lv_aload_n hx hb dX7_looks_39 rfl (lv_at hl 0 rfl) ?_
              refine lv_aload_n hx hb dX7_looks_40 rfl (lv_at hl 0 rfl) ?_
              refine x_getr hx hb hts inX7 hown hK hP tM_0 (C := RX7) (F := TX7) (N := 18) rfl 0 (by decide) q758 rfl 1 rfl dX7_looks_41 ?_
              refine lv_sipush (v := (1265 : Int32)) hx hb dX7_looks_44 (by decide) ?_
              refine lv_iload_n hx hb dX7_looks_47 rfl (lv_at hl 1 rfl) ?_
              refine lv_iadd hx hb dX7_looks_48 ?_
              obtain ⟨hz, h⟩ := ite_n h
              refine x_ald hx hb hK hP tM_1 hz dX7_looks_49 ?_
              refine lv_aload_n hx hb dX7_looks_50 rfl (lv_at hl 0 rfl) ?_
              refine x_getr hx hb hts inX7 hown hK hP tM_0 (C := RX7) (F := TX7) (N := 18) rfl 0 (by decide) q758 rfl 1 rfl dX7_looks_51 ?_
              refine lv_sipush (v := (1325 : Int32)) hx hb dX7_looks_54 (by decide) ?_
              refine lv_iload_n hx hb dX7_looks_57 rfl (lv_at hl 1 rfl) ?_
              refine lv_iadd hx hb dX7_looks_58 ?_
              obtain ⟨hz, h⟩ := ite_n h
              refine x_ald hx hb hK hP tM_1 hz dX7_looks_59 ?_
              refine lv_iconst (v := (1 : Int32)) hx hb dX7_looks_60 (by decide) ?_
              refine lv_isub hx hb dX7_looks_61 ?_
              obtain ⟨r62, g62, hcal, h⟩ := bnd2_s h
              refine x_VI (As := [.int (g.1 1 ((1265 : Int32) + x0).toNatClampNeg), .int ((g.1 1 ((1325 : Int32) + x0).toNatClampNeg) - (1 : Int32))]) hx hb hml hown hts hK hP hS (ct_X7_canHold l D a cA cT hI g (g.1 1 ((1265 : Int32) + x0).toNatClampNeg) ((g.1 1 ((1325 : Int32) + x0).toNatClampNeg) - (1 : Int32)) r62 g62 hcal) tM_0 (C := RX7) (F := TX7) (N := 18) rfl (g_V q959 q960 q60 q77 q961) yd_X7_canHold ⟨Nat.le_of_ble_eq_true rfl, Nat.le_of_ble_eq_true rfl⟩ [] rfl (Nat.le_of_ble_eq_true rfl) hl.1 ⟨Nat.le_refl _, Nat.le_refl _⟩ dX7_looks_62 (fun H locs hP hS => ?_)
              refine lv_goto (tgt := 73) hx hb dX7_looks_65 (by decide) ?_
              obtain ⟨hz, h⟩ := ite_n h
              obtain ⟨rfl, rfl⟩ := Prod.mk.inj (Option.some.inj h)
              exact hend _ _ _ _ dX7_looks_73 (bz_n hz) hP hS
          · have h := ite_t hc h
            refine lv_iconst (v := (1 : Int32)) hx hb dX7_looks_32 (by decide) ?_
            obtain ⟨rfl, rfl⟩ := Prod.mk.inj (Option.some.inj h)
            exact hend _ _ _ _ dX7_looks_33 rfl hP hS
    · have h := ite_t hc h
      refine lv_iconst (v := (0 : Int32)) hx hb dX7_looks_15 (by decide) ?_
      obtain ⟨rfl, rfl⟩ := Prod.mk.inj (Option.some.inj h)
      exact hend _ _ _ _ dX7_looks_16 rfl hP hS
set_option maxHeartbeats 4000000 in
set_option maxRecDepth 100000 in
theorem ct_X7_look (l : Launch) (D : va_G) (a : Nat → Nat) (cA cT : ClassId) (hI : WI a TM) (g : MG)   (g' : MG) (h : m_X7_look g = some g') :
    CtV l D a cA cT TM yX7_look (Cond.code yX7_look cX7_look 2 none :: lw_all) (rmm 5 111) [.ref (a 0)] g g' := by
  refine CtV.of (by decide +kernel) (Nat.le_of_ble_eq_true rfl) ?_
  intro p e s m args below meth c Q ls hx hb hml hown hts hK hP hS hl hend
  have hl : lv_has ls 2 [(0, .ref (a 0))] := hl
  unfold m_X7_look at h
  refine lv_iconst (v := (0 : Int32)) hx hb dX7_look_0 (by decide) ?_
  refine lv_istore_n (lv' := [(1, .int (0 : Int32)), (0, .ref (a 0))]) hx hb dX7_look_1 rfl hl (by decide) rfl (fun ls hl => ?_)
  have K2 : ∀ (n2 : Nat) (v1 : Int32) (g2 : MG) (H : Heap) (locs : List Loc) (ls : Array Slot), WP D a cA cT TM g2 H → va_S (AA a TM) s.heap H locs → lv_has ls 2 [(0, .ref (a 0)), (1, .int v1)] → lpo (b_X7_look_L2) n2 (v1, g2) = some g' → W p l e (rmm 5 111) s m args below meth c H locs 0 0 Q (F0 m 2 ls []) := by
    intro n2
    induction n2 with
    | zero => intro v1 g2 H locs ls hP hS hl h; exact (lpo_0 h).elim
    | succ n2 ih2 =>
      intro v1 g2 H locs ls hP hS hl h
      have h : m_X7_look_L2 (lpo (b_X7_look_L2) n2)  v1 g2 = some g' := h
      unfold m_X7_look_L2 at h
      refine lv_iload_n hx hb dX7_look_2 rfl (lv_at hl 1 rfl) ?_
      refine lv_bipush (v := (60 : Int32)) hx hb dX7_look_3 (by decide) ?_
      refine lv_icmp_gt (tgt := 53) hx hb dX7_look_5 (by decide) (fun hc => ?_) (fun hc => ?_)
      · have h := ite_t hc h
        obtain rfl := Option.some.inj h
        exact hend _ _ _ _ dX7_look_53 hP hS
      · have h := ite_f hc h
        refine lv_aload_n hx hb dX7_look_8 rfl (lv_at hl 0 rfl) ?_
        refine x_getr hx hb hts inX7 hown hK hP tM_0 (C := RX7) (F := TX7) (N := 18) rfl 14 (by decide) q772 rfl 11 rfl dX7_look_9 ?_
        refine lv_iload_n hx hb dX7_look_12 rfl (lv_at hl 1 rfl) ?_
        refine lv_iload_n hx hb dX7_look_13 rfl (lv_at hl 1 rfl) ?_
        refine lv_bipush (v := (60 : Int32)) hx hb dX7_look_14 (by decide) ?_
        refine lv_icmp_eq (tgt := 27) hx hb dX7_look_16 (by decide) (fun hc => ?_) (fun hc => ?_)
        · have h := ite_t hc h
          refine lv_aload_n hx hb dX7_look_27 rfl (lv_at hl 0 rfl) ?_
          refine lv_iload_n hx hb dX7_look_28 rfl (lv_at hl 1 rfl) ?_
          refine lv_aload_n hx hb dX7_look_29 rfl (lv_at hl 0 rfl) ?_
          refine x_getr hx hb hts inX7 hown hK hP tM_0 (C := RX7) (F := TX7) (N := 18) rfl 0 (by decide) q758 rfl 1 rfl dX7_look_30 ?_
          refine lv_iconst (v := (3 : Int32)) hx hb dX7_look_33 (by decide) ?_
          obtain ⟨hz, h⟩ := ite_n h
          refine x_ald hx hb hK hP tM_1 hz dX7_look_34 ?_
          obtain ⟨r35, g35, hcal, h⟩ := bnd2_s h
          refine x_VI (As := [.int v1, .int (g2.1 1 (3 : Int32).toNatClampNeg)]) hx hb hml hown hts hK hP hS (ct_X7_looks l D a cA cT hI g2 v1 (g2.1 1 (3 : Int32).toNatClampNeg) r35 g35 hcal) tM_0 (C := RX7) (F := TX7) (N := 18) rfl (g_V q956 q957 q59 q77 q958) yd_X7_looks ⟨Nat.le_of_ble_eq_true rfl, Nat.le_of_ble_eq_true rfl⟩ [.int v1, .ref (a 11)] rfl (Nat.le_of_ble_eq_true rfl) hl.1 ⟨Nat.le_refl _, Nat.le_refl _⟩ dX7_look_35 (fun H locs hP hS => ?_)
          refine lv_if_eq (tgt := 45) hx hb dX7_look_38 (by decide) (fun hc => ?_) (fun hc => ?_)
          · have h := ite_t hc h
            refine lv_iconst (v := (0 : Int32)) hx hb dX7_look_45 (by decide) ?_
            obtain ⟨hz, h⟩ := ite_n h
            refine x_ast hx hb hK hI hP hS tM_11 hz dX7_look_46 (fun H locs hP hS => ?_)
            refine lv_iinc (v := (v1 + (1 : Int32))) (lv' := [(1, .int (v1 + (1 : Int32))), (0, .ref (a 0))]) hx hb dX7_look_47 hl (k := 1) rfl rfl (by decide) rfl (fun ls hl => ?_)
            refine lv_goto (tgt := 2) hx hb dX7_look_50 (by decide) ?_
            exact ih2 (v1 + (1 : Int32)) (g_w g35 11 v1.toNatClampNeg (0 : Int32)) _ _ _ hP hS (lv_sub hl [1, 0] rfl) h
          · have h := ite_f hc h
            refine lv_iconst (v := (1 : Int32)) hx hb dX7_look_41 (by decide) ?_
            refine lv_goto (tgt := 46) hx hb dX7_look_42 (by decide) ?_
            obtain ⟨hz, h⟩ := ite_n h
            refine x_ast hx hb hK hI hP hS tM_11 hz dX7_look_46 (fun H locs hP hS => ?_)
            refine lv_iinc (v := (v1 + (1 : Int32))) (lv' := [(1, .int (v1 + (1 : Int32))), (0, .ref (a 0))]) hx hb dX7_look_47 hl (k := 1) rfl rfl (by decide) rfl (fun ls hl => ?_)
            refine lv_goto (tgt := 2) hx hb dX7_look_50 (by decide) ?_
            exact ih2 (v1 + (1 : Int32)) (g_w g35 11 v1.toNatClampNeg (1 : Int32)) _ _ _ hP hS (lv_sub hl [1, 0] rfl) h
        · have h := ite_f hc h
          refine lv_aload_n hx hb dX7_look_19 rfl (lv_at hl 0 rfl) ?_
          refine lv_iload_n hx hb dX7_look_20 rfl (lv_at hl 1 rfl) ?_
          obtain ⟨r21, hcal, h⟩ := bnd_s h
          refine x_VI (As := [.int v1]) hx hb hml hown hts hK hP hS (ct_X7_isSlice l D a cA cT hI g2 v1 r21 hcal) tM_0 (C := RX7) (F := TX7) (N := 18) rfl (g_V q807 q808 q36 q77 q809) yd_X7_isSlice ⟨Nat.le_of_ble_eq_true rfl, Nat.le_of_ble_eq_true rfl⟩ [.int v1, .ref (a 11)] rfl (Nat.le_of_ble_eq_true rfl) hl.1 ⟨Nat.le_refl _, Nat.le_refl _⟩ dX7_look_21 (fun H locs hP hS => ?_)
          refine lv_if_eq (tgt := 45) hx hb dX7_look_24 (by decide) (fun hc => ?_) (fun hc => ?_)
          · have h := ite_t hc h
            refine lv_iconst (v := (0 : Int32)) hx hb dX7_look_45 (by decide) ?_
            obtain ⟨hz, h⟩ := ite_n h
            refine x_ast hx hb hK hI hP hS tM_11 hz dX7_look_46 (fun H locs hP hS => ?_)
            refine lv_iinc (v := (v1 + (1 : Int32))) (lv' := [(1, .int (v1 + (1 : Int32))), (0, .ref (a 0))]) hx hb dX7_look_47 hl (k := 1) rfl rfl (by decide) rfl (fun ls hl => ?_)
            refine lv_goto (tgt := 2) hx hb dX7_look_50 (by decide) ?_
            exact ih2 (v1 + (1 : Int32)) (g_w g2 11 v1.toNatClampNeg (0 : Int32)) _ _ _ hP hS (lv_sub hl [1, 0] rfl) h
          · have h := ite_f hc h
            refine lv_aload_n hx hb dX7_look_27 rfl (lv_at hl 0 rfl) ?_
            refine lv_iload_n hx hb dX7_look_28 rfl (lv_at hl 1 rfl) ?_
            refine lv_aload_n hx hb dX7_look_29 rfl (lv_at hl 0 rfl) ?_
            refine x_getr hx hb hts inX7 hown hK hP tM_0 (C := RX7) (F := TX7) (N := 18) rfl 0 (by decide) q758 rfl 1 rfl dX7_look_30 ?_
            refine lv_iconst (v := (3 : Int32)) hx hb dX7_look_33 (by decide) ?_
            obtain ⟨hz, h⟩ := ite_n h
            refine x_ald hx hb hK hP tM_1 hz dX7_look_34 ?_
            obtain ⟨r35, g35, hcal, h⟩ := bnd2_s h
            refine x_VI (As := [.int v1, .int (g2.1 1 (3 : Int32).toNatClampNeg)]) hx hb hml hown hts hK hP hS (ct_X7_looks l D a cA cT hI g2 v1 (g2.1 1 (3 : Int32).toNatClampNeg) r35 g35 hcal) tM_0 (C := RX7) (F := TX7) (N := 18) rfl (g_V q956 q957 q59 q77 q958) yd_X7_looks ⟨Nat.le_of_ble_eq_true rfl, Nat.le_of_ble_eq_true rfl⟩ [.int v1, .ref (a 11)] rfl (Nat.le_of_ble_eq_true rfl) hl.1 ⟨Nat.le_refl _, Nat.le_refl _⟩ dX7_look_35 (fun H locs hP hS => ?_)
            refine lv_if_eq (tgt := 45) hx hb dX7_look_38 (by decide) (fun hc => ?_) (fun hc => ?_)
            · have h := ite_t hc h
              refine lv_iconst (v := (0 : Int32)) hx hb dX7_look_45 (by decide) ?_
              obtain ⟨hz, h⟩ := ite_n h
              refine x_ast hx hb hK hI hP hS tM_11 hz dX7_look_46 (fun H locs hP hS => ?_)
              refine lv_iinc (v := (v1 + (1 : Int32))) (lv' := [(1, .int (v1 + (1 : Int32))), (0, .ref (a 0))]) hx hb dX7_look_47 hl (k := 1) rfl rfl (by decide) rfl (fun ls hl => ?_)
              refine lv_goto (tgt := 2) hx hb dX7_look_50 (by decide) ?_
              exact ih2 (v1 + (1 : Int32)) (g_w g35 11 v1.toNatClampNeg (0 : Int32)) _ _ _ hP hS (lv_sub hl [1, 0] rfl) h
            · have h := ite_f hc h
              refine lv_iconst (v := (1 : Int32)) hx hb dX7_look_41 (by decide) ?_
              refine lv_goto (tgt := 46) hx hb dX7_look_42 (by decide) ?_
              obtain ⟨hz, h⟩ := ite_n h
              refine x_ast hx hb hK hI hP hS tM_11 hz dX7_look_46 (fun H locs hP hS => ?_)
              refine lv_iinc (v := (v1 + (1 : Int32))) (lv' := [(1, .int (v1 + (1 : Int32))), (0, .ref (a 0))]) hx hb dX7_look_47 hl (k := 1) rfl rfl (by decide) rfl (fun ls hl => ?_)
              refine lv_goto (tgt := 2) hx hb dX7_look_50 (by decide) ?_
              exact ih2 (v1 + (1 : Int32)) (g_w g35 11 v1.toNatClampNeg (1 : Int32)) _ _ _ hP hS (lv_sub hl [1, 0] rfl) h
  exact K2 fuelN (0 : Int32) g _ _ _ hP hS (lv_sub hl [1, 0] rfl) h
set_option maxHeartbeats 4000000 in
set_option maxRecDepth 100000 in
theorem ct_X7_isPassed (l : Launch) (D : va_G) (a : Nat → Nat) (cA cT : ClassId) (hI : WI a TM) (g : MG) (x0 : Int32)  (r : Int32) (g' : MG) (h : m_X7_isPassed g x0 = some (r, g')) :
    CtI l D a cA cT TM yX7_isPassed (Cond.code yX7_isPassed cX7_isPassed 2 (some .boolean) :: lw_all) (rmm 2 48) [.ref (a 0), .int x0] g r g' := by
  refine CtI.of (by decide +kernel) (Nat.le_of_ble_eq_true rfl) ?_
  intro p e s m args below meth c Q ls hx hb hml hown hts hK hP hS hl hend
  have hl : lv_has ls 2 [(0, .ref (a 0)), (1, .int x0)] := hl
  unfold m_X7_isPassed at h
  refine lv_aload_n hx hb dX7_isPassed_0 rfl (lv_at hl 0 rfl) ?_
  refine lv_aload_n hx hb dX7_isPassed_1 rfl (lv_at hl 0 rfl) ?_
  refine x_getr hx hb hts inX7 hown hK hP tM_0 (C := RX7) (F := TX7) (N := 18) rfl 0 (by decide) q758 rfl 1 rfl dX7_isPassed_2 ?_
  refine lv_iconst (v := (5 : Int32)) hx hb dX7_isPassed_5 (by decide) ?_
  refine lv_iload_n hx hb dX7_isPassed_6 rfl (lv_at hl 1 rfl) ?_
  refine lv_iadd hx hb dX7_isPassed_7 ?_
  obtain ⟨hz, h⟩ := ite_n h
  refine x_ald hx hb hK hP tM_1 hz dX7_isPassed_8 ?_
  refine lv_aload_n hx hb dX7_isPassed_9 rfl (lv_at hl 0 rfl) ?_
  refine x_getr hx hb hts inX7 hown hK hP tM_0 (C := RX7) (F := TX7) (N := 18) rfl 0 (by decide) q758 rfl 1 rfl dX7_isPassed_10 ?_
  refine lv_sipush (v := (405 : Int32)) hx hb dX7_isPassed_13 (by decide) ?_
  refine lv_iload_n hx hb dX7_isPassed_16 rfl (lv_at hl 1 rfl) ?_
  refine lv_iadd hx hb dX7_isPassed_17 ?_
  obtain ⟨hz, h⟩ := ite_n h
  refine x_ald hx hb hK hP tM_1 hz dX7_isPassed_18 ?_
  refine lv_iconst (v := (1 : Int32)) hx hb dX7_isPassed_19 (by decide) ?_
  obtain ⟨r20, g20, hcal, h⟩ := bnd2_s h
  refine x_VI (As := [.int (g.1 1 ((5 : Int32) + x0).toNatClampNeg), .int (g.1 1 ((405 : Int32) + x0).toNatClampNeg), .int (1 : Int32)]) hx hb hml hown hts hK hP hS (ct_X7_truth l D a cA cT hI g (g.1 1 ((5 : Int32) + x0).toNatClampNeg) (g.1 1 ((405 : Int32) + x0).toNatClampNeg) (1 : Int32) r20 g20 hcal) tM_0 (C := RX7) (F := TX7) (N := 18) rfl (g_V q974 q975 q63 q77 q976) yd_X7_truth ⟨Nat.le_of_ble_eq_true rfl, Nat.le_of_ble_eq_true rfl⟩ [] rfl (Nat.le_of_ble_eq_true rfl) hl.1 ⟨Nat.le_refl _, Nat.le_refl _⟩ dX7_isPassed_20 (fun H locs hP hS => ?_)
  refine lv_iconst (v := (2 : Int32)) hx hb dX7_isPassed_23 (by decide) ?_
  refine lv_icmp_ne (tgt := 31) hx hb dX7_isPassed_24 (by decide) (fun hc => ?_) (fun hc => ?_)
  · have h := ite_f hc h
    refine lv_iconst (v := (0 : Int32)) hx hb dX7_isPassed_31 (by decide) ?_
    obtain ⟨rfl, rfl⟩ := Prod.mk.inj (Option.some.inj h)
    exact hend _ _ _ _ dX7_isPassed_32 rfl hP hS
  · have h := ite_t hc h
    refine lv_iconst (v := (1 : Int32)) hx hb dX7_isPassed_27 (by decide) ?_
    refine lv_goto (tgt := 32) hx hb dX7_isPassed_28 (by decide) ?_
    obtain ⟨rfl, rfl⟩ := Prod.mk.inj (Option.some.inj h)
    exact hend _ _ _ _ dX7_isPassed_32 rfl hP hS
set_option maxHeartbeats 4000000 in
set_option maxRecDepth 100000 in
theorem ct_X7_isInTable (l : Launch) (D : va_G) (a : Nat → Nat) (cA cT : ClassId) (hI : WI a TM) (g : MG) (x0 : Int32)  (r : Int32) (h : m_X7_isInTable g x0 = some r) :
    CtI l D a cA cT TM yX7_isInTable (Cond.code yX7_isInTable cX7_isInTable 2 (some .boolean) :: lw_all) (rmm 0 0) [.ref (a 0), .int x0] g r g := by
  refine CtI.of (by decide +kernel) (Nat.le_of_ble_eq_true rfl) ?_
  intro p e s m args below meth c Q ls hx hb hml hown hts hK hP hS hl hend
  have hl : lv_has ls 2 [(0, .ref (a 0)), (1, .int x0)] := hl
  unfold m_X7_isInTable at h
  refine lv_aload_n hx hb dX7_isInTable_0 rfl (lv_at hl 0 rfl) ?_
  refine x_getr hx hb hts inX7 hown hK hP tM_0 (C := RX7) (F := TX7) (N := 18) rfl 0 (by decide) q758 rfl 1 rfl dX7_isInTable_1 ?_
  refine lv_sipush (v := (805 : Int32)) hx hb dX7_isInTable_4 (by decide) ?_
  refine lv_iload_n hx hb dX7_isInTable_7 rfl (lv_at hl 1 rfl) ?_
  refine lv_iadd hx hb dX7_isInTable_8 ?_
  obtain ⟨hz, h⟩ := ite_n h
  refine x_ald hx hb hK hP tM_1 hz dX7_isInTable_9 ?_
  refine lv_iconst (v := (-1 : Int32)) hx hb dX7_isInTable_10 (by decide) ?_
  refine lv_icmp_eq (tgt := 33) hx hb dX7_isInTable_11 (by decide) (fun hc => ?_) (fun hc => ?_)
  · have h := ite_t hc h
    refine lv_iconst (v := (0 : Int32)) hx hb dX7_isInTable_33 (by decide) ?_
    obtain rfl := Option.some.inj h
    exact hend _ _ _ _ dX7_isInTable_34 rfl hP hS
  · have h := ite_f hc h
    refine lv_aload_n hx hb dX7_isInTable_14 rfl (lv_at hl 0 rfl) ?_
    refine x_getr hx hb hts inX7 hown hK hP tM_0 (C := RX7) (F := TX7) (N := 18) rfl 0 (by decide) q758 rfl 1 rfl dX7_isInTable_15 ?_
    refine lv_sipush (v := (805 : Int32)) hx hb dX7_isInTable_18 (by decide) ?_
    refine lv_iload_n hx hb dX7_isInTable_21 rfl (lv_at hl 1 rfl) ?_
    refine lv_iadd hx hb dX7_isInTable_22 ?_
    obtain ⟨hz, h⟩ := ite_n h
    refine x_ald hx hb hK hP tM_1 hz dX7_isInTable_23 ?_
    refine lv_bipush (v := (61 : Int32)) hx hb dX7_isInTable_24 (by decide) ?_
    refine lv_icmp_eq (tgt := 33) hx hb dX7_isInTable_26 (by decide) (fun hc => ?_) (fun hc => ?_)
    · have h := ite_t hc h
      refine lv_iconst (v := (0 : Int32)) hx hb dX7_isInTable_33 (by decide) ?_
      obtain rfl := Option.some.inj h
      exact hend _ _ _ _ dX7_isInTable_34 rfl hP hS
    · have h := ite_f hc h
      refine lv_iconst (v := (1 : Int32)) hx hb dX7_isInTable_29 (by decide) ?_
      refine lv_goto (tgt := 34) hx hb dX7_isInTable_30 (by decide) ?_
      obtain rfl := Option.some.inj h
      exact hend _ _ _ _ dX7_isInTable_34 rfl hP hS
set_option maxHeartbeats 4000000 in
set_option maxRecDepth 100000 in
theorem ct_X7_isAnswer (l : Launch) (D : va_G) (a : Nat → Nat) (cA cT : ClassId) (hI : WI a TM) (g : MG) (x0 : Int32)  (r : Int32) (g' : MG) (h : m_X7_isAnswer g x0 = some (r, g')) :
    CtI l D a cA cT TM yX7_isAnswer (Cond.code yX7_isAnswer cX7_isAnswer 2 (some .boolean) :: lw_all) (rmm 3 69) [.ref (a 0), .int x0] g r g' := by
  refine CtI.of (by decide +kernel) (Nat.le_of_ble_eq_true rfl) ?_
  intro p e s m args below meth c Q ls hx hb hml hown hts hK hP hS hl hend
  have hl : lv_has ls 2 [(0, .ref (a 0)), (1, .int x0)] := hl
  unfold m_X7_isAnswer at h
  refine lv_aload_n hx hb dX7_isAnswer_0 rfl (lv_at hl 0 rfl) ?_
  refine lv_iload_n hx hb dX7_isAnswer_1 rfl (lv_at hl 1 rfl) ?_
  obtain ⟨r2, hcal, h⟩ := bnd_s h
  refine x_VI (As := [.int x0]) hx hb hml hown hts hK hP hS (ct_X7_isInTable l D a cA cT hI g x0 r2 hcal) tM_0 (C := RX7) (F := TX7) (N := 18) rfl (g_V q977 q978 q64 q77 q979) yd_X7_isInTable ⟨Nat.le_of_ble_eq_true rfl, Nat.le_of_ble_eq_true rfl⟩ [] rfl (Nat.le_of_ble_eq_true rfl) hl.1 ⟨Nat.le_refl _, Nat.le_refl _⟩ dX7_isAnswer_2 (fun H locs hP hS => ?_)
  refine lv_if_eq (tgt := 39) hx hb dX7_isAnswer_5 (by decide) (fun hc => ?_) (fun hc => ?_)
  · have h := ite_t hc h
    refine lv_iconst (v := (0 : Int32)) hx hb dX7_isAnswer_39 (by decide) ?_
    obtain ⟨rfl, rfl⟩ := Prod.mk.inj (Option.some.inj h)
    exact hend _ _ _ _ dX7_isAnswer_40 rfl hP hS
  · have h := ite_f hc h
    refine lv_aload_n hx hb dX7_isAnswer_8 rfl (lv_at hl 0 rfl) ?_
    refine x_getr hx hb hts inX7 hown hK hP tM_0 (C := RX7) (F := TX7) (N := 18) rfl 14 (by decide) q772 rfl 11 rfl dX7_isAnswer_9 ?_
    refine lv_aload_n hx hb dX7_isAnswer_12 rfl (lv_at hl 0 rfl) ?_
    refine x_getr hx hb hts inX7 hown hK hP tM_0 (C := RX7) (F := TX7) (N := 18) rfl 0 (by decide) q758 rfl 1 rfl dX7_isAnswer_13 ?_
    refine lv_sipush (v := (805 : Int32)) hx hb dX7_isAnswer_16 (by decide) ?_
    refine lv_iload_n hx hb dX7_isAnswer_19 rfl (lv_at hl 1 rfl) ?_
    refine lv_iadd hx hb dX7_isAnswer_20 ?_
    obtain ⟨hz, h⟩ := ite_n h
    refine x_ald hx hb hK hP tM_1 hz dX7_isAnswer_21 ?_
    obtain ⟨hz, h⟩ := ite_n h
    refine x_ald hx hb hK hP tM_11 hz dX7_isAnswer_22 ?_
    refine lv_iconst (v := (1 : Int32)) hx hb dX7_isAnswer_23 (by decide) ?_
    refine lv_icmp_ne (tgt := 39) hx hb dX7_isAnswer_24 (by decide) (fun hc => ?_) (fun hc => ?_)
    · have h := ite_f hc h
      refine lv_iconst (v := (0 : Int32)) hx hb dX7_isAnswer_39 (by decide) ?_
      obtain ⟨rfl, rfl⟩ := Prod.mk.inj (Option.some.inj h)
      exact hend _ _ _ _ dX7_isAnswer_40 rfl hP hS
    · have h := ite_t hc h
      refine lv_aload_n hx hb dX7_isAnswer_27 rfl (lv_at hl 0 rfl) ?_
      refine lv_iload_n hx hb dX7_isAnswer_28 rfl (lv_at hl 1 rfl) ?_
      obtain ⟨r29, g29, hcal, h⟩ := bnd2_s h
      refine x_VI (As := [.int x0]) hx hb hml hown hts hK hP hS (ct_X7_isPassed l D a cA cT hI g x0 r29 g29 hcal) tM_0 (C := RX7) (F := TX7) (N := 18) rfl (g_V q983 q984 q66 q77 q985) yd_X7_isPassed ⟨Nat.le_of_ble_eq_true rfl, Nat.le_of_ble_eq_true rfl⟩ [] rfl (Nat.le_of_ble_eq_true rfl) hl.1 ⟨Nat.le_refl _, Nat.le_refl _⟩ dX7_isAnswer_29 (fun H locs hP hS => ?_)
      refine lv_if_eq (tgt := 39) hx hb dX7_isAnswer_32 (by decide) (fun hc => ?_) (fun hc => ?_)
      · have h := ite_t hc h
        refine lv_iconst (v := (0 : Int32)) hx hb dX7_isAnswer_39 (by decide) ?_
        obtain ⟨rfl, rfl⟩ := Prod.mk.inj (Option.some.inj h)
        exact hend _ _ _ _ dX7_isAnswer_40 rfl hP hS
      · have h := ite_f hc h
        refine lv_iconst (v := (1 : Int32)) hx hb dX7_isAnswer_35 (by decide) ?_
        refine lv_goto (tgt := 40) hx hb dX7_isAnswer_36 (by decide) ?_
        obtain ⟨rfl, rfl⟩ := Prod.mk.inj (Option.some.inj h)
        exact hend _ _ _ _ dX7_isAnswer_40 rfl hP hS
set_option maxHeartbeats 4000000 in
set_option maxRecDepth 100000 in
theorem ct_X7_ask (l : Launch) (D : va_G) (a : Nat → Nat) (cA cT : ClassId) (hI : WI a TM) (g : MG) (x0 : Int32)  (r : Int32) (g' : MG) (h : m_X7_ask g x0 = some (r, g')) :
    CtI l D a cA cT TM yX7_ask (Cond.code yX7_ask cX7_ask 9 (some .int) :: lw_all) (rmm 6 132) [.ref (a 0), .int x0] g r g' := by
  refine CtI.of (by decide +kernel) (Nat.le_of_ble_eq_true rfl) ?_
  intro p e s m args below meth c Q ls hx hb hml hown hts hK hP hS hl hend
  have hl : lv_has ls 9 [(0, .ref (a 0)), (1, .int x0)] := hl
  unfold m_X7_ask at h
  refine lv_aload_n hx hb dX7_ask_0 rfl (lv_at hl 0 rfl) ?_
  obtain ⟨r1, g1, hcal, h⟩ := bnd2_s h
  refine x_VI (As := []) hx hb hml hown hts hK hP hS (ct_X7_read l D a cA cT hI g r1 g1 hcal) tM_0 (C := RX7) (F := TX7) (N := 18) rfl (g_V q919 q920 q52 q77 q921) yd_X7_read ⟨Nat.le_of_ble_eq_true rfl, Nat.le_of_ble_eq_true rfl⟩ [] rfl (Nat.le_of_ble_eq_true rfl) hl.1 ⟨Nat.le_refl _, Nat.le_refl _⟩ dX7_ask_1 (fun H locs hP hS => ?_)
  refine lv_sipush (v := (-1005 : Int32)) hx hb dX7_ask_4 (by decide) ?_
  refine lv_icmp_eq (tgt := 14) hx hb dX7_ask_7 (by decide) (fun hc => ?_) (fun hc => ?_)
  · have h := ite_t hc h
    refine lv_iload_n hx hb dX7_ask_14 rfl (lv_at hl 1 rfl) ?_
    refine lv_iconst (v := (0 : Int32)) hx hb dX7_ask_15 (by decide) ?_
    refine lv_iconst (v := (5 : Int32)) hx hb dX7_ask_16 (by decide) ?_
    obtain ⟨r17, hcal, h⟩ := bnd_s h
    refine x_SI (As := [.int x0, .int (0 : Int32), .int (5 : Int32)]) hx hb hml hown hts hK hP hS (ct_X7_in l D a cA cT hI g1 x0 (0 : Int32) (5 : Int32) r17 hcal) (g_S q798 q799 q77 q800) yd_X7_in ⟨Nat.le_of_ble_eq_true rfl, Nat.le_of_ble_eq_true rfl⟩ [] rfl (Nat.le_of_ble_eq_true rfl) hl.1 ⟨Nat.le_refl _, Nat.le_refl _⟩ dX7_ask_17 (fun H locs hP hS => ?_)
    refine lv_if_ne (tgt := 27) hx hb dX7_ask_20 (by decide) (fun hc => ?_) (fun hc => ?_)
    · have h := ite_f hc h
      refine lv_aload_n hx hb dX7_ask_27 rfl (lv_at hl 0 rfl) ?_
      obtain ⟨g28, hcal, h⟩ := bnd_s h
      refine x_VV (As := []) hx hb hml hown hts hK hP hS (ct_X7_look l D a cA cT hI g1 g28 hcal) tM_0 (C := RX7) (F := TX7) (N := 18) rfl (g_V q953 q954 q58 q77 q955) yd_X7_look ⟨Nat.le_of_ble_eq_true rfl, Nat.le_of_ble_eq_true rfl⟩ [] rfl (Nat.le_of_ble_eq_true rfl) hl.1 ⟨Nat.le_refl _, Nat.le_refl _⟩ dX7_ask_28 (fun H locs hP hS => ?_)
      refine lv_iconst (v := (0 : Int32)) hx hb dX7_ask_31 (by decide) ?_
      refine lv_istore_n (lv' := [(2, .int (0 : Int32)), (0, .ref (a 0)), (1, .int x0)]) hx hb dX7_ask_32 rfl hl (by decide) rfl (fun ls hl => ?_)
      refine lv_iconst (v := (0 : Int32)) hx hb dX7_ask_33 (by decide) ?_
      refine lv_istore_n (lv' := [(3, .int (0 : Int32)), (2, .int (0 : Int32)), (0, .ref (a 0)), (1, .int x0)]) hx hb dX7_ask_34 rfl hl (by decide) rfl (fun ls hl => ?_)
      refine lv_iconst (v := (0 : Int32)) hx hb dX7_ask_35 (by decide) ?_
      refine lv_istore (lv' := [(4, .int (0 : Int32)), (3, .int (0 : Int32)), (2, .int (0 : Int32)), (0, .ref (a 0)), (1, .int x0)]) hx hb dX7_ask_36 hl (by decide) rfl (fun ls hl => ?_)
      refine lv_iconst (v := (0 : Int32)) hx hb dX7_ask_38 (by decide) ?_
      refine lv_istore (lv' := [(5, .int (0 : Int32)), (4, .int (0 : Int32)), (3, .int (0 : Int32)), (2, .int (0 : Int32)), (0, .ref (a 0)), (1, .int x0)]) hx hb dX7_ask_39 hl (by decide) rfl (fun ls hl => ?_)
      refine lv_iconst (v := (0 : Int32)) hx hb dX7_ask_41 (by decide) ?_
      refine lv_istore (lv' := [(6, .int (0 : Int32)), (5, .int (0 : Int32)), (4, .int (0 : Int32)), (3, .int (0 : Int32)), (2, .int (0 : Int32)), (0, .ref (a 0)), (1, .int x0)]) hx hb dX7_ask_42 hl (by decide) rfl (fun ls hl => ?_)
      refine lv_iconst (v := (0 : Int32)) hx hb dX7_ask_44 (by decide) ?_
      refine lv_istore (lv' := [(7, .int (0 : Int32)), (6, .int (0 : Int32)), (5, .int (0 : Int32)), (4, .int (0 : Int32)), (3, .int (0 : Int32)), (2, .int (0 : Int32)), (0, .ref (a 0)), (1, .int x0)]) hx hb dX7_ask_45 hl (by decide) rfl (fun ls hl => ?_)
      have K47 : ∀ (n47 : Nat) (v4 : Int32) (v7 : Int32) (H : Heap) (locs : List Loc) (ls : Array Slot), WP D a cA cT TM g28 H → va_S (AA a TM) s.heap H locs → lv_has ls 9 [(0, .ref (a 0)), (1, .int x0), (2, .int (0 : Int32)), (3, .int (0 : Int32)), (4, .int v4), (5, .int (0 : Int32)), (6, .int (0 : Int32)), (7, .int v7)] → lpo (b_X7_ask_L47 g28 x0 (0 : Int32) (0 : Int32) (0 : Int32) (0 : Int32)) n47 (v4, v7) = some (r, g') → W p l e (rmm 6 132) s m args below meth c H locs 0 0 Q (F0 m 47 ls []) := by
        intro n47
        induction n47 with
        | zero => intro v4 v7 H locs ls hP hS hl h; exact (lpo_0 h).elim
        | succ n47 ih47 =>
          intro v4 v7 H locs ls hP hS hl h
          have h : m_X7_ask_L47 (lpo (b_X7_ask_L47 g28 x0 (0 : Int32) (0 : Int32) (0 : Int32) (0 : Int32)) n47) g28 x0 (0 : Int32) (0 : Int32) (0 : Int32) (0 : Int32) v4 v7 = some (r, g') := h
          unfold m_X7_ask_L47 at h
          refine lv_iload hx hb dX7_ask_47 (lv_at hl 7 rfl) ?_
          refine lv_bipush (v := (60 : Int32)) hx hb dX7_ask_49 (by decide) ?_
          refine lv_icmp_gt (tgt := 72) hx hb dX7_ask_51 (by decide) (fun hc => ?_) (fun hc => ?_)
          · have h := ite_t hc h
            refine lv_iconst (v := (0 : Int32)) hx hb dX7_ask_72 (by decide) ?_
            refine lv_istore (lv' := [(7, .int (0 : Int32)), (0, .ref (a 0)), (1, .int x0), (2, .int (0 : Int32)), (3, .int (0 : Int32)), (4, .int v4), (5, .int (0 : Int32)), (6, .int (0 : Int32))]) hx hb dX7_ask_73 hl (by decide) rfl (fun ls hl => ?_)
            have K75 : ∀ (n75 : Nat) (v2 : Int32) (v3 : Int32) (v5 : Int32) (v6 : Int32) (v7 : Int32) (g75 : MG) (H : Heap) (locs : List Loc) (ls : Array Slot), WP D a cA cT TM g75 H → va_S (AA a TM) s.heap H locs → lv_has ls 9 [(0, .ref (a 0)), (1, .int x0), (2, .int v2), (3, .int v3), (4, .int v4), (5, .int v5), (6, .int v6), (7, .int v7)] → lpo (b_X7_ask_L75 x0 v4) n75 (v2, v3, v5, v6, v7, g75) = some (r, g') → W p l e (rmm 6 132) s m args below meth c H locs 0 0 Q (F0 m 75 ls []) := by
              intro n75
              induction n75 with
              | zero => intro v2 v3 v5 v6 v7 g75 H locs ls hP hS hl h; exact (lpo_0 h).elim
              | succ n75 ih75 =>
                intro v2 v3 v5 v6 v7 g75 H locs ls hP hS hl h
                have h : m_X7_ask_L75 (lpo (b_X7_ask_L75 x0 v4) n75) x0 v4 v2 v3 v5 v6 v7 g75 = some (r, g') := h
                unfold m_X7_ask_L75 at h
                have J137 : ∀ (v2 : Int32) (v5 : Int32) (v6 : Int32) (v7 : Int32) (w0 : Int32) (w1 : Int32) (g137 : MG) (H : Heap) (locs : List Loc) (ls : Array Slot), WP D a cA cT TM g137 H → va_S (AA a TM) s.heap H locs → lv_has ls 9 [(0, .ref (a 0)), (1, .int x0), (2, .int v2), (4, .int v4), (5, .int v5), (6, .int v6), (7, .int v7)] → m_X7_ask_J137 (lpo (b_X7_ask_L75 x0 v4) n75) x0 v4 v2 v5 v6 v7 w0 w1 g137 = some (r, g') → W p l e (rmm 6 132) s m args below meth c H locs 0 0 Q (F0 m 137 ls [.int w1, .int w0]) := by
                  intro v2 v5 v6 v7 w0 w1 g137 H locs ls hP hS hl h
                  unfold m_X7_ask_J137 at h
                  refine lv_iadd hx hb dX7_ask_137 ?_
                  refine lv_istore_n (lv' := [(3, .int (w0 + w1)), (0, .ref (a 0)), (1, .int x0), (2, .int v2), (4, .int v4), (5, .int v5), (6, .int v6), (7, .int v7)]) hx hb dX7_ask_138 rfl hl (by decide) rfl (fun ls hl => ?_)
                  refine lv_iload hx hb dX7_ask_139 (lv_at hl 5 rfl) ?_
                  refine lv_aload_n hx hb dX7_ask_141 rfl (lv_at hl 1 rfl) ?_
                  refine x_getr hx hb hts inX7 hown hK hP tM_0 (C := RX7) (F := TX7) (N := 18) rfl 14 (by decide) q772 rfl 11 rfl dX7_ask_142 ?_
                  refine lv_aload_n hx hb dX7_ask_145 rfl (lv_at hl 1 rfl) ?_
                  refine x_getr hx hb hts inX7 hown hK hP tM_0 (C := RX7) (F := TX7) (N := 18) rfl 0 (by decide) q758 rfl 1 rfl dX7_ask_146 ?_
                  refine lv_sipush (v := (805 : Int32)) hx hb dX7_ask_149 (by decide) ?_
                  refine lv_iload hx hb dX7_ask_152 (lv_at hl 7 rfl) ?_
                  refine lv_iadd hx hb dX7_ask_154 ?_
                  obtain ⟨hz, h⟩ := ite_n h
                  refine x_ald hx hb hK hP tM_1 hz dX7_ask_155 ?_
                  obtain ⟨hz, h⟩ := ite_n h
                  refine x_ald hx hb hK hP tM_11 hz dX7_ask_156 ?_
                  refine lv_iadd hx hb dX7_ask_157 ?_
                  refine lv_istore (lv' := [(5, .int (v5 + (g137.1 11 (g137.1 1 ((805 : Int32) + v7).toNatClampNeg).toNatClampNeg))), (3, .int (w0 + w1)), (0, .ref (a 0)), (1, .int x0), (2, .int v2), (4, .int v4), (6, .int v6), (7, .int v7)]) hx hb dX7_ask_158 hl (by decide) rfl (fun ls hl => ?_)
                  refine lv_iload hx hb dX7_ask_160 (lv_at hl 6 rfl) ?_
                  refine lv_aload_n hx hb dX7_ask_162 rfl (lv_at hl 2 rfl) ?_
                  refine lv_iload hx hb dX7_ask_163 (lv_at hl 7 rfl) ?_
                  obtain ⟨r165, g165, hcal, h⟩ := bnd2_s h
                  refine x_VI (As := [.int v7]) hx hb hml hown hts hK hP hS (ct_X7_isPassed l D a cA cT hI g137 v7 r165 g165 hcal) tM_0 (C := RX7) (F := TX7) (N := 18) rfl (g_V q983 q984 q66 q77 q985) yd_X7_isPassed ⟨Nat.le_of_ble_eq_true rfl, Nat.le_of_ble_eq_true rfl⟩ [.int v6] rfl (Nat.le_of_ble_eq_true rfl) hl.1 ⟨Nat.le_refl _, Nat.le_refl _⟩ dX7_ask_165 (fun H locs hP hS => ?_)
                  refine lv_if_eq (tgt := 175) hx hb dX7_ask_168 (by decide) (fun hc => ?_) (fun hc => ?_)
                  · have h := ite_t hc h
                    refine lv_iconst (v := (0 : Int32)) hx hb dX7_ask_175 (by decide) ?_
                    refine lv_iadd hx hb dX7_ask_176 ?_
                    refine lv_istore (lv' := [(6, .int (v6 + (0 : Int32))), (5, .int (v5 + (g137.1 11 (g137.1 1 ((805 : Int32) + v7).toNatClampNeg).toNatClampNeg))), (3, .int (w0 + w1)), (0, .ref (a 0)), (1, .int x0), (2, .int v2), (4, .int v4), (7, .int v7)]) hx hb dX7_ask_177 hl (by decide) rfl (fun ls hl => ?_)
                    refine lv_iinc (v := (v7 + (1 : Int32))) (lv' := [(7, .int (v7 + (1 : Int32))), (6, .int (v6 + (0 : Int32))), (5, .int (v5 + (g137.1 11 (g137.1 1 ((805 : Int32) + v7).toNatClampNeg).toNatClampNeg))), (3, .int (w0 + w1)), (0, .ref (a 0)), (1, .int x0), (2, .int v2), (4, .int v4)]) hx hb dX7_ask_179 hl (k := 7) rfl rfl (by decide) rfl (fun ls hl => ?_)
                    refine lv_goto (tgt := 75) hx hb dX7_ask_182 (by decide) ?_
                    exact ih75 v2 (w0 + w1) (v5 + (g137.1 11 (g137.1 1 ((805 : Int32) + v7).toNatClampNeg).toNatClampNeg)) (v6 + (0 : Int32)) (v7 + (1 : Int32)) g165 _ _ _ hP hS (lv_sub hl [4, 5, 6, 3, 7, 2, 1, 0] rfl) h
                  · have h := ite_f hc h
                    refine lv_iconst (v := (1 : Int32)) hx hb dX7_ask_171 (by decide) ?_
                    refine lv_goto (tgt := 176) hx hb dX7_ask_172 (by decide) ?_
                    refine lv_iadd hx hb dX7_ask_176 ?_
                    refine lv_istore (lv' := [(6, .int (v6 + (1 : Int32))), (5, .int (v5 + (g137.1 11 (g137.1 1 ((805 : Int32) + v7).toNatClampNeg).toNatClampNeg))), (3, .int (w0 + w1)), (0, .ref (a 0)), (1, .int x0), (2, .int v2), (4, .int v4), (7, .int v7)]) hx hb dX7_ask_177 hl (by decide) rfl (fun ls hl => ?_)
                    refine lv_iinc (v := (v7 + (1 : Int32))) (lv' := [(7, .int (v7 + (1 : Int32))), (6, .int (v6 + (1 : Int32))), (5, .int (v5 + (g137.1 11 (g137.1 1 ((805 : Int32) + v7).toNatClampNeg).toNatClampNeg))), (3, .int (w0 + w1)), (0, .ref (a 0)), (1, .int x0), (2, .int v2), (4, .int v4)]) hx hb dX7_ask_179 hl (k := 7) rfl rfl (by decide) rfl (fun ls hl => ?_)
                    refine lv_goto (tgt := 75) hx hb dX7_ask_182 (by decide) ?_
                    exact ih75 v2 (w0 + w1) (v5 + (g137.1 11 (g137.1 1 ((805 : Int32) + v7).toNatClampNeg).toNatClampNeg)) (v6 + (1 : Int32)) (v7 + (1 : Int32)) g165 _ _ _ hP hS (lv_sub hl [4, 5, 6, 3, 7, 2, 1, 0] rfl) h
                have J114 : ∀ (v3 : Int32) (v5 : Int32) (v6 : Int32) (v7 : Int32) (v8 : Int32) (w0 : Int32) (w1 : Int32) (g114 : MG) (H : Heap) (locs : List Loc) (ls : Array Slot), WP D a cA cT TM g114 H → va_S (AA a TM) s.heap H locs → lv_has ls 9 [(0, .ref (a 0)), (1, .int x0), (3, .int v3), (4, .int v4), (5, .int v5), (6, .int v6), (7, .int v7), (8, .int v8)] → m_X7_ask_J114 (lpo (b_X7_ask_L75 x0 v4) n75) x0 v4 v3 v5 v6 v7 v8 w0 w1 g114 = some (r, g') → W p l e (rmm 6 132) s m args below meth c H locs 0 0 Q (F0 m 114 ls [.int w1, .int w0]) := by
                  intro v3 v5 v6 v7 v8 w0 w1 g114 H locs ls hP hS hl h
                  unfold m_X7_ask_J114 at h
                  refine lv_iadd hx hb dX7_ask_114 ?_
                  refine lv_istore_n (lv' := [(2, .int (w0 + w1)), (0, .ref (a 0)), (1, .int x0), (3, .int v3), (4, .int v4), (5, .int v5), (6, .int v6), (7, .int v7), (8, .int v8)]) hx hb dX7_ask_115 rfl hl (by decide) rfl (fun ls hl => ?_)
                  refine lv_iload_n hx hb dX7_ask_116 rfl (lv_at hl 3 rfl) ?_
                  refine lv_iload hx hb dX7_ask_117 (lv_at hl 8 rfl) ?_
                  refine lv_if_eq (tgt := 136) hx hb dX7_ask_119 (by decide) (fun hc => ?_) (fun hc => ?_)
                  · have h := ite_t hc h
                    refine lv_iconst (v := (0 : Int32)) hx hb dX7_ask_136 (by decide) ?_
                    exact J137 (w0 + w1) v5 v6 v7 v3 (0 : Int32) g114 _ _ _ hP hS (lv_sub hl [1, 2, 0, 4, 5, 6, 7] rfl) h
                  · have h := ite_f hc h
                    refine lv_aload_n hx hb dX7_ask_122 rfl (lv_at hl 1 rfl) ?_
                    refine x_getr hx hb hts inX7 hown hK hP tM_0 (C := RX7) (F := TX7) (N := 18) rfl 0 (by decide) q758 rfl 1 rfl dX7_ask_123 ?_
                    refine lv_sipush (v := (405 : Int32)) hx hb dX7_ask_126 (by decide) ?_
                    refine lv_iload hx hb dX7_ask_129 (lv_at hl 7 rfl) ?_
                    refine lv_iadd hx hb dX7_ask_131 ?_
                    obtain ⟨hz, h⟩ := ite_n h
                    refine x_ald hx hb hK hP tM_1 hz dX7_ask_132 ?_
                    refine lv_goto (tgt := 137) hx hb dX7_ask_133 (by decide) ?_
                    exact J137 (w0 + w1) v5 v6 v7 v3 (g114.1 1 ((405 : Int32) + v7).toNatClampNeg) g114 _ _ _ hP hS (lv_sub hl [1, 2, 0, 4, 5, 6, 7] rfl) h
                refine lv_iload hx hb dX7_ask_75 (lv_at hl 7 rfl) ?_
                refine lv_aload_n hx hb dX7_ask_77 rfl (lv_at hl 0 rfl) ?_
                refine x_getr hx hb hts inX7 hown hK hP tM_0 (C := RX7) (F := TX7) (N := 18) rfl 0 (by decide) q758 rfl 1 rfl dX7_ask_78 ?_
                refine lv_iconst (v := (0 : Int32)) hx hb dX7_ask_81 (by decide) ?_
                obtain ⟨hz, h⟩ := ite_n h
                refine x_ald hx hb hK hP tM_1 hz dX7_ask_82 ?_
                refine lv_icmp_ge (tgt := 185) hx hb dX7_ask_83 (by decide) (fun hc => ?_) (fun hc => ?_)
                · have h := ite_t hc h
                  refine lv_iload_n hx hb dX7_ask_185 rfl (lv_at hl 1 rfl) ?_
                  refine lv_if_ne (tgt := 193) hx hb dX7_ask_186 (by decide) (fun hc => ?_) (fun hc => ?_)
                  · have h := ite_f hc h
                    refine lv_iload_n hx hb dX7_ask_193 rfl (lv_at hl 1 rfl) ?_
                    refine lv_iconst (v := (1 : Int32)) hx hb dX7_ask_194 (by decide) ?_
                    refine lv_icmp_ne (tgt := 202) hx hb dX7_ask_195 (by decide) (fun hc => ?_) (fun hc => ?_)
                    · have h := ite_f hc h
                      refine lv_iload_n hx hb dX7_ask_202 rfl (lv_at hl 1 rfl) ?_
                      refine lv_iconst (v := (2 : Int32)) hx hb dX7_ask_203 (by decide) ?_
                      refine lv_icmp_ne (tgt := 212) hx hb dX7_ask_204 (by decide) (fun hc => ?_) (fun hc => ?_)
                      · have h := ite_f hc h
                        refine lv_iload_n hx hb dX7_ask_212 rfl (lv_at hl 1 rfl) ?_
                        refine lv_iconst (v := (3 : Int32)) hx hb dX7_ask_213 (by decide) ?_
                        refine lv_icmp_ne (tgt := 222) hx hb dX7_ask_214 (by decide) (fun hc => ?_) (fun hc => ?_)
                        · have h := ite_f hc h
                          refine lv_iload_n hx hb dX7_ask_222 rfl (lv_at hl 1 rfl) ?_
                          refine lv_iconst (v := (4 : Int32)) hx hb dX7_ask_223 (by decide) ?_
                          refine lv_icmp_ne (tgt := 232) hx hb dX7_ask_224 (by decide) (fun hc => ?_) (fun hc => ?_)
                          · have h := ite_f hc h
                            refine lv_iload hx hb dX7_ask_232 (lv_at hl 6 rfl) ?_
                            refine lv_iload_n hx hb dX7_ask_234 rfl (lv_at hl 2 rfl) ?_
                            refine lv_isub hx hb dX7_ask_235 ?_
                            obtain ⟨rfl, rfl⟩ := Prod.mk.inj (Option.some.inj h)
                            exact hend _ _ _ _ dX7_ask_236 rfl hP hS
                          · have h := ite_t hc h
                            refine lv_iload hx hb dX7_ask_227 (lv_at hl 6 rfl) ?_
                            refine lv_goto (tgt := 236) hx hb dX7_ask_229 (by decide) ?_
                            obtain ⟨rfl, rfl⟩ := Prod.mk.inj (Option.some.inj h)
                            exact hend _ _ _ _ dX7_ask_236 rfl hP hS
                        · have h := ite_t hc h
                          refine lv_iload hx hb dX7_ask_217 (lv_at hl 5 rfl) ?_
                          refine lv_goto (tgt := 236) hx hb dX7_ask_219 (by decide) ?_
                          obtain ⟨rfl, rfl⟩ := Prod.mk.inj (Option.some.inj h)
                          exact hend _ _ _ _ dX7_ask_236 rfl hP hS
                      · have h := ite_t hc h
                        refine lv_iload hx hb dX7_ask_207 (lv_at hl 4 rfl) ?_
                        refine lv_goto (tgt := 236) hx hb dX7_ask_209 (by decide) ?_
                        obtain ⟨rfl, rfl⟩ := Prod.mk.inj (Option.some.inj h)
                        exact hend _ _ _ _ dX7_ask_236 rfl hP hS
                    · have h := ite_t hc h
                      refine lv_iload_n hx hb dX7_ask_198 rfl (lv_at hl 3 rfl) ?_
                      refine lv_goto (tgt := 236) hx hb dX7_ask_199 (by decide) ?_
                      obtain ⟨rfl, rfl⟩ := Prod.mk.inj (Option.some.inj h)
                      exact hend _ _ _ _ dX7_ask_236 rfl hP hS
                  · have h := ite_t hc h
                    refine lv_iload_n hx hb dX7_ask_189 rfl (lv_at hl 2 rfl) ?_
                    refine lv_goto (tgt := 236) hx hb dX7_ask_190 (by decide) ?_
                    obtain ⟨rfl, rfl⟩ := Prod.mk.inj (Option.some.inj h)
                    exact hend _ _ _ _ dX7_ask_236 rfl hP hS
                · have h := ite_f hc h
                  refine lv_aload_n hx hb dX7_ask_86 rfl (lv_at hl 0 rfl) ?_
                  refine lv_iload hx hb dX7_ask_87 (lv_at hl 7 rfl) ?_
                  obtain ⟨r89, hcal, h⟩ := bnd_s h
                  refine x_VI (As := [.int v7]) hx hb hml hown hts hK hP hS (ct_X7_isInTable l D a cA cT hI g75 v7 r89 hcal) tM_0 (C := RX7) (F := TX7) (N := 18) rfl (g_V q977 q978 q64 q77 q979) yd_X7_isInTable ⟨Nat.le_of_ble_eq_true rfl, Nat.le_of_ble_eq_true rfl⟩ [] rfl (Nat.le_of_ble_eq_true rfl) hl.1 ⟨Nat.le_refl _, Nat.le_refl _⟩ dX7_ask_89 (fun H locs hP hS => ?_)
                  refine lv_if_eq (tgt := 179) hx hb dX7_ask_92 (by decide) (fun hc => ?_) (fun hc => ?_)
                  · have h := ite_t hc h
                    refine lv_iinc (v := (v7 + (1 : Int32))) (lv' := [(7, .int (v7 + (1 : Int32))), (0, .ref (a 0)), (1, .int x0), (2, .int v2), (3, .int v3), (4, .int v4), (5, .int v5), (6, .int v6)]) hx hb dX7_ask_179 hl (k := 7) rfl rfl (by decide) rfl (fun ls hl => ?_)
                    refine lv_goto (tgt := 75) hx hb dX7_ask_182 (by decide) ?_
                    exact ih75 v2 v3 v5 v6 (v7 + (1 : Int32)) g75 _ _ _ hP hS (lv_sub hl [1, 2, 3, 4, 5, 6, 7, 0] rfl) h
                  · have h := ite_f hc h
                    refine lv_aload_n hx hb dX7_ask_95 rfl (lv_at hl 0 rfl) ?_
                    refine lv_iload hx hb dX7_ask_96 (lv_at hl 7 rfl) ?_
                    obtain ⟨r98, g98, hcal, h⟩ := bnd2_s h
                    refine x_VI (As := [.int v7]) hx hb hml hown hts hK hP hS (ct_X7_isAnswer l D a cA cT hI g75 v7 r98 g98 hcal) tM_0 (C := RX7) (F := TX7) (N := 18) rfl (g_V q980 q981 q65 q77 q982) yd_X7_isAnswer ⟨Nat.le_of_ble_eq_true rfl, Nat.le_of_ble_eq_true rfl⟩ [] rfl (Nat.le_of_ble_eq_true rfl) hl.1 ⟨Nat.le_refl _, Nat.le_refl _⟩ dX7_ask_98 (fun H locs hP hS => ?_)
                    refine lv_istore (lv' := [(8, .int r98), (0, .ref (a 0)), (1, .int x0), (2, .int v2), (3, .int v3), (4, .int v4), (5, .int v5), (6, .int v6), (7, .int v7)]) hx hb dX7_ask_101 hl (by decide) rfl (fun ls hl => ?_)
                    refine lv_iload_n hx hb dX7_ask_103 rfl (lv_at hl 3 rfl) ?_
                    refine lv_iload hx hb dX7_ask_104 (lv_at hl 0 rfl) ?_
                    refine lv_if_eq (tgt := 113) hx hb dX7_ask_106 (by decide) (fun hc => ?_) (fun hc => ?_)
                    · have h := ite_t hc h
                      refine lv_iconst (v := (0 : Int32)) hx hb dX7_ask_113 (by decide) ?_
                      exact J114 v3 v5 v6 v7 r98 v2 (0 : Int32) g98 _ _ _ hP hS (lv_sub hl [1, 2, 4, 5, 6, 7, 8, 0] rfl) h
                    · have h := ite_f hc h
                      refine lv_iconst (v := (1 : Int32)) hx hb dX7_ask_109 (by decide) ?_
                      refine lv_goto (tgt := 114) hx hb dX7_ask_110 (by decide) ?_
                      exact J114 v3 v5 v6 v7 r98 v2 (1 : Int32) g98 _ _ _ hP hS (lv_sub hl [1, 2, 4, 5, 6, 7, 8, 0] rfl) h
            exact K75 fuelN (0 : Int32) (0 : Int32) (0 : Int32) (0 : Int32) (0 : Int32) g28 _ _ _ hP hS (lv_sub hl [1, 2, 3, 4, 5, 6, 7, 0] rfl) h
          · have h := ite_f hc h
            refine lv_iload hx hb dX7_ask_54 (lv_at hl 4 rfl) ?_
            refine lv_aload_n hx hb dX7_ask_56 rfl (lv_at hl 0 rfl) ?_
            refine x_getr hx hb hts inX7 hown hK hP tM_0 (C := RX7) (F := TX7) (N := 18) rfl 14 (by decide) q772 rfl 11 rfl dX7_ask_57 ?_
            refine lv_iload hx hb dX7_ask_60 (lv_at hl 7 rfl) ?_
            obtain ⟨hz, h⟩ := ite_n h
            refine x_ald hx hb hK hP tM_11 hz dX7_ask_62 ?_
            refine lv_iadd hx hb dX7_ask_63 ?_
            refine lv_istore (lv' := [(4, .int (v4 + (g28.1 11 v7.toNatClampNeg))), (0, .ref (a 0)), (1, .int x0), (2, .int (0 : Int32)), (3, .int (0 : Int32)), (5, .int (0 : Int32)), (6, .int (0 : Int32)), (7, .int v7)]) hx hb dX7_ask_64 hl (by decide) rfl (fun ls hl => ?_)
            refine lv_iinc (v := (v7 + (1 : Int32))) (lv' := [(7, .int (v7 + (1 : Int32))), (4, .int (v4 + (g28.1 11 v7.toNatClampNeg))), (0, .ref (a 0)), (1, .int x0), (2, .int (0 : Int32)), (3, .int (0 : Int32)), (5, .int (0 : Int32)), (6, .int (0 : Int32))]) hx hb dX7_ask_66 hl (k := 7) rfl rfl (by decide) rfl (fun ls hl => ?_)
            refine lv_goto (tgt := 47) hx hb dX7_ask_69 (by decide) ?_
            exact ih47 (v4 + (g28.1 11 v7.toNatClampNeg)) (v7 + (1 : Int32)) _ _ _ hP hS (lv_sub hl [2, 3, 4, 5, 1, 6, 7, 0] rfl) h
      exact K47 fuelN (0 : Int32) (0 : Int32) _ _ _ hP hS (lv_sub hl [6, 7, 5, 4, 3, 2, 1, 0] rfl) h
    · have h := ite_t hc h
      refine lv_sipush (v := (-1002 : Int32)) hx hb dX7_ask_23 (by decide) ?_
      obtain ⟨rfl, rfl⟩ := Prod.mk.inj (Option.some.inj h)
      exact hend _ _ _ _ dX7_ask_26 rfl hP hS
  · have h := ite_f hc h
    refine lv_sipush (v := (-1001 : Int32)) hx hb dX7_ask_10 (by decide) ?_
    obtain ⟨rfl, rfl⟩ := Prod.mk.inj (Option.some.inj h)
    exact hend _ _ _ _ dX7_ask_13 rfl hP hS
set_option maxHeartbeats 4000000 in
set_option maxRecDepth 100000 in
theorem ct_X7_answer (l : Launch) (D : va_G) (a : Nat → Nat) (cA cT : ClassId) (hI : WI a TM) (g : MG) (x0 : Int32)  (r : Int32) (g' : MG) (h : m_X7_answer g x0 = some (r, g')) :
    CtI l D a cA cT TM yX7_answer (Cond.code yX7_answer cX7_answer 4 (some .int) :: lw_all) (rmm 6 132) [.ref (a 0), .int x0] g r g' := by
  refine CtI.of (by decide +kernel) (Nat.le_of_ble_eq_true rfl) ?_
  intro p e s m args below meth c Q ls hx hb hml hown hts hK hP hS hl hend
  have hl : lv_has ls 4 [(0, .ref (a 0)), (1, .int x0)] := hl
  unfold m_X7_answer at h
  refine lv_aload_n hx hb dX7_answer_0 rfl (lv_at hl 0 rfl) ?_
  obtain ⟨r1, g1, hcal, h⟩ := bnd2_s h
  refine x_VI (As := []) hx hb hml hown hts hK hP hS (ct_X7_read l D a cA cT hI g r1 g1 hcal) tM_0 (C := RX7) (F := TX7) (N := 18) rfl (g_V q919 q920 q52 q77 q921) yd_X7_read ⟨Nat.le_of_ble_eq_true rfl, Nat.le_of_ble_eq_true rfl⟩ [] rfl (Nat.le_of_ble_eq_true rfl) hl.1 ⟨Nat.le_refl _, Nat.le_refl _⟩ dX7_answer_1 (fun H locs hP hS => ?_)
  refine lv_sipush (v := (-1005 : Int32)) hx hb dX7_answer_4 (by decide) ?_
  refine lv_icmp_eq (tgt := 14) hx hb dX7_answer_7 (by decide) (fun hc => ?_) (fun hc => ?_)
  · have h := ite_t hc h
    refine lv_iload_n hx hb dX7_answer_14 rfl (lv_at hl 1 rfl) ?_
    refine lv_if_ge (tgt := 22) hx hb dX7_answer_15 (by decide) (fun hc => ?_) (fun hc => ?_)
    · have h := ite_t hc h
      refine lv_aload_n hx hb dX7_answer_22 rfl (lv_at hl 0 rfl) ?_
      obtain ⟨g23, hcal, h⟩ := bnd_s h
      refine x_VV (As := []) hx hb hml hown hts hK hP hS (ct_X7_look l D a cA cT hI g1 g23 hcal) tM_0 (C := RX7) (F := TX7) (N := 18) rfl (g_V q953 q954 q58 q77 q955) yd_X7_look ⟨Nat.le_of_ble_eq_true rfl, Nat.le_of_ble_eq_true rfl⟩ [] rfl (Nat.le_of_ble_eq_true rfl) hl.1 ⟨Nat.le_refl _, Nat.le_refl _⟩ dX7_answer_23 (fun H locs hP hS => ?_)
      refine lv_iload_n hx hb dX7_answer_26 rfl (lv_at hl 1 rfl) ?_
      refine lv_istore_n (lv' := [(2, .int x0), (0, .ref (a 0)), (1, .int x0)]) hx hb dX7_answer_27 rfl hl (by decide) rfl (fun ls hl => ?_)
      refine lv_iconst (v := (0 : Int32)) hx hb dX7_answer_28 (by decide) ?_
      refine lv_istore_n (lv' := [(3, .int (0 : Int32)), (2, .int x0), (0, .ref (a 0)), (1, .int x0)]) hx hb dX7_answer_29 rfl hl (by decide) rfl (fun ls hl => ?_)
      have K30 : ∀ (n30 : Nat) (v2 : Int32) (v3 : Int32) (g30 : MG) (H : Heap) (locs : List Loc) (ls : Array Slot), WP D a cA cT TM g30 H → va_S (AA a TM) s.heap H locs → lv_has ls 4 [(0, .ref (a 0)), (2, .int v2), (3, .int v3)] → lpo (b_X7_answer_L30 x0) n30 (v2, v3, g30) = some (r, g') → W p l e (rmm 6 132) s m args below meth c H locs 0 0 Q (F0 m 30 ls []) := by
        intro n30
        induction n30 with
        | zero => intro v2 v3 g30 H locs ls hP hS hl h; exact (lpo_0 h).elim
        | succ n30 ih30 =>
          intro v2 v3 g30 H locs ls hP hS hl h
          have h : m_X7_answer_L30 (lpo (b_X7_answer_L30 x0) n30) x0 v2 v3 g30 = some (r, g') := h
          unfold m_X7_answer_L30 at h
          refine lv_iload_n hx hb dX7_answer_30 rfl (lv_at hl 2 rfl) ?_
          refine lv_aload_n hx hb dX7_answer_31 rfl (lv_at hl 0 rfl) ?_
          refine x_getr hx hb hts inX7 hown hK hP tM_0 (C := RX7) (F := TX7) (N := 18) rfl 0 (by decide) q758 rfl 1 rfl dX7_answer_32 ?_
          refine lv_iconst (v := (0 : Int32)) hx hb dX7_answer_35 (by decide) ?_
          obtain ⟨hz, h⟩ := ite_n h
          refine x_ald hx hb hK hP tM_1 hz dX7_answer_36 ?_
          refine lv_icmp_ge (tgt := 63) hx hb dX7_answer_37 (by decide) (fun hc => ?_) (fun hc => ?_)
          · have h := ite_t hc h
            refine lv_sipush (v := (-1005 : Int32)) hx hb dX7_answer_63 (by decide) ?_
            obtain ⟨rfl, rfl⟩ := Prod.mk.inj (Option.some.inj h)
            exact hend _ _ _ _ dX7_answer_66 rfl hP hS
          · have h := ite_f hc h
            refine lv_aload_n hx hb dX7_answer_40 rfl (lv_at hl 0 rfl) ?_
            refine lv_iload_n hx hb dX7_answer_41 rfl (lv_at hl 2 rfl) ?_
            obtain ⟨r42, g42, hcal, h⟩ := bnd2_s h
            refine x_VI (As := [.int v3]) hx hb hml hown hts hK hP hS (ct_X7_isAnswer l D a cA cT hI g30 v3 r42 g42 hcal) tM_0 (C := RX7) (F := TX7) (N := 18) rfl (g_V q980 q981 q65 q77 q982) yd_X7_isAnswer ⟨Nat.le_of_ble_eq_true rfl, Nat.le_of_ble_eq_true rfl⟩ [] rfl (Nat.le_of_ble_eq_true rfl) hl.1 ⟨Nat.le_refl _, Nat.le_refl _⟩ dX7_answer_42 (fun H locs hP hS => ?_)
            refine lv_if_eq (tgt := 57) hx hb dX7_answer_45 (by decide) (fun hc => ?_) (fun hc => ?_)
            · have h := ite_t hc h
              refine lv_iinc (v := (v3 + (1 : Int32))) (lv' := [(3, .int (v3 + (1 : Int32))), (0, .ref (a 0)), (2, .int v2)]) hx hb dX7_answer_57 hl (k := 2) rfl rfl (by decide) rfl (fun ls hl => ?_)
              refine lv_goto (tgt := 30) hx hb dX7_answer_60 (by decide) ?_
              exact ih30 v2 (v3 + (1 : Int32)) g42 _ _ _ hP hS (lv_sub hl [1, 2, 0] rfl) h
            · have h := ite_f hc h
              refine lv_iload_n hx hb dX7_answer_48 rfl (lv_at hl 1 rfl) ?_
              refine lv_if_ne (tgt := 54) hx hb dX7_answer_49 (by decide) (fun hc => ?_) (fun hc => ?_)
              · have h := ite_f hc h
                refine lv_iinc (v := (v2 + (-1 : Int32))) (lv' := [(2, .int (v2 + (-1 : Int32))), (0, .ref (a 0)), (3, .int v3)]) hx hb dX7_answer_54 hl (k := 1) rfl rfl (by decide) rfl (fun ls hl => ?_)
                refine lv_iinc (v := (v3 + (1 : Int32))) (lv' := [(3, .int (v3 + (1 : Int32))), (2, .int (v2 + (-1 : Int32))), (0, .ref (a 0))]) hx hb dX7_answer_57 hl (k := 2) rfl rfl (by decide) rfl (fun ls hl => ?_)
                refine lv_goto (tgt := 30) hx hb dX7_answer_60 (by decide) ?_
                exact ih30 (v2 + (-1 : Int32)) (v3 + (1 : Int32)) g42 _ _ _ hP hS (lv_sub hl [2, 1, 0] rfl) h
              · have h := ite_t hc h
                refine lv_iload_n hx hb dX7_answer_52 rfl (lv_at hl 2 rfl) ?_
                obtain ⟨rfl, rfl⟩ := Prod.mk.inj (Option.some.inj h)
                exact hend _ _ _ _ dX7_answer_53 rfl hP hS
      exact K30 fuelN x0 (0 : Int32) g23 _ _ _ hP hS (lv_sub hl [2, 1, 0] rfl) h
    · have h := ite_f hc h
      refine lv_sipush (v := (-1002 : Int32)) hx hb dX7_answer_18 (by decide) ?_
      obtain ⟨rfl, rfl⟩ := Prod.mk.inj (Option.some.inj h)
      exact hend _ _ _ _ dX7_answer_21 rfl hP hS
  · have h := ite_f hc h
    refine lv_sipush (v := (-1001 : Int32)) hx hb dX7_answer_10 (by decide) ?_
    obtain ⟨rfl, rfl⟩ := Prod.mk.inj (Option.some.inj h)
    exact hend _ _ _ _ dX7_answer_13 rfl hP hS
set_option maxHeartbeats 4000000 in
set_option maxRecDepth 100000 in
theorem ct_X7_looksInto (l : Launch) (D : va_G) (a : Nat → Nat) (cA cT : ClassId) (hI : WI a TM) (g : MG) (x0 : Int32) (x1 : Int32)  (r : Int32) (g' : MG) (h : m_X7_looksInto g x0 x1 = some (r, g')) :
    CtI l D a cA cT TM yX7_looksInto (Cond.code yX7_looksInto cX7_looksInto 3 (some .int) :: lw_all) (rmm 5 111) [.ref (a 0), .int x0, .int x1] g r g' := by
  refine CtI.of (by decide +kernel) (Nat.le_of_ble_eq_true rfl) ?_
  intro p e s m args below meth c Q ls hx hb hml hown hts hK hP hS hl hend
  have hl : lv_has ls 3 [(0, .ref (a 0)), (1, .int x0), (2, .int x1)] := hl
  unfold m_X7_looksInto at h
  refine lv_iload_n hx hb dX7_looksInto_0 rfl (lv_at hl 1 rfl) ?_
  refine lv_bipush (v := (60 : Int32)) hx hb dX7_looksInto_1 (by decide) ?_
  refine lv_icmp_eq (tgt := 14) hx hb dX7_looksInto_3 (by decide) (fun hc => ?_) (fun hc => ?_)
  · have h := ite_t hc h
    refine lv_aload_n hx hb dX7_looksInto_14 rfl (lv_at hl 0 rfl) ?_
    obtain ⟨r15, g15, hcal, h⟩ := bnd2_s h
    refine x_VI (As := []) hx hb hml hown hts hK hP hS (ct_X7_read l D a cA cT hI g r15 g15 hcal) tM_0 (C := RX7) (F := TX7) (N := 18) rfl (g_V q919 q920 q52 q77 q921) yd_X7_read ⟨Nat.le_of_ble_eq_true rfl, Nat.le_of_ble_eq_true rfl⟩ [] rfl (Nat.le_of_ble_eq_true rfl) hl.1 ⟨Nat.le_refl _, Nat.le_refl _⟩ dX7_looksInto_15 (fun H locs hP hS => ?_)
    refine lv_sipush (v := (-1005 : Int32)) hx hb dX7_looksInto_18 (by decide) ?_
    refine lv_icmp_eq (tgt := 28) hx hb dX7_looksInto_21 (by decide) (fun hc => ?_) (fun hc => ?_)
    · have h := ite_t hc h
      refine lv_iload_n hx hb dX7_looksInto_28 rfl (lv_at hl 2 rfl) ?_
      refine lv_iconst (v := (0 : Int32)) hx hb dX7_looksInto_29 (by decide) ?_
      refine lv_iconst (v := (2 : Int32)) hx hb dX7_looksInto_30 (by decide) ?_
      obtain ⟨r31, hcal, h⟩ := bnd_s h
      refine x_SI (As := [.int x1, .int (0 : Int32), .int (2 : Int32)]) hx hb hml hown hts hK hP hS (ct_X7_in l D a cA cT hI g15 x1 (0 : Int32) (2 : Int32) r31 hcal) (g_S q798 q799 q77 q800) yd_X7_in ⟨Nat.le_of_ble_eq_true rfl, Nat.le_of_ble_eq_true rfl⟩ [] rfl (Nat.le_of_ble_eq_true rfl) hl.1 ⟨Nat.le_refl _, Nat.le_refl _⟩ dX7_looksInto_31 (fun H locs hP hS => ?_)
      refine lv_if_ne (tgt := 41) hx hb dX7_looksInto_34 (by decide) (fun hc => ?_) (fun hc => ?_)
      · have h := ite_f hc h
        refine lv_aload_n hx hb dX7_looksInto_41 rfl (lv_at hl 0 rfl) ?_
        refine lv_iload_n hx hb dX7_looksInto_42 rfl (lv_at hl 1 rfl) ?_
        refine lv_iload_n hx hb dX7_looksInto_43 rfl (lv_at hl 2 rfl) ?_
        obtain ⟨r44, g44, hcal, h⟩ := bnd2_s h
        refine x_VI (As := [.int x0, .int x1]) hx hb hml hown hts hK hP hS (ct_X7_looks l D a cA cT hI g15 x0 x1 r44 g44 hcal) tM_0 (C := RX7) (F := TX7) (N := 18) rfl (g_V q956 q957 q59 q77 q958) yd_X7_looks ⟨Nat.le_of_ble_eq_true rfl, Nat.le_of_ble_eq_true rfl⟩ [] rfl (Nat.le_of_ble_eq_true rfl) hl.1 ⟨Nat.le_refl _, Nat.le_refl _⟩ dX7_looksInto_44 (fun H locs hP hS => ?_)
        refine lv_if_eq (tgt := 54) hx hb dX7_looksInto_47 (by decide) (fun hc => ?_) (fun hc => ?_)
        · have h := ite_t hc h
          refine lv_iconst (v := (0 : Int32)) hx hb dX7_looksInto_54 (by decide) ?_
          obtain ⟨rfl, rfl⟩ := Prod.mk.inj (Option.some.inj h)
          exact hend _ _ _ _ dX7_looksInto_55 rfl hP hS
        · have h := ite_f hc h
          refine lv_iconst (v := (1 : Int32)) hx hb dX7_looksInto_50 (by decide) ?_
          refine lv_goto (tgt := 55) hx hb dX7_looksInto_51 (by decide) ?_
          obtain ⟨rfl, rfl⟩ := Prod.mk.inj (Option.some.inj h)
          exact hend _ _ _ _ dX7_looksInto_55 rfl hP hS
      · have h := ite_t hc h
        refine lv_sipush (v := (-1002 : Int32)) hx hb dX7_looksInto_37 (by decide) ?_
        obtain ⟨rfl, rfl⟩ := Prod.mk.inj (Option.some.inj h)
        exact hend _ _ _ _ dX7_looksInto_40 rfl hP hS
    · have h := ite_f hc h
      refine lv_sipush (v := (-1001 : Int32)) hx hb dX7_looksInto_24 (by decide) ?_
      obtain ⟨rfl, rfl⟩ := Prod.mk.inj (Option.some.inj h)
      exact hend _ _ _ _ dX7_looksInto_27 rfl hP hS
  · have h := ite_f hc h
    refine lv_aload_n hx hb dX7_looksInto_6 rfl (lv_at hl 0 rfl) ?_
    refine lv_iload_n hx hb dX7_looksInto_7 rfl (lv_at hl 1 rfl) ?_
    obtain ⟨r8, hcal, h⟩ := bnd_s h
    refine x_VI (As := [.int x0]) hx hb hml hown hts hK hP hS (ct_X7_isSlice l D a cA cT hI g x0 r8 hcal) tM_0 (C := RX7) (F := TX7) (N := 18) rfl (g_V q807 q808 q36 q77 q809) yd_X7_isSlice ⟨Nat.le_of_ble_eq_true rfl, Nat.le_of_ble_eq_true rfl⟩ [] rfl (Nat.le_of_ble_eq_true rfl) hl.1 ⟨Nat.le_refl _, Nat.le_refl _⟩ dX7_looksInto_8 (fun H locs hP hS => ?_)
    refine lv_if_eq (tgt := 24) hx hb dX7_looksInto_11 (by decide) (fun hc => ?_) (fun hc => ?_)
    · have h := ite_t hc h
      refine lv_sipush (v := (-1001 : Int32)) hx hb dX7_looksInto_24 (by decide) ?_
      obtain ⟨rfl, rfl⟩ := Prod.mk.inj (Option.some.inj h)
      exact hend _ _ _ _ dX7_looksInto_27 rfl hP hS
    · have h := ite_f hc h
      refine lv_aload_n hx hb dX7_looksInto_14 rfl (lv_at hl 0 rfl) ?_
      obtain ⟨r15, g15, hcal, h⟩ := bnd2_s h
      refine x_VI (As := []) hx hb hml hown hts hK hP hS (ct_X7_read l D a cA cT hI g r15 g15 hcal) tM_0 (C := RX7) (F := TX7) (N := 18) rfl (g_V q919 q920 q52 q77 q921) yd_X7_read ⟨Nat.le_of_ble_eq_true rfl, Nat.le_of_ble_eq_true rfl⟩ [] rfl (Nat.le_of_ble_eq_true rfl) hl.1 ⟨Nat.le_refl _, Nat.le_refl _⟩ dX7_looksInto_15 (fun H locs hP hS => ?_)
      refine lv_sipush (v := (-1005 : Int32)) hx hb dX7_looksInto_18 (by decide) ?_
      refine lv_icmp_eq (tgt := 28) hx hb dX7_looksInto_21 (by decide) (fun hc => ?_) (fun hc => ?_)
      · have h := ite_t hc h
        refine lv_iload_n hx hb dX7_looksInto_28 rfl (lv_at hl 2 rfl) ?_
        refine lv_iconst (v := (0 : Int32)) hx hb dX7_looksInto_29 (by decide) ?_
        refine lv_iconst (v := (2 : Int32)) hx hb dX7_looksInto_30 (by decide) ?_
        obtain ⟨r31, hcal, h⟩ := bnd_s h
        refine x_SI (As := [.int x1, .int (0 : Int32), .int (2 : Int32)]) hx hb hml hown hts hK hP hS (ct_X7_in l D a cA cT hI g15 x1 (0 : Int32) (2 : Int32) r31 hcal) (g_S q798 q799 q77 q800) yd_X7_in ⟨Nat.le_of_ble_eq_true rfl, Nat.le_of_ble_eq_true rfl⟩ [] rfl (Nat.le_of_ble_eq_true rfl) hl.1 ⟨Nat.le_refl _, Nat.le_refl _⟩ dX7_looksInto_31 (fun H locs hP hS => ?_)
        refine lv_if_ne (tgt := 41) hx hb dX7_looksInto_34 (by decide) (fun hc => ?_) (fun hc => ?_)
        · have h := ite_f hc h
          refine lv_aload_n hx hb dX7_looksInto_41 rfl (lv_at hl 0 rfl) ?_
          refine lv_iload_n hx hb dX7_looksInto_42 rfl (lv_at hl 1 rfl) ?_
          refine lv_iload_n hx hb dX7_looksInto_43 rfl (lv_at hl 2 rfl) ?_
          obtain ⟨r44, g44, hcal, h⟩ := bnd2_s h
          refine x_VI (As := [.int x0, .int x1]) hx hb hml hown hts hK hP hS (ct_X7_looks l D a cA cT hI g15 x0 x1 r44 g44 hcal) tM_0 (C := RX7) (F := TX7) (N := 18) rfl (g_V q956 q957 q59 q77 q958) yd_X7_looks ⟨Nat.le_of_ble_eq_true rfl, Nat.le_of_ble_eq_true rfl⟩ [] rfl (Nat.le_of_ble_eq_true rfl) hl.1 ⟨Nat.le_refl _, Nat.le_refl _⟩ dX7_looksInto_44 (fun H locs hP hS => ?_)
          refine lv_if_eq (tgt := 54) hx hb dX7_looksInto_47 (by decide) (fun hc => ?_) (fun hc => ?_)
          · have h := ite_t hc h
            refine lv_iconst (v := (0 : Int32)) hx hb dX7_looksInto_54 (by decide) ?_
            obtain ⟨rfl, rfl⟩ := Prod.mk.inj (Option.some.inj h)
            exact hend _ _ _ _ dX7_looksInto_55 rfl hP hS
          · have h := ite_f hc h
            refine lv_iconst (v := (1 : Int32)) hx hb dX7_looksInto_50 (by decide) ?_
            refine lv_goto (tgt := 55) hx hb dX7_looksInto_51 (by decide) ?_
            obtain ⟨rfl, rfl⟩ := Prod.mk.inj (Option.some.inj h)
            exact hend _ _ _ _ dX7_looksInto_55 rfl hP hS
        · have h := ite_t hc h
          refine lv_sipush (v := (-1002 : Int32)) hx hb dX7_looksInto_37 (by decide) ?_
          obtain ⟨rfl, rfl⟩ := Prod.mk.inj (Option.some.inj h)
          exact hend _ _ _ _ dX7_looksInto_40 rfl hP hS
      · have h := ite_f hc h
        refine lv_sipush (v := (-1001 : Int32)) hx hb dX7_looksInto_24 (by decide) ?_
        obtain ⟨rfl, rfl⟩ := Prod.mk.inj (Option.some.inj h)
        exact hend _ _ _ _ dX7_looksInto_27 rfl hP hS
set_option maxHeartbeats 4000000 in
set_option maxRecDepth 100000 in
theorem ct_X7_passes (l : Launch) (D : va_G) (a : Nat → Nat) (cA cT : ClassId) (hI : WI a TM) (g : MG) (x0 : Int32)  (r : Int32) (g' : MG) (h : m_X7_passes g x0 = some (r, g')) :
    CtI l D a cA cT TM yX7_passes (Cond.code yX7_passes cX7_passes 2 (some .int) :: lw_all) (rmm 4 93) [.ref (a 0), .int x0] g r g' := by
  refine CtI.of (by decide +kernel) (Nat.le_of_ble_eq_true rfl) ?_
  intro p e s m args below meth c Q ls hx hb hml hown hts hK hP hS hl hend
  have hl : lv_has ls 2 [(0, .ref (a 0)), (1, .int x0)] := hl
  unfold m_X7_passes at h
  refine lv_aload_n hx hb dX7_passes_0 rfl (lv_at hl 0 rfl) ?_
  refine lv_iload_n hx hb dX7_passes_1 rfl (lv_at hl 1 rfl) ?_
  obtain ⟨r2, hcal, h⟩ := bnd_s h
  refine x_VI (As := [.int x0]) hx hb hml hown hts hK hP hS (ct_X7_isRow l D a cA cT hI g x0 r2 hcal) tM_0 (C := RX7) (F := TX7) (N := 18) rfl (g_V q830 q831 q41 q77 q832) yd_X7_isRow ⟨Nat.le_of_ble_eq_true rfl, Nat.le_of_ble_eq_true rfl⟩ [] rfl (Nat.le_of_ble_eq_true rfl) hl.1 ⟨Nat.le_refl _, Nat.le_refl _⟩ dX7_passes_2 (fun H locs hP hS => ?_)
  refine lv_if_eq (tgt := 18) hx hb dX7_passes_5 (by decide) (fun hc => ?_) (fun hc => ?_)
  · have h := ite_t hc h
    refine lv_sipush (v := (-1001 : Int32)) hx hb dX7_passes_18 (by decide) ?_
    obtain ⟨rfl, rfl⟩ := Prod.mk.inj (Option.some.inj h)
    exact hend _ _ _ _ dX7_passes_21 rfl hP hS
  · have h := ite_f hc h
    refine lv_aload_n hx hb dX7_passes_8 rfl (lv_at hl 0 rfl) ?_
    obtain ⟨r9, g9, hcal, h⟩ := bnd2_s h
    refine x_VI (As := []) hx hb hml hown hts hK hP hS (ct_X7_read l D a cA cT hI g r9 g9 hcal) tM_0 (C := RX7) (F := TX7) (N := 18) rfl (g_V q919 q920 q52 q77 q921) yd_X7_read ⟨Nat.le_of_ble_eq_true rfl, Nat.le_of_ble_eq_true rfl⟩ [] rfl (Nat.le_of_ble_eq_true rfl) hl.1 ⟨Nat.le_refl _, Nat.le_refl _⟩ dX7_passes_9 (fun H locs hP hS => ?_)
    refine lv_sipush (v := (-1005 : Int32)) hx hb dX7_passes_12 (by decide) ?_
    refine lv_icmp_eq (tgt := 22) hx hb dX7_passes_15 (by decide) (fun hc => ?_) (fun hc => ?_)
    · have h := ite_t hc h
      refine lv_aload_n hx hb dX7_passes_22 rfl (lv_at hl 0 rfl) ?_
      refine lv_iload_n hx hb dX7_passes_23 rfl (lv_at hl 1 rfl) ?_
      obtain ⟨r24, g24, hcal, h⟩ := bnd2_s h
      refine x_VI (As := [.int x0]) hx hb hml hown hts hK hP hS (ct_X7_isPassed l D a cA cT hI g9 x0 r24 g24 hcal) tM_0 (C := RX7) (F := TX7) (N := 18) rfl (g_V q983 q984 q66 q77 q985) yd_X7_isPassed ⟨Nat.le_of_ble_eq_true rfl, Nat.le_of_ble_eq_true rfl⟩ [] rfl (Nat.le_of_ble_eq_true rfl) hl.1 ⟨Nat.le_refl _, Nat.le_refl _⟩ dX7_passes_24 (fun H locs hP hS => ?_)
      refine lv_if_eq (tgt := 34) hx hb dX7_passes_27 (by decide) (fun hc => ?_) (fun hc => ?_)
      · have h := ite_t hc h
        refine lv_iconst (v := (0 : Int32)) hx hb dX7_passes_34 (by decide) ?_
        obtain ⟨rfl, rfl⟩ := Prod.mk.inj (Option.some.inj h)
        exact hend _ _ _ _ dX7_passes_35 rfl hP hS
      · have h := ite_f hc h
        refine lv_iconst (v := (1 : Int32)) hx hb dX7_passes_30 (by decide) ?_
        refine lv_goto (tgt := 35) hx hb dX7_passes_31 (by decide) ?_
        obtain ⟨rfl, rfl⟩ := Prod.mk.inj (Option.some.inj h)
        exact hend _ _ _ _ dX7_passes_35 rfl hP hS
    · have h := ite_f hc h
      refine lv_sipush (v := (-1001 : Int32)) hx hb dX7_passes_18 (by decide) ?_
      obtain ⟨rfl, rfl⟩ := Prod.mk.inj (Option.some.inj h)
      exact hend _ _ _ _ dX7_passes_21 rfl hP hS
set_option maxHeartbeats 4000000 in
set_option maxRecDepth 100000 in
theorem ct_X7_row (l : Launch) (D : va_G) (a : Nat → Nat) (cA cT : ClassId) (hI : WI a TM) (g : MG) (x0 : Int32) (x1 : Int32)  (r : Int32) (h : m_X7_row g x0 x1 = some r) :
    CtI l D a cA cT TM yX7_row (Cond.code yX7_row cX7_row 3 (some .int) :: lw_all) (rmm 5 110) [.ref (a 0), .int x0, .int x1] g r g := by
  refine CtI.of (by decide +kernel) (Nat.le_of_ble_eq_true rfl) ?_
  intro p e s m args below meth c Q ls hx hb hml hown hts hK hP hS hl hend
  have hl : lv_has ls 3 [(0, .ref (a 0)), (1, .int x0), (2, .int x1)] := hl
  unfold m_X7_row at h
  refine lv_aload_n hx hb dX7_row_0 rfl (lv_at hl 0 rfl) ?_
  refine lv_iload_n hx hb dX7_row_1 rfl (lv_at hl 1 rfl) ?_
  obtain ⟨r2, hcal, h⟩ := bnd_s h
  refine x_VI (As := [.int x0]) hx hb hml hown hts hK hP hS (ct_X7_isRow l D a cA cT hI g x0 r2 hcal) tM_0 (C := RX7) (F := TX7) (N := 18) rfl (g_V q830 q831 q41 q77 q832) yd_X7_isRow ⟨Nat.le_of_ble_eq_true rfl, Nat.le_of_ble_eq_true rfl⟩ [] rfl (Nat.le_of_ble_eq_true rfl) hl.1 ⟨Nat.le_refl _, Nat.le_refl _⟩ dX7_row_2 (fun H locs hP hS => ?_)
  refine lv_if_ne (tgt := 12) hx hb dX7_row_5 (by decide) (fun hc => ?_) (fun hc => ?_)
  · have h := ite_f hc h
    refine lv_iload_n hx hb dX7_row_12 rfl (lv_at hl 2 rfl) ?_
    by_cases hs0 : x1 = (0 : Int32)
    · have h := ite_t hs0 h
      refine lv_tableIn (off := 35) (tgt := 48) hx hb dX7_row_13 (by rw [hs0]; decide) (by rw [hs0]; decide) (by rw [hs0]; rfl) (by decide) ?_
      refine lv_aload_n hx hb dX7_row_48 rfl (lv_at hl 0 rfl) ?_
      refine x_getr hx hb hts inX7 hown hK hP tM_0 (C := RX7) (F := TX7) (N := 18) rfl 0 (by decide) q758 rfl 1 rfl dX7_row_49 ?_
      refine lv_iconst (v := (5 : Int32)) hx hb dX7_row_52 (by decide) ?_
      refine lv_iload_n hx hb dX7_row_53 rfl (lv_at hl 1 rfl) ?_
      refine lv_iadd hx hb dX7_row_54 ?_
      obtain ⟨hz, h⟩ := ite_n h
      refine x_ald hx hb hK hP tM_1 hz dX7_row_55 ?_
      obtain rfl := Option.some.inj h
      exact hend _ _ _ _ dX7_row_56 rfl hP hS
    have h := ite_f hs0 h
    by_cases hs1 : x1 = (1 : Int32)
    · have h := ite_t hs1 h
      refine lv_tableIn (off := 44) (tgt := 57) hx hb dX7_row_13 (by rw [hs1]; decide) (by rw [hs1]; decide) (by rw [hs1]; rfl) (by decide) ?_
      refine lv_aload_n hx hb dX7_row_57 rfl (lv_at hl 0 rfl) ?_
      refine x_getr hx hb hts inX7 hown hK hP tM_0 (C := RX7) (F := TX7) (N := 18) rfl 0 (by decide) q758 rfl 1 rfl dX7_row_58 ?_
      refine lv_sipush (v := (405 : Int32)) hx hb dX7_row_61 (by decide) ?_
      refine lv_iload_n hx hb dX7_row_64 rfl (lv_at hl 1 rfl) ?_
      refine lv_iadd hx hb dX7_row_65 ?_
      obtain ⟨hz, h⟩ := ite_n h
      refine x_ald hx hb hK hP tM_1 hz dX7_row_66 ?_
      obtain rfl := Option.some.inj h
      exact hend _ _ _ _ dX7_row_67 rfl hP hS
    have h := ite_f hs1 h
    by_cases hs2 : x1 = (2 : Int32)
    · have h := ite_t hs2 h
      refine lv_tableIn (off := 55) (tgt := 68) hx hb dX7_row_13 (by rw [hs2]; decide) (by rw [hs2]; decide) (by rw [hs2]; rfl) (by decide) ?_
      refine lv_aload_n hx hb dX7_row_68 rfl (lv_at hl 0 rfl) ?_
      refine x_getr hx hb hts inX7 hown hK hP tM_0 (C := RX7) (F := TX7) (N := 18) rfl 0 (by decide) q758 rfl 1 rfl dX7_row_69 ?_
      refine lv_sipush (v := (805 : Int32)) hx hb dX7_row_72 (by decide) ?_
      refine lv_iload_n hx hb dX7_row_75 rfl (lv_at hl 1 rfl) ?_
      refine lv_iadd hx hb dX7_row_76 ?_
      obtain ⟨hz, h⟩ := ite_n h
      refine x_ald hx hb hK hP tM_1 hz dX7_row_77 ?_
      obtain rfl := Option.some.inj h
      exact hend _ _ _ _ dX7_row_78 rfl hP hS
    have h := ite_f hs2 h
    by_cases hs3 : x1 = (3 : Int32)
    · have h := ite_t hs3 h
      refine lv_tableIn (off := 66) (tgt := 79) hx hb dX7_row_13 (by rw [hs3]; decide) (by rw [hs3]; decide) (by rw [hs3]; rfl) (by decide) ?_
      refine lv_aload_n hx hb dX7_row_79 rfl (lv_at hl 0 rfl) ?_
      refine lv_aload_n hx hb dX7_row_80 rfl (lv_at hl 0 rfl) ?_
      refine x_getr hx hb hts inX7 hown hK hP tM_0 (C := RX7) (F := TX7) (N := 18) rfl 0 (by decide) q758 rfl 1 rfl dX7_row_81 ?_
      refine lv_iconst (v := (5 : Int32)) hx hb dX7_row_84 (by decide) ?_
      refine lv_iload_n hx hb dX7_row_85 rfl (lv_at hl 1 rfl) ?_
      refine lv_iadd hx hb dX7_row_86 ?_
      obtain ⟨hz, h⟩ := ite_n h
      refine x_ald hx hb hK hP tM_1 hz dX7_row_87 ?_
      obtain ⟨r88, hcal, h⟩ := bnd_s h
      refine x_VI (As := [.int (g.1 1 ((5 : Int32) + x0).toNatClampNeg)]) hx hb hml hown hts hK hP hS (ct_X7_belongsTo l D a cA cT hI g (g.1 1 ((5 : Int32) + x0).toNatClampNeg) r88 hcal) tM_0 (C := RX7) (F := TX7) (N := 18) rfl (g_V q801 q802 q34 q77 q803) yd_X7_belongsTo ⟨Nat.le_of_ble_eq_true rfl, Nat.le_of_ble_eq_true rfl⟩ [] rfl (Nat.le_of_ble_eq_true rfl) hl.1 ⟨Nat.le_refl _, Nat.le_refl _⟩ dX7_row_88 (fun H locs hP hS => ?_)
      obtain rfl := Option.some.inj h
      exact hend _ _ _ _ dX7_row_91 rfl hP hS
    have h := ite_f hs3 h
    by_cases hs4 : x1 = (4 : Int32)
    · have h := ite_t hs4 h
      refine lv_tableIn (off := 79) (tgt := 92) hx hb dX7_row_13 (by rw [hs4]; decide) (by rw [hs4]; decide) (by rw [hs4]; rfl) (by decide) ?_
      refine lv_aload_n hx hb dX7_row_92 rfl (lv_at hl 0 rfl) ?_
      refine lv_iload_n hx hb dX7_row_93 rfl (lv_at hl 1 rfl) ?_
      obtain ⟨r94, hcal, h⟩ := bnd_s h
      refine x_VI (As := [.int x0]) hx hb hml hown hts hK hP hS (ct_X7_isStray l D a cA cT hI g x0 r94 hcal) tM_0 (C := RX7) (F := TX7) (N := 18) rfl (g_V q900 q901 q51 q77 q902) yd_X7_isStray ⟨Nat.le_of_ble_eq_true rfl, Nat.le_of_ble_eq_true rfl⟩ [] rfl (Nat.le_of_ble_eq_true rfl) hl.1 ⟨Nat.le_refl _, Nat.le_refl _⟩ dX7_row_94 (fun H locs hP hS => ?_)
      refine lv_if_eq (tgt := 104) hx hb dX7_row_97 (by decide) (fun hc => ?_) (fun hc => ?_)
      · have h := ite_t hc h
        refine lv_iconst (v := (0 : Int32)) hx hb dX7_row_104 (by decide) ?_
        obtain rfl := Option.some.inj h
        exact hend _ _ _ _ dX7_row_105 rfl hP hS
      · have h := ite_f hc h
        refine lv_iconst (v := (1 : Int32)) hx hb dX7_row_100 (by decide) ?_
        refine lv_goto (tgt := 105) hx hb dX7_row_101 (by decide) ?_
        obtain rfl := Option.some.inj h
        exact hend _ _ _ _ dX7_row_105 rfl hP hS
    have h := ite_f hs4 h
    have hq : x1.toInt ≠ 0 ∧ x1.toInt ≠ 1 ∧ x1.toInt ≠ 2 ∧ x1.toInt ≠ 3 ∧ x1.toInt ≠ 4 := ⟨sw_ne hs0 rfl, sw_ne hs1 rfl, sw_ne hs2 rfl, sw_ne hs3 rfl, sw_ne hs4 rfl⟩
    refine lv_tableOut (tgt := 106) hx hb dX7_row_13 (by omega) (by decide) ?_
    refine lv_sipush (v := (-1002 : Int32)) hx hb dX7_row_106 (by decide) ?_
    obtain rfl := Option.some.inj h
    exact hend _ _ _ _ dX7_row_109 rfl hP hS
  · have h := ite_t hc h
    refine lv_sipush (v := (-1001 : Int32)) hx hb dX7_row_8 (by decide) ?_
    obtain rfl := Option.some.inj h
    exact hend _ _ _ _ dX7_row_11 rfl hP hS
