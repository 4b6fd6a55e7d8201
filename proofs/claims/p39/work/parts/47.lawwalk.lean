set_option maxHeartbeats 4000000 in
set_option maxRecDepth 100000 in
theorem ct_L_sums (l : Launch) (D : va_G) (a : Nat → Nat) (cA cT : ClassId) (hI : WI a TC) (g : MG)   (r : Int32) (h : m_L_sums g = some r) :
    CtI l D a cA cT TC yL_sums (Cond.code yL_sums cL_sums 10 (some .boolean) :: lw_all) (rmm 8 183) [.ref (a 0)] g r g := by
  refine CtI.of (by decide +kernel) (Nat.le_of_ble_eq_true rfl) ?_
  intro p e s m args below meth c Q ls hx hb hml hown hts hK hP hS hl hend
  have hl : lv_has ls 10 [(0, .ref (a 0))] := hl
  unfold m_L_sums at h
  have J322 : ∀ (v1 : Int32) (v2 : Int32) (v3 : Int32) (v5 : Int32) (v6 : Int32) (w0 : Int32) (H : Heap) (locs : List Loc) (ls : Array Slot), WP D a cA cT TC g H → va_S (AA a TC) s.heap H locs → lv_has ls 10 [(0, .ref (a 0)), (1, .int v1), (2, .int v2), (3, .int v3), (5, .int v5), (6, .int v6)] → m_L_sums_J322 g v1 v2 v3 v5 v6 w0 = some r → W p l e (rmm 8 183) s m args below meth c H locs 0 0 Q (F0 m 322 ls [.int w0]) := by
    intro v1 v2 v3 v5 v6 w0 H locs ls hP hS hl h
    unfold m_L_sums_J322 at h
    refine lv_istore (lv' := [(7, .int w0), (0, .ref (a 0)), (1, .int v1), (2, .int v2), (3, .int v3), (5, .int v5), (6, .int v6)]) hx hb dL_sums_322 hl (by decide) rfl (fun ls hl => ?_)
    refine lv_iload hx hb dL_sums_324 (lv_at hl 0 rfl) ?_
    refine lv_if_eq (tgt := 489) hx hb dL_sums_326 (by decide) (fun hc => ?_) (fun hc => ?_)
    · have h := ite_t hc h
      refine lv_iconst (v := (0 : Int32)) hx hb dL_sums_489 (by decide) ?_
      obtain rfl := Option.some.inj h
      exact hend _ _ _ _ dL_sums_490 rfl hP hS
    · have h := ite_f hc h
      refine lv_aload_n hx hb dL_sums_329 rfl (lv_at hl 1 rfl) ?_
      refine lv_bipush (v := (60 : Int32)) hx hb dL_sums_330 (by decide) ?_
      obtain ⟨r332, hcal, h⟩ := bnd_s h
      refine x_SI (As := [.ref (a 0), .int (60 : Int32)]) hx hb hml hown hts hK hP hS (ct_L_place l D a cA cT hI g (60 : Int32) r332 hcal) (g_S q370 q371 q34 q372) yd_L_place ⟨Nat.le_of_ble_eq_true rfl, Nat.le_of_ble_eq_true rfl⟩ [] rfl (Nat.le_of_ble_eq_true rfl) hl.1 ⟨Nat.le_refl _, Nat.le_refl _⟩ dL_sums_332 (fun H locs hP hS => ?_)
      refine lv_if_eq (tgt := 489) hx hb dL_sums_335 (by decide) (fun hc => ?_) (fun hc => ?_)
      · have h := ite_t hc h
        refine lv_iconst (v := (0 : Int32)) hx hb dL_sums_489 (by decide) ?_
        obtain rfl := Option.some.inj h
        exact hend _ _ _ _ dL_sums_490 rfl hP hS
      · have h := ite_f hc h
        refine lv_aload_n hx hb dL_sums_338 rfl (lv_at hl 1 rfl) ?_
        refine lv_bipush (v := (61 : Int32)) hx hb dL_sums_339 (by decide) ?_
        obtain ⟨r341, hcal, h⟩ := bnd_s h
        refine x_SI (As := [.ref (a 0), .int (61 : Int32)]) hx hb hml hown hts hK hP hS (ct_L_place l D a cA cT hI g (61 : Int32) r341 hcal) (g_S q370 q371 q34 q372) yd_L_place ⟨Nat.le_of_ble_eq_true rfl, Nat.le_of_ble_eq_true rfl⟩ [] rfl (Nat.le_of_ble_eq_true rfl) hl.1 ⟨Nat.le_refl _, Nat.le_refl _⟩ dL_sums_341 (fun H locs hP hS => ?_)
        refine lv_if_eq (tgt := 489) hx hb dL_sums_344 (by decide) (fun hc => ?_) (fun hc => ?_)
        · have h := ite_t hc h
          refine lv_iconst (v := (0 : Int32)) hx hb dL_sums_489 (by decide) ?_
          obtain rfl := Option.some.inj h
          exact hend _ _ _ _ dL_sums_490 rfl hP hS
        · have h := ite_f hc h
          refine lv_aload_n hx hb dL_sums_347 rfl (lv_at hl 1 rfl) ?_
          refine lv_bipush (v := (60 : Int32)) hx hb dL_sums_348 (by decide) ?_
          refine lv_bipush (v := (6 : Int32)) hx hb dL_sums_350 (by decide) ?_
          obtain ⟨r352, hcal, h⟩ := bnd_s h
          refine x_VI (As := [.int (60 : Int32), .int (6 : Int32)]) hx hb hml hown hts hK hP hS (ct_X6_slice l D a cA cT hI g (60 : Int32) (6 : Int32) r352 hcal) tF_0 (C := RX6) (F := TX6) (N := 5) rfl (g_V q328 q329 q330 q35 q331) yd_X6_slice ⟨Nat.le_of_ble_eq_true rfl, Nat.le_of_ble_eq_true rfl⟩ [] rfl (Nat.le_of_ble_eq_true rfl) hl.1 ⟨Nat.le_refl _, Nat.le_refl _⟩ dL_sums_352 (fun H locs hP hS => ?_)
          refine lv_if_ne (tgt := 489) hx hb dL_sums_355 (by decide) (fun hc => ?_) (fun hc => ?_)
          · have h := ite_f hc h
            refine lv_iconst (v := (0 : Int32)) hx hb dL_sums_489 (by decide) ?_
            obtain rfl := Option.some.inj h
            exact hend _ _ _ _ dL_sums_490 rfl hP hS
          · have h := ite_t hc h
            refine lv_aload_n hx hb dL_sums_358 rfl (lv_at hl 1 rfl) ?_
            refine lv_aload_n hx hb dL_sums_359 rfl (lv_at hl 1 rfl) ?_
            refine lv_iconst (v := (0 : Int32)) hx hb dL_sums_360 (by decide) ?_
            obtain ⟨r361, hcal, h⟩ := bnd_s h
            refine x_VI (As := [.int (0 : Int32)]) hx hb hml hown hts hK hP hS (ct_X6_count l D a cA cT hI g (0 : Int32) r361 hcal) tF_0 (C := RX6) (F := TX6) (N := 5) rfl (g_V q212 q213 q214 q35 q215) yd_X6_count ⟨Nat.le_of_ble_eq_true rfl, Nat.le_of_ble_eq_true rfl⟩ [.ref (a 0)] rfl (Nat.le_of_ble_eq_true rfl) hl.1 ⟨Nat.le_refl _, Nat.le_refl _⟩ dL_sums_361 (fun H locs hP hS => ?_)
            obtain ⟨r364, hcal, h⟩ := bnd_s h
            refine x_VI (As := [.int r361]) hx hb hml hown hts hK hP hS (ct_X6_ordered l D a cA cT hI g r361 r364 hcal) tF_0 (C := RX6) (F := TX6) (N := 5) rfl (g_V q365 q366 q367 q35 q368) yd_X6_ordered ⟨Nat.le_of_ble_eq_true rfl, Nat.le_of_ble_eq_true rfl⟩ [] rfl (Nat.le_of_ble_eq_true rfl) hl.1 ⟨Nat.le_refl _, Nat.le_refl _⟩ dL_sums_364 (fun H locs hP hS => ?_)
            refine lv_sipush (v := (-1005 : Int32)) hx hb dL_sums_367 (by decide) ?_
            refine lv_icmp_ne (tgt := 489) hx hb dL_sums_370 (by decide) (fun hc => ?_) (fun hc => ?_)
            · have h := ite_f hc h
              refine lv_iconst (v := (0 : Int32)) hx hb dL_sums_489 (by decide) ?_
              obtain rfl := Option.some.inj h
              exact hend _ _ _ _ dL_sums_490 rfl hP hS
            · have h := ite_t hc h
              refine lv_iload_n hx hb dL_sums_373 rfl (lv_at hl 2 rfl) ?_
              refine lv_aload_n hx hb dL_sums_374 rfl (lv_at hl 1 rfl) ?_
              refine lv_iconst (v := (2 : Int32)) hx hb dL_sums_375 (by decide) ?_
              obtain ⟨r376, hcal, h⟩ := bnd_s h
              refine x_VI (As := [.int (2 : Int32)]) hx hb hml hown hts hK hP hS (ct_X6_count l D a cA cT hI g (2 : Int32) r376 hcal) tF_0 (C := RX6) (F := TX6) (N := 5) rfl (g_V q212 q213 q214 q35 q215) yd_X6_count ⟨Nat.le_of_ble_eq_true rfl, Nat.le_of_ble_eq_true rfl⟩ [.int v1] rfl (Nat.le_of_ble_eq_true rfl) hl.1 ⟨Nat.le_refl _, Nat.le_refl _⟩ dL_sums_376 (fun H locs hP hS => ?_)
              refine lv_icmp_ne (tgt := 489) hx hb dL_sums_379 (by decide) (fun hc => ?_) (fun hc => ?_)
              · have h := ite_f hc h
                refine lv_iconst (v := (0 : Int32)) hx hb dL_sums_489 (by decide) ?_
                obtain rfl := Option.some.inj h
                exact hend _ _ _ _ dL_sums_490 rfl hP hS
              · have h := ite_t hc h
                refine lv_iload_n hx hb dL_sums_382 rfl (lv_at hl 3 rfl) ?_
                refine lv_aload_n hx hb dL_sums_383 rfl (lv_at hl 1 rfl) ?_
                refine lv_iconst (v := (5 : Int32)) hx hb dL_sums_384 (by decide) ?_
                obtain ⟨r385, hcal, h⟩ := bnd_s h
                refine x_VI (As := [.int (5 : Int32)]) hx hb hml hown hts hK hP hS (ct_X6_count l D a cA cT hI g (5 : Int32) r385 hcal) tF_0 (C := RX6) (F := TX6) (N := 5) rfl (g_V q212 q213 q214 q35 q215) yd_X6_count ⟨Nat.le_of_ble_eq_true rfl, Nat.le_of_ble_eq_true rfl⟩ [.int v2] rfl (Nat.le_of_ble_eq_true rfl) hl.1 ⟨Nat.le_refl _, Nat.le_refl _⟩ dL_sums_385 (fun H locs hP hS => ?_)
                refine lv_icmp_ne (tgt := 489) hx hb dL_sums_388 (by decide) (fun hc => ?_) (fun hc => ?_)
                · have h := ite_f hc h
                  refine lv_iconst (v := (0 : Int32)) hx hb dL_sums_489 (by decide) ?_
                  obtain rfl := Option.some.inj h
                  exact hend _ _ _ _ dL_sums_490 rfl hP hS
                · have h := ite_t hc h
                  refine lv_iload_n hx hb dL_sums_391 rfl (lv_at hl 4 rfl) ?_
                  refine lv_aload_n hx hb dL_sums_392 rfl (lv_at hl 1 rfl) ?_
                  refine lv_bipush (v := (8 : Int32)) hx hb dL_sums_393 (by decide) ?_
                  obtain ⟨r395, hcal, h⟩ := bnd_s h
                  refine x_VI (As := [.int (8 : Int32)]) hx hb hml hown hts hK hP hS (ct_X6_count l D a cA cT hI g (8 : Int32) r395 hcal) tF_0 (C := RX6) (F := TX6) (N := 5) rfl (g_V q212 q213 q214 q35 q215) yd_X6_count ⟨Nat.le_of_ble_eq_true rfl, Nat.le_of_ble_eq_true rfl⟩ [.int v3] rfl (Nat.le_of_ble_eq_true rfl) hl.1 ⟨Nat.le_refl _, Nat.le_refl _⟩ dL_sums_395 (fun H locs hP hS => ?_)
                  refine lv_iadd hx hb dL_sums_398 ?_
                  refine lv_sipush (v := (1000 : Int32)) hx hb dL_sums_399 (by decide) ?_
                  refine lv_icmp_ne (tgt := 489) hx hb dL_sums_402 (by decide) (fun hc => ?_) (fun hc => ?_)
                  · have h := ite_f hc h
                    refine lv_iconst (v := (0 : Int32)) hx hb dL_sums_489 (by decide) ?_
                    obtain rfl := Option.some.inj h
                    exact hend _ _ _ _ dL_sums_490 rfl hP hS
                  · have h := ite_t hc h
                    refine lv_iload hx hb dL_sums_405 (lv_at hl 5 rfl) ?_
                    refine lv_aload_n hx hb dL_sums_407 rfl (lv_at hl 1 rfl) ?_
                    refine lv_bipush (v := (7 : Int32)) hx hb dL_sums_408 (by decide) ?_
                    obtain ⟨r410, hcal, h⟩ := bnd_s h
                    refine x_VI (As := [.int (7 : Int32)]) hx hb hml hown hts hK hP hS (ct_X6_count l D a cA cT hI g (7 : Int32) r410 hcal) tF_0 (C := RX6) (F := TX6) (N := 5) rfl (g_V q212 q213 q214 q35 q215) yd_X6_count ⟨Nat.le_of_ble_eq_true rfl, Nat.le_of_ble_eq_true rfl⟩ [.int v5] rfl (Nat.le_of_ble_eq_true rfl) hl.1 ⟨Nat.le_refl _, Nat.le_refl _⟩ dL_sums_410 (fun H locs hP hS => ?_)
                    refine lv_icmp_ne (tgt := 489) hx hb dL_sums_413 (by decide) (fun hc => ?_) (fun hc => ?_)
                    · have h := ite_f hc h
                      refine lv_iconst (v := (0 : Int32)) hx hb dL_sums_489 (by decide) ?_
                      obtain rfl := Option.some.inj h
                      exact hend _ _ _ _ dL_sums_490 rfl hP hS
                    · have h := ite_t hc h
                      refine lv_aload_n hx hb dL_sums_416 rfl (lv_at hl 1 rfl) ?_
                      refine lv_iload hx hb dL_sums_417 (lv_at hl 5 rfl) ?_
                      refine lv_iconst (v := (0 : Int32)) hx hb dL_sums_419 (by decide) ?_
                      obtain ⟨r420, hcal, h⟩ := bnd_s h
                      refine x_VI (As := [.int v5, .int (0 : Int32)]) hx hb hml hown hts hK hP hS (ct_X6_gap l D a cA cT hI g v5 (0 : Int32) r420 hcal) tF_0 (C := RX6) (F := TX6) (N := 5) rfl (g_V q384 q385 q386 q35 q387) yd_X6_gap ⟨Nat.le_of_ble_eq_true rfl, Nat.le_of_ble_eq_true rfl⟩ [] rfl (Nat.le_of_ble_eq_true rfl) hl.1 ⟨Nat.le_refl _, Nat.le_refl _⟩ dL_sums_420 (fun H locs hP hS => ?_)
                      refine lv_sipush (v := (-1005 : Int32)) hx hb dL_sums_423 (by decide) ?_
                      refine lv_icmp_ne (tgt := 489) hx hb dL_sums_426 (by decide) (fun hc => ?_) (fun hc => ?_)
                      · have h := ite_f hc h
                        refine lv_iconst (v := (0 : Int32)) hx hb dL_sums_489 (by decide) ?_
                        obtain rfl := Option.some.inj h
                        exact hend _ _ _ _ dL_sums_490 rfl hP hS
                      · have h := ite_t hc h
                        refine lv_iload hx hb dL_sums_429 (lv_at hl 6 rfl) ?_
                        refine lv_aload_n hx hb dL_sums_431 rfl (lv_at hl 1 rfl) ?_
                        obtain ⟨r432, hcal, h⟩ := bnd_s h
                        refine x_VI (As := []) hx hb hml hown hts hK hP hS (ct_X6_heaviest l D a cA cT hI g r432 hcal) tF_0 (C := RX6) (F := TX6) (N := 5) rfl (g_V q394 q395 q396 q35 q397) yd_X6_heaviest ⟨Nat.le_of_ble_eq_true rfl, Nat.le_of_ble_eq_true rfl⟩ [.int v6] rfl (Nat.le_of_ble_eq_true rfl) hl.1 ⟨Nat.le_refl _, Nat.le_refl _⟩ dL_sums_432 (fun H locs hP hS => ?_)
                        refine lv_icmp_ne (tgt := 489) hx hb dL_sums_435 (by decide) (fun hc => ?_) (fun hc => ?_)
                        · have h := ite_f hc h
                          refine lv_iconst (v := (0 : Int32)) hx hb dL_sums_489 (by decide) ?_
                          obtain rfl := Option.some.inj h
                          exact hend _ _ _ _ dL_sums_490 rfl hP hS
                        · have h := ite_t hc h
                          refine lv_aload_n hx hb dL_sums_438 rfl (lv_at hl 1 rfl) ?_
                          refine lv_bipush (v := (61 : Int32)) hx hb dL_sums_439 (by decide) ?_
                          refine lv_iconst (v := (2 : Int32)) hx hb dL_sums_441 (by decide) ?_
                          obtain ⟨r442, hcal, h⟩ := bnd_s h
                          refine x_VI (As := [.int (61 : Int32), .int (2 : Int32)]) hx hb hml hown hts hK hP hS (ct_X6_slice l D a cA cT hI g (61 : Int32) (2 : Int32) r442 hcal) tF_0 (C := RX6) (F := TX6) (N := 5) rfl (g_V q328 q329 q330 q35 q331) yd_X6_slice ⟨Nat.le_of_ble_eq_true rfl, Nat.le_of_ble_eq_true rfl⟩ [] rfl (Nat.le_of_ble_eq_true rfl) hl.1 ⟨Nat.le_refl _, Nat.le_refl _⟩ dL_sums_442 (fun H locs hP hS => ?_)
                          refine lv_aload_n hx hb dL_sums_445 rfl (lv_at hl 1 rfl) ?_
                          refine lv_iconst (v := (3 : Int32)) hx hb dL_sums_446 (by decide) ?_
                          obtain ⟨r447, hcal, h⟩ := bnd_s h
                          refine x_VI (As := [.int (3 : Int32)]) hx hb hml hown hts hK hP hS (ct_X6_count l D a cA cT hI g (3 : Int32) r447 hcal) tF_0 (C := RX6) (F := TX6) (N := 5) rfl (g_V q212 q213 q214 q35 q215) yd_X6_count ⟨Nat.le_of_ble_eq_true rfl, Nat.le_of_ble_eq_true rfl⟩ [.int r442] rfl (Nat.le_of_ble_eq_true rfl) hl.1 ⟨Nat.le_refl _, Nat.le_refl _⟩ dL_sums_447 (fun H locs hP hS => ?_)
                          refine lv_icmp_ne (tgt := 489) hx hb dL_sums_450 (by decide) (fun hc => ?_) (fun hc => ?_)
                          · have h := ite_f hc h
                            refine lv_iconst (v := (0 : Int32)) hx hb dL_sums_489 (by decide) ?_
                            obtain rfl := Option.some.inj h
                            exact hend _ _ _ _ dL_sums_490 rfl hP hS
                          · have h := ite_t hc h
                            refine lv_iload_n hx hb dL_sums_453 rfl (lv_at hl 3 rfl) ?_
                            refine lv_if_ne (tgt := 471) hx hb dL_sums_454 (by decide) (fun hc => ?_) (fun hc => ?_)
                            · have h := ite_f hc h
                              refine lv_aload_n hx hb dL_sums_471 rfl (lv_at hl 1 rfl) ?_
                              refine lv_aload_n hx hb dL_sums_472 rfl (lv_at hl 1 rfl) ?_
                              refine lv_iconst (v := (0 : Int32)) hx hb dL_sums_473 (by decide) ?_
                              obtain ⟨r474, hcal, h⟩ := bnd_s h
                              refine x_VI (As := [.int (0 : Int32)]) hx hb hml hown hts hK hP hS (ct_X6_stray l D a cA cT hI g (0 : Int32) r474 hcal) tF_0 (C := RX6) (F := TX6) (N := 5) rfl (g_V q398 q399 q400 q35 q401) yd_X6_stray ⟨Nat.le_of_ble_eq_true rfl, Nat.le_of_ble_eq_true rfl⟩ [.ref (a 0)] rfl (Nat.le_of_ble_eq_true rfl) hl.1 ⟨Nat.le_refl _, Nat.le_refl _⟩ dL_sums_474 (fun H locs hP hS => ?_)
                              refine lv_iconst (v := (4 : Int32)) hx hb dL_sums_477 (by decide) ?_
                              obtain ⟨r478, hcal, h⟩ := bnd_s h
                              refine x_VI (As := [.int r474, .int (4 : Int32)]) hx hb hml hown hts hK hP hS (ct_X6_row l D a cA cT hI g r474 (4 : Int32) r478 hcal) tF_0 (C := RX6) (F := TX6) (N := 5) rfl (g_V q306 q307 q308 q35 q309) yd_X6_row ⟨Nat.le_of_ble_eq_true rfl, Nat.le_of_ble_eq_true rfl⟩ [] rfl (Nat.le_of_ble_eq_true rfl) hl.1 ⟨Nat.le_refl _, Nat.le_refl _⟩ dL_sums_478 (fun H locs hP hS => ?_)
                              refine lv_iconst (v := (1 : Int32)) hx hb dL_sums_481 (by decide) ?_
                              refine lv_icmp_ne (tgt := 489) hx hb dL_sums_482 (by decide) (fun hc => ?_) (fun hc => ?_)
                              · have h := ite_f hc h
                                refine lv_iconst (v := (0 : Int32)) hx hb dL_sums_489 (by decide) ?_
                                obtain rfl := Option.some.inj h
                                exact hend _ _ _ _ dL_sums_490 rfl hP hS
                              · have h := ite_t hc h
                                refine lv_iconst (v := (1 : Int32)) hx hb dL_sums_485 (by decide) ?_
                                refine lv_goto (tgt := 490) hx hb dL_sums_486 (by decide) ?_
                                obtain rfl := Option.some.inj h
                                exact hend _ _ _ _ dL_sums_490 rfl hP hS
                            · have h := ite_t hc h
                              refine lv_aload_n hx hb dL_sums_457 rfl (lv_at hl 1 rfl) ?_
                              refine lv_iconst (v := (0 : Int32)) hx hb dL_sums_458 (by decide) ?_
                              obtain ⟨r459, hcal, h⟩ := bnd_s h
                              refine x_VI (As := [.int (0 : Int32)]) hx hb hml hown hts hK hP hS (ct_X6_stray l D a cA cT hI g (0 : Int32) r459 hcal) tF_0 (C := RX6) (F := TX6) (N := 5) rfl (g_V q398 q399 q400 q35 q401) yd_X6_stray ⟨Nat.le_of_ble_eq_true rfl, Nat.le_of_ble_eq_true rfl⟩ [] rfl (Nat.le_of_ble_eq_true rfl) hl.1 ⟨Nat.le_refl _, Nat.le_refl _⟩ dL_sums_459 (fun H locs hP hS => ?_)
                              refine lv_sipush (v := (-1005 : Int32)) hx hb dL_sums_462 (by decide) ?_
                              refine lv_icmp_ne (tgt := 489) hx hb dL_sums_465 (by decide) (fun hc => ?_) (fun hc => ?_)
                              · have h := ite_f hc h
                                refine lv_iconst (v := (0 : Int32)) hx hb dL_sums_489 (by decide) ?_
                                obtain rfl := Option.some.inj h
                                exact hend _ _ _ _ dL_sums_490 rfl hP hS
                              · have h := ite_t hc h
                                refine lv_goto (tgt := 485) hx hb dL_sums_468 (by decide) ?_
                                refine lv_iconst (v := (1 : Int32)) hx hb dL_sums_485 (by decide) ?_
                                refine lv_goto (tgt := 490) hx hb dL_sums_486 (by decide) ?_
                                obtain rfl := Option.some.inj h
                                exact hend _ _ _ _ dL_sums_490 rfl hP hS
  have J277 : ∀ (v1 : Int32) (v2 : Int32) (v3 : Int32) (v4 : Int32) (v6 : Int32) (w0 : Int32) (w1 : Int32) (H : Heap) (locs : List Loc) (ls : Array Slot), WP D a cA cT TC g H → va_S (AA a TC) s.heap H locs → lv_has ls 10 [(0, .ref (a 0)), (1, .int v1), (2, .int v2), (3, .int v3), (4, .int v4), (6, .int v6)] → m_L_sums_J277 g v1 v2 v3 v4 v6 w0 w1 = some r → W p l e (rmm 8 183) s m args below meth c H locs 0 0 Q (F0 m 277 ls [.int w1, .int w0]) := by
    intro v1 v2 v3 v4 v6 w0 w1 H locs ls hP hS hl h
    unfold m_L_sums_J277 at h
    refine lv_iadd hx hb dL_sums_277 ?_
    refine lv_istore (lv' := [(5, .int (w0 + w1)), (0, .ref (a 0)), (1, .int v1), (2, .int v2), (3, .int v3), (4, .int v4), (6, .int v6)]) hx hb dL_sums_278 hl (by decide) rfl (fun ls hl => ?_)
    refine lv_iload hx hb dL_sums_280 (lv_at hl 5 rfl) ?_
    refine lv_sipush (v := (1000 : Int32)) hx hb dL_sums_282 (by decide) ?_
    refine lv_icmp_eq (tgt := 317) hx hb dL_sums_285 (by decide) (fun hc => ?_) (fun hc => ?_)
    · have h := ite_t hc h
      refine lv_iconst (v := (1 : Int32)) hx hb dL_sums_317 (by decide) ?_
      refine lv_goto (tgt := 322) hx hb dL_sums_318 (by decide) ?_
      exact J322 v1 v2 v3 (w0 + w1) v6 (1 : Int32) _ _ _ hP hS (lv_sub hl [1, 2, 3, 4, 0, 6] rfl) h
    · have h := ite_f hc h
      refine lv_aload_n hx hb dL_sums_288 rfl (lv_at hl 1 rfl) ?_
      refine lv_iload hx hb dL_sums_289 (lv_at hl 0 rfl) ?_
      refine lv_iconst (v := (1 : Int32)) hx hb dL_sums_291 (by decide) ?_
      refine lv_isub hx hb dL_sums_292 ?_
      refine lv_iconst (v := (0 : Int32)) hx hb dL_sums_293 (by decide) ?_
      obtain ⟨r294, hcal, h⟩ := bnd_s h
      refine x_VI (As := [.int ((w0 + w1) - (1 : Int32)), .int (0 : Int32)]) hx hb hml hown hts hK hP hS (ct_X6_gap l D a cA cT hI g ((w0 + w1) - (1 : Int32)) (0 : Int32) r294 hcal) tF_0 (C := RX6) (F := TX6) (N := 5) rfl (g_V q384 q385 q386 q35 q387) yd_X6_gap ⟨Nat.le_of_ble_eq_true rfl, Nat.le_of_ble_eq_true rfl⟩ [] rfl (Nat.le_of_ble_eq_true rfl) hl.1 ⟨Nat.le_refl _, Nat.le_refl _⟩ dL_sums_294 (fun H locs hP hS => ?_)
      refine lv_iload hx hb dL_sums_297 (lv_at hl 5 rfl) ?_
      refine lv_icmp_ne (tgt := 321) hx hb dL_sums_299 (by decide) (fun hc => ?_) (fun hc => ?_)
      · have h := ite_f hc h
        refine lv_iconst (v := (0 : Int32)) hx hb dL_sums_321 (by decide) ?_
        exact J322 v1 v2 v3 (w0 + w1) v6 (0 : Int32) _ _ _ hP hS (lv_sub hl [1, 2, 3, 4, 0, 6] rfl) h
      · have h := ite_t hc h
        refine lv_aload_n hx hb dL_sums_302 rfl (lv_at hl 1 rfl) ?_
        refine lv_iload hx hb dL_sums_303 (lv_at hl 0 rfl) ?_
        refine lv_iconst (v := (1 : Int32)) hx hb dL_sums_305 (by decide) ?_
        refine lv_isub hx hb dL_sums_306 ?_
        refine lv_iconst (v := (1 : Int32)) hx hb dL_sums_307 (by decide) ?_
        obtain ⟨r308, hcal, h⟩ := bnd_s h
        refine x_VI (As := [.int ((w0 + w1) - (1 : Int32)), .int (1 : Int32)]) hx hb hml hown hts hK hP hS (ct_X6_gap l D a cA cT hI g ((w0 + w1) - (1 : Int32)) (1 : Int32) r308 hcal) tF_0 (C := RX6) (F := TX6) (N := 5) rfl (g_V q384 q385 q386 q35 q387) yd_X6_gap ⟨Nat.le_of_ble_eq_true rfl, Nat.le_of_ble_eq_true rfl⟩ [] rfl (Nat.le_of_ble_eq_true rfl) hl.1 ⟨Nat.le_refl _, Nat.le_refl _⟩ dL_sums_308 (fun H locs hP hS => ?_)
        refine lv_sipush (v := (999 : Int32)) hx hb dL_sums_311 (by decide) ?_
        refine lv_icmp_ne (tgt := 321) hx hb dL_sums_314 (by decide) (fun hc => ?_) (fun hc => ?_)
        · have h := ite_f hc h
          refine lv_iconst (v := (0 : Int32)) hx hb dL_sums_321 (by decide) ?_
          exact J322 v1 v2 v3 (w0 + w1) v6 (0 : Int32) _ _ _ hP hS (lv_sub hl [1, 2, 3, 4, 0, 6] rfl) h
        · have h := ite_t hc h
          refine lv_iconst (v := (1 : Int32)) hx hb dL_sums_317 (by decide) ?_
          refine lv_goto (tgt := 322) hx hb dL_sums_318 (by decide) ?_
          exact J322 v1 v2 v3 (w0 + w1) v6 (1 : Int32) _ _ _ hP hS (lv_sub hl [1, 2, 3, 4, 0, 6] rfl) h
  refine lv_aload_n hx hb dL_sums_0 rfl (lv_at hl 0 rfl) ?_
  refine lv_bipush (v := (60 : Int32)) hx hb dL_sums_1 (by decide) ?_
  refine lv_iconst (v := (2 : Int32)) hx hb dL_sums_3 (by decide) ?_
  obtain ⟨r4, hcal, h⟩ := bnd_s h
  refine x_VI (As := [.int (60 : Int32), .int (2 : Int32)]) hx hb hml hown hts hK hP hS (ct_X6_slice l D a cA cT hI g (60 : Int32) (2 : Int32) r4 hcal) tF_0 (C := RX6) (F := TX6) (N := 5) rfl (g_V q328 q329 q330 q35 q331) yd_X6_slice ⟨Nat.le_of_ble_eq_true rfl, Nat.le_of_ble_eq_true rfl⟩ [] rfl (Nat.le_of_ble_eq_true rfl) hl.1 ⟨Nat.le_refl _, Nat.le_refl _⟩ dL_sums_4 (fun H locs hP hS => ?_)
  refine lv_istore_n (lv' := [(1, .int r4), (0, .ref (a 0))]) hx hb dL_sums_7 rfl hl (by decide) rfl (fun ls hl => ?_)
  refine lv_iconst (v := (0 : Int32)) hx hb dL_sums_8 (by decide) ?_
  refine lv_istore_n (lv' := [(2, .int (0 : Int32)), (1, .int r4), (0, .ref (a 0))]) hx hb dL_sums_9 rfl hl (by decide) rfl (fun ls hl => ?_)
  refine lv_iconst (v := (0 : Int32)) hx hb dL_sums_10 (by decide) ?_
  refine lv_istore_n (lv' := [(3, .int (0 : Int32)), (2, .int (0 : Int32)), (1, .int r4), (0, .ref (a 0))]) hx hb dL_sums_11 rfl hl (by decide) rfl (fun ls hl => ?_)
  refine lv_iconst (v := (0 : Int32)) hx hb dL_sums_12 (by decide) ?_
  refine lv_istore (lv' := [(4, .int (0 : Int32)), (3, .int (0 : Int32)), (2, .int (0 : Int32)), (1, .int r4), (0, .ref (a 0))]) hx hb dL_sums_13 hl (by decide) rfl (fun ls hl => ?_)
  refine lv_iconst (v := (0 : Int32)) hx hb dL_sums_15 (by decide) ?_
  refine lv_istore (lv' := [(5, .int (0 : Int32)), (4, .int (0 : Int32)), (3, .int (0 : Int32)), (2, .int (0 : Int32)), (1, .int r4), (0, .ref (a 0))]) hx hb dL_sums_16 hl (by decide) rfl (fun ls hl => ?_)
  refine lv_sipush (v := (-1005 : Int32)) hx hb dL_sums_18 (by decide) ?_
  refine lv_istore (lv' := [(6, .int (-1005 : Int32)), (5, .int (0 : Int32)), (4, .int (0 : Int32)), (3, .int (0 : Int32)), (2, .int (0 : Int32)), (1, .int r4), (0, .ref (a 0))]) hx hb dL_sums_21 hl (by decide) rfl (fun ls hl => ?_)
  refine lv_iconst (v := (0 : Int32)) hx hb dL_sums_23 (by decide) ?_
  refine lv_istore (lv' := [(7, .int (0 : Int32)), (6, .int (-1005 : Int32)), (5, .int (0 : Int32)), (4, .int (0 : Int32)), (3, .int (0 : Int32)), (2, .int (0 : Int32)), (1, .int r4), (0, .ref (a 0))]) hx hb dL_sums_24 hl (by decide) rfl (fun ls hl => ?_)
  have K26 : ∀ (n26 : Nat) (v1 : Int32) (v2 : Int32) (v3 : Int32) (v4 : Int32) (v5 : Int32) (v6 : Int32) (v7 : Int32) (H : Heap) (locs : List Loc) (ls : Array Slot), WP D a cA cT TC g H → va_S (AA a TC) s.heap H locs → lv_has ls 10 [(0, .ref (a 0)), (1, .int v1), (2, .int v2), (3, .int v3), (4, .int v4), (5, .int v5), (6, .int v6), (7, .int v7)] → lpo (b_L_sums_L26 g) n26 (v1, v2, v3, v4, v5, v6, v7) = some r → W p l e (rmm 8 183) s m args below meth c H locs 0 0 Q (F0 m 26 ls []) := by
    intro n26
    induction n26 with
    | zero => intro v1 v2 v3 v4 v5 v6 v7 H locs ls hP hS hl h; exact (lpo_0 h).elim
    | succ n26 ih26 =>
      intro v1 v2 v3 v4 v5 v6 v7 H locs ls hP hS hl h
      have h : m_L_sums_L26 (lpo (b_L_sums_L26 g) n26) g v1 v2 v3 v4 v5 v6 v7 = some r := h
      unfold m_L_sums_L26 at h
      have J214 : ∀ (v1 : Int32) (v2 : Int32) (v3 : Int32) (v4 : Int32) (v5 : Int32) (v6 : Int32) (v7 : Int32) (v8 : Int32) (w0 : Int32) (H : Heap) (locs : List Loc) (ls : Array Slot), WP D a cA cT TC g H → va_S (AA a TC) s.heap H locs → lv_has ls 10 [(0, .ref (a 0)), (1, .int v1), (2, .int v2), (3, .int v3), (4, .int v4), (5, .int v5), (6, .int v6), (7, .int v7), (8, .int v8)] → m_L_sums_J214 (lpo (b_L_sums_L26 g) n26) g v1 v2 v3 v4 v5 v6 v7 v8 w0 = some r → W p l e (rmm 8 183) s m args below meth c H locs 0 0 Q (F0 m 214 ls [.int w0]) := by
        intro v1 v2 v3 v4 v5 v6 v7 v8 w0 H locs ls hP hS hl h
        unfold m_L_sums_J214 at h
        refine lv_istore (lv' := [(9, .int w0), (0, .ref (a 0)), (1, .int v1), (2, .int v2), (3, .int v3), (4, .int v4), (5, .int v5), (6, .int v6), (7, .int v7), (8, .int v8)]) hx hb dL_sums_214 hl (by decide) rfl (fun ls hl => ?_)
        refine lv_aload_n hx hb dL_sums_216 rfl (lv_at hl 1 rfl) ?_
        refine lv_iload hx hb dL_sums_217 (lv_at hl 9 rfl) ?_
        refine lv_iconst (v := (2 : Int32)) hx hb dL_sums_219 (by decide) ?_
        obtain ⟨r220, hcal, h⟩ := bnd_s h
        refine x_VI (As := [.int v8, .int (2 : Int32)]) hx hb hml hown hts hK hP hS (ct_X6_slice l D a cA cT hI g v8 (2 : Int32) r220 hcal) tF_0 (C := RX6) (F := TX6) (N := 5) rfl (g_V q328 q329 q330 q35 q331) yd_X6_slice ⟨Nat.le_of_ble_eq_true rfl, Nat.le_of_ble_eq_true rfl⟩ [] rfl (Nat.le_of_ble_eq_true rfl) hl.1 ⟨Nat.le_refl _, Nat.le_refl _⟩ dL_sums_220 (fun H locs hP hS => ?_)
        refine lv_iload hx hb dL_sums_223 (lv_at hl 0 rfl) ?_
        refine lv_icmp_gt (tgt := 247) hx hb dL_sums_225 (by decide) (fun hc => ?_) (fun hc => ?_)
        · have h := ite_t hc h
          refine lv_iload hx hb dL_sums_247 (lv_at hl 9 rfl) ?_
          refine lv_goto (tgt := 254) hx hb dL_sums_249 (by decide) ?_
          refine lv_istore (lv' := [(6, .int v8), (9, .int w0), (0, .ref (a 0)), (1, .int v1), (2, .int v2), (3, .int v3), (4, .int v4), (5, .int v5), (7, .int v7), (8, .int v8)]) hx hb dL_sums_254 hl (by decide) rfl (fun ls hl => ?_)
          refine lv_iinc (v := (v7 + (1 : Int32))) (lv' := [(7, .int (v7 + (1 : Int32))), (6, .int v8), (9, .int w0), (0, .ref (a 0)), (1, .int v1), (2, .int v2), (3, .int v3), (4, .int v4), (5, .int v5), (8, .int v8)]) hx hb dL_sums_256 hl (k := 8) rfl rfl (by decide) rfl (fun ls hl => ?_)
          refine lv_goto (tgt := 26) hx hb dL_sums_259 (by decide) ?_
          exact ih26 v1 v2 v3 v4 v5 v8 (v7 + (1 : Int32)) _ _ _ hP hS (lv_sub hl [3, 4, 5, 6, 7, 8, 1, 0] rfl) h
        · have h := ite_f hc h
          refine lv_aload_n hx hb dL_sums_228 rfl (lv_at hl 1 rfl) ?_
          refine lv_iload hx hb dL_sums_229 (lv_at hl 9 rfl) ?_
          refine lv_iconst (v := (2 : Int32)) hx hb dL_sums_231 (by decide) ?_
          obtain ⟨r232, hcal, h⟩ := bnd_s h
          refine x_VI (As := [.int v8, .int (2 : Int32)]) hx hb hml hown hts hK hP hS (ct_X6_slice l D a cA cT hI g v8 (2 : Int32) r232 hcal) tF_0 (C := RX6) (F := TX6) (N := 5) rfl (g_V q328 q329 q330 q35 q331) yd_X6_slice ⟨Nat.le_of_ble_eq_true rfl, Nat.le_of_ble_eq_true rfl⟩ [] rfl (Nat.le_of_ble_eq_true rfl) hl.1 ⟨Nat.le_refl _, Nat.le_refl _⟩ dL_sums_232 (fun H locs hP hS => ?_)
          refine lv_iload hx hb dL_sums_235 (lv_at hl 0 rfl) ?_
          refine lv_icmp_ne (tgt := 252) hx hb dL_sums_237 (by decide) (fun hc => ?_) (fun hc => ?_)
          · have h := ite_f hc h
            refine lv_iload hx hb dL_sums_252 (lv_at hl 7 rfl) ?_
            refine lv_istore (lv' := [(6, .int v6), (9, .int w0), (0, .ref (a 0)), (1, .int v1), (2, .int v2), (3, .int v3), (4, .int v4), (5, .int v5), (7, .int v7), (8, .int v8)]) hx hb dL_sums_254 hl (by decide) rfl (fun ls hl => ?_)
            refine lv_iinc (v := (v7 + (1 : Int32))) (lv' := [(7, .int (v7 + (1 : Int32))), (6, .int v6), (9, .int w0), (0, .ref (a 0)), (1, .int v1), (2, .int v2), (3, .int v3), (4, .int v4), (5, .int v5), (8, .int v8)]) hx hb dL_sums_256 hl (k := 8) rfl rfl (by decide) rfl (fun ls hl => ?_)
            refine lv_goto (tgt := 26) hx hb dL_sums_259 (by decide) ?_
            exact ih26 v1 v2 v3 v4 v5 v6 (v7 + (1 : Int32)) _ _ _ hP hS (lv_sub hl [3, 4, 5, 6, 7, 8, 1, 0] rfl) h
          · have h := ite_t hc h
            refine lv_iload hx hb dL_sums_240 (lv_at hl 9 rfl) ?_
            refine lv_iload hx hb dL_sums_242 (lv_at hl 7 rfl) ?_
            refine lv_icmp_ge (tgt := 252) hx hb dL_sums_244 (by decide) (fun hc => ?_) (fun hc => ?_)
            · have h := ite_t hc h
              refine lv_iload hx hb dL_sums_252 (lv_at hl 7 rfl) ?_
              refine lv_istore (lv' := [(6, .int v6), (9, .int w0), (0, .ref (a 0)), (1, .int v1), (2, .int v2), (3, .int v3), (4, .int v4), (5, .int v5), (7, .int v7), (8, .int v8)]) hx hb dL_sums_254 hl (by decide) rfl (fun ls hl => ?_)
              refine lv_iinc (v := (v7 + (1 : Int32))) (lv' := [(7, .int (v7 + (1 : Int32))), (6, .int v6), (9, .int w0), (0, .ref (a 0)), (1, .int v1), (2, .int v2), (3, .int v3), (4, .int v4), (5, .int v5), (8, .int v8)]) hx hb dL_sums_256 hl (k := 8) rfl rfl (by decide) rfl (fun ls hl => ?_)
              refine lv_goto (tgt := 26) hx hb dL_sums_259 (by decide) ?_
              exact ih26 v1 v2 v3 v4 v5 v6 (v7 + (1 : Int32)) _ _ _ hP hS (lv_sub hl [3, 4, 5, 6, 7, 8, 1, 0] rfl) h
            · have h := ite_f hc h
              refine lv_iload hx hb dL_sums_247 (lv_at hl 9 rfl) ?_
              refine lv_goto (tgt := 254) hx hb dL_sums_249 (by decide) ?_
              refine lv_istore (lv' := [(6, .int v8), (9, .int w0), (0, .ref (a 0)), (1, .int v1), (2, .int v2), (3, .int v3), (4, .int v4), (5, .int v5), (7, .int v7), (8, .int v8)]) hx hb dL_sums_254 hl (by decide) rfl (fun ls hl => ?_)
              refine lv_iinc (v := (v7 + (1 : Int32))) (lv' := [(7, .int (v7 + (1 : Int32))), (6, .int v8), (9, .int w0), (0, .ref (a 0)), (1, .int v1), (2, .int v2), (3, .int v3), (4, .int v4), (5, .int v5), (8, .int v8)]) hx hb dL_sums_256 hl (k := 8) rfl rfl (by decide) rfl (fun ls hl => ?_)
              refine lv_goto (tgt := 26) hx hb dL_sums_259 (by decide) ?_
              exact ih26 v1 v2 v3 v4 v5 v8 (v7 + (1 : Int32)) _ _ _ hP hS (lv_sub hl [3, 4, 5, 6, 7, 8, 1, 0] rfl) h
      have J155 : ∀ (v1 : Int32) (v2 : Int32) (v3 : Int32) (v5 : Int32) (v6 : Int32) (v7 : Int32) (v8 : Int32) (H : Heap) (locs : List Loc) (ls : Array Slot), WP D a cA cT TC g H → va_S (AA a TC) s.heap H locs → lv_has ls 10 [(0, .ref (a 0)), (1, .int v1), (2, .int v2), (3, .int v3), (5, .int v5), (6, .int v6), (7, .int v7), (8, .int v8)] → m_L_sums_J155 (lpo (b_L_sums_L26 g) n26) g v1 v2 v3 v5 v6 v7 v8 = some r → W p l e (rmm 8 183) s m args below meth c H locs 0 0 Q (F0 m 155 ls []) := by
        intro v1 v2 v3 v5 v6 v7 v8 H locs ls hP hS hl h
        unfold m_L_sums_J155 at h
        refine lv_aload_n hx hb dL_sums_155 rfl (lv_at hl 0 rfl) ?_
        refine lv_iload hx hb dL_sums_156 (lv_at hl 7 rfl) ?_
        refine lv_iconst (v := (1 : Int32)) hx hb dL_sums_158 (by decide) ?_
        obtain ⟨r159, hcal, h⟩ := bnd_s h
        refine x_VI (As := [.int v8, .int (1 : Int32)]) hx hb hml hown hts hK hP hS (ct_X6_slice l D a cA cT hI g v8 (1 : Int32) r159 hcal) tF_0 (C := RX6) (F := TX6) (N := 5) rfl (g_V q328 q329 q330 q35 q331) yd_X6_slice ⟨Nat.le_of_ble_eq_true rfl, Nat.le_of_ble_eq_true rfl⟩ [] rfl (Nat.le_of_ble_eq_true rfl) hl.1 ⟨Nat.le_refl _, Nat.le_refl _⟩ dL_sums_159 (fun H locs hP hS => ?_)
        refine lv_istore (lv' := [(4, .int r159), (0, .ref (a 0)), (1, .int v1), (2, .int v2), (3, .int v3), (5, .int v5), (6, .int v6), (7, .int v7), (8, .int v8)]) hx hb dL_sums_162 hl (by decide) rfl (fun ls hl => ?_)
        refine lv_iload_n hx hb dL_sums_164 rfl (lv_at hl 4 rfl) ?_
        refine lv_iload hx hb dL_sums_165 (lv_at hl 0 rfl) ?_
        refine lv_aload_n hx hb dL_sums_167 rfl (lv_at hl 1 rfl) ?_
        refine lv_iload hx hb dL_sums_168 (lv_at hl 8 rfl) ?_
        refine lv_iconst (v := (0 : Int32)) hx hb dL_sums_170 (by decide) ?_
        obtain ⟨r171, hcal, h⟩ := bnd_s h
        refine x_VI (As := [.int v8, .int (0 : Int32)]) hx hb hml hown hts hK hP hS (ct_X6_slice l D a cA cT hI g v8 (0 : Int32) r171 hcal) tF_0 (C := RX6) (F := TX6) (N := 5) rfl (g_V q328 q329 q330 q35 q331) yd_X6_slice ⟨Nat.le_of_ble_eq_true rfl, Nat.le_of_ble_eq_true rfl⟩ [.int r159, .int v3] rfl (Nat.le_of_ble_eq_true rfl) hl.1 ⟨Nat.le_refl _, Nat.le_refl _⟩ dL_sums_171 (fun H locs hP hS => ?_)
        refine lv_isub hx hb dL_sums_174 ?_
        refine lv_iadd hx hb dL_sums_175 ?_
        refine lv_istore_n (lv' := [(3, .int (v3 + (r159 - r171))), (4, .int r159), (0, .ref (a 0)), (1, .int v1), (2, .int v2), (5, .int v5), (6, .int v6), (7, .int v7), (8, .int v8)]) hx hb dL_sums_176 rfl hl (by decide) rfl (fun ls hl => ?_)
        refine lv_iload_n hx hb dL_sums_177 rfl (lv_at hl 3 rfl) ?_
        refine lv_aload_n hx hb dL_sums_178 rfl (lv_at hl 2 rfl) ?_
        refine lv_iload hx hb dL_sums_179 (lv_at hl 8 rfl) ?_
        refine lv_iconst (v := (2 : Int32)) hx hb dL_sums_181 (by decide) ?_
        obtain ⟨r182, hcal, h⟩ := bnd_s h
        refine x_VI (As := [.int v8, .int (2 : Int32)]) hx hb hml hown hts hK hP hS (ct_X6_slice l D a cA cT hI g v8 (2 : Int32) r182 hcal) tF_0 (C := RX6) (F := TX6) (N := 5) rfl (g_V q328 q329 q330 q35 q331) yd_X6_slice ⟨Nat.le_of_ble_eq_true rfl, Nat.le_of_ble_eq_true rfl⟩ [.int v1] rfl (Nat.le_of_ble_eq_true rfl) hl.1 ⟨Nat.le_refl _, Nat.le_refl _⟩ dL_sums_182 (fun H locs hP hS => ?_)
        refine lv_iadd hx hb dL_sums_185 ?_
        refine lv_istore_n (lv' := [(1, .int (v1 + r182)), (3, .int (v3 + (r159 - r171))), (4, .int r159), (0, .ref (a 0)), (2, .int v2), (5, .int v5), (6, .int v6), (7, .int v7), (8, .int v8)]) hx hb dL_sums_186 rfl hl (by decide) rfl (fun ls hl => ?_)
        refine lv_iload_n hx hb dL_sums_187 rfl (lv_at hl 4 rfl) ?_
        refine lv_aload_n hx hb dL_sums_188 rfl (lv_at hl 3 rfl) ?_
        refine lv_iload hx hb dL_sums_189 (lv_at hl 8 rfl) ?_
        refine lv_bipush (v := (6 : Int32)) hx hb dL_sums_191 (by decide) ?_
        obtain ⟨r193, hcal, h⟩ := bnd_s h
        refine x_VI (As := [.int v8, .int (6 : Int32)]) hx hb hml hown hts hK hP hS (ct_X6_slice l D a cA cT hI g v8 (6 : Int32) r193 hcal) tF_0 (C := RX6) (F := TX6) (N := 5) rfl (g_V q328 q329 q330 q35 q331) yd_X6_slice ⟨Nat.le_of_ble_eq_true rfl, Nat.le_of_ble_eq_true rfl⟩ [.int v2] rfl (Nat.le_of_ble_eq_true rfl) hl.1 ⟨Nat.le_refl _, Nat.le_refl _⟩ dL_sums_193 (fun H locs hP hS => ?_)
        refine lv_iadd hx hb dL_sums_196 ?_
        refine lv_istore_n (lv' := [(2, .int (v2 + r193)), (1, .int (v1 + r182)), (3, .int (v3 + (r159 - r171))), (4, .int r159), (0, .ref (a 0)), (5, .int v5), (6, .int v6), (7, .int v7), (8, .int v8)]) hx hb dL_sums_197 rfl hl (by decide) rfl (fun ls hl => ?_)
        refine lv_iload hx hb dL_sums_198 (lv_at hl 6 rfl) ?_
        refine lv_if_ge (tgt := 207) hx hb dL_sums_200 (by decide) (fun hc => ?_) (fun hc => ?_)
        · have h := ite_t hc h
          refine lv_aload_n hx hb dL_sums_207 rfl (lv_at hl 4 rfl) ?_
          refine lv_iload hx hb dL_sums_208 (lv_at hl 6 rfl) ?_
          refine lv_iconst (v := (2 : Int32)) hx hb dL_sums_210 (by decide) ?_
          obtain ⟨r211, hcal, h⟩ := bnd_s h
          refine x_VI (As := [.int v6, .int (2 : Int32)]) hx hb hml hown hts hK hP hS (ct_X6_slice l D a cA cT hI g v6 (2 : Int32) r211 hcal) tF_0 (C := RX6) (F := TX6) (N := 5) rfl (g_V q328 q329 q330 q35 q331) yd_X6_slice ⟨Nat.le_of_ble_eq_true rfl, Nat.le_of_ble_eq_true rfl⟩ [] rfl (Nat.le_of_ble_eq_true rfl) hl.1 ⟨Nat.le_refl _, Nat.le_refl _⟩ dL_sums_211 (fun H locs hP hS => ?_)
          exact J214 (v1 + r182) (v2 + r193) (v3 + (r159 - r171)) r159 v5 v6 v7 v8 r211 _ _ _ hP hS (lv_sub hl [4, 1, 0, 2, 3, 5, 6, 7, 8] rfl) h
        · have h := ite_f hc h
          refine lv_iconst (v := (-1 : Int32)) hx hb dL_sums_203 (by decide) ?_
          refine lv_goto (tgt := 214) hx hb dL_sums_204 (by decide) ?_
          exact J214 (v1 + r182) (v2 + r193) (v3 + (r159 - r171)) r159 v5 v6 v7 v8 (-1 : Int32) _ _ _ hP hS (lv_sub hl [4, 1, 0, 2, 3, 5, 6, 7, 8] rfl) h
      have J103 : ∀ (v1 : Int32) (v2 : Int32) (v3 : Int32) (v4 : Int32) (v6 : Int32) (v7 : Int32) (v8 : Int32) (w0 : Int32) (w1 : Int32) (H : Heap) (locs : List Loc) (ls : Array Slot), WP D a cA cT TC g H → va_S (AA a TC) s.heap H locs → lv_has ls 10 [(0, .ref (a 0)), (1, .int v1), (2, .int v2), (3, .int v3), (4, .int v4), (6, .int v6), (7, .int v7), (8, .int v8)] → m_L_sums_J103 (lpo (b_L_sums_L26 g) n26) g v1 v2 v3 v4 v6 v7 v8 w0 w1 = some r → W p l e (rmm 8 183) s m args below meth c H locs 0 0 Q (F0 m 103 ls [.int w1, .int w0]) := by
        intro v1 v2 v3 v4 v6 v7 v8 w0 w1 H locs ls hP hS hl h
        unfold m_L_sums_J103 at h
        refine lv_iadd hx hb dL_sums_103 ?_
        refine lv_istore (lv' := [(5, .int (w0 + w1)), (0, .ref (a 0)), (1, .int v1), (2, .int v2), (3, .int v3), (4, .int v4), (6, .int v6), (7, .int v7), (8, .int v8)]) hx hb dL_sums_104 hl (by decide) rfl (fun ls hl => ?_)
        refine lv_aload_n hx hb dL_sums_106 rfl (lv_at hl 1 rfl) ?_
        refine lv_iload hx hb dL_sums_107 (lv_at hl 8 rfl) ?_
        refine lv_iconst (v := (0 : Int32)) hx hb dL_sums_109 (by decide) ?_
        obtain ⟨r110, hcal, h⟩ := bnd_s h
        refine x_VI (As := [.int v8, .int (0 : Int32)]) hx hb hml hown hts hK hP hS (ct_X6_slice l D a cA cT hI g v8 (0 : Int32) r110 hcal) tF_0 (C := RX6) (F := TX6) (N := 5) rfl (g_V q328 q329 q330 q35 q331) yd_X6_slice ⟨Nat.le_of_ble_eq_true rfl, Nat.le_of_ble_eq_true rfl⟩ [] rfl (Nat.le_of_ble_eq_true rfl) hl.1 ⟨Nat.le_refl _, Nat.le_refl _⟩ dL_sums_110 (fun H locs hP hS => ?_)
        refine lv_iload hx hb dL_sums_113 (lv_at hl 5 rfl) ?_
        refine lv_icmp_le (tgt := 155) hx hb dL_sums_115 (by decide) (fun hc => ?_) (fun hc => ?_)
        · have h := ite_t hc h
          exact J155 v1 v2 v3 (w0 + w1) v6 v7 v8 _ _ _ hP hS (lv_sub hl [1, 2, 3, 4, 0, 6, 7, 8] rfl) h
        · have h := ite_f hc h
          refine lv_aload_n hx hb dL_sums_118 rfl (lv_at hl 1 rfl) ?_
          refine lv_iload hx hb dL_sums_119 (lv_at hl 0 rfl) ?_
          refine lv_iconst (v := (1 : Int32)) hx hb dL_sums_121 (by decide) ?_
          refine lv_isub hx hb dL_sums_122 ?_
          refine lv_iconst (v := (0 : Int32)) hx hb dL_sums_123 (by decide) ?_
          obtain ⟨r124, hcal, h⟩ := bnd_s h
          refine x_VI (As := [.int ((w0 + w1) - (1 : Int32)), .int (0 : Int32)]) hx hb hml hown hts hK hP hS (ct_X6_gap l D a cA cT hI g ((w0 + w1) - (1 : Int32)) (0 : Int32) r124 hcal) tF_0 (C := RX6) (F := TX6) (N := 5) rfl (g_V q384 q385 q386 q35 q387) yd_X6_gap ⟨Nat.le_of_ble_eq_true rfl, Nat.le_of_ble_eq_true rfl⟩ [] rfl (Nat.le_of_ble_eq_true rfl) hl.1 ⟨Nat.le_refl _, Nat.le_refl _⟩ dL_sums_124 (fun H locs hP hS => ?_)
          refine lv_iload hx hb dL_sums_127 (lv_at hl 5 rfl) ?_
          refine lv_icmp_ne (tgt := 153) hx hb dL_sums_129 (by decide) (fun hc => ?_) (fun hc => ?_)
          · have h := ite_f hc h
            refine lv_iconst (v := (0 : Int32)) hx hb dL_sums_153 (by decide) ?_
            obtain rfl := Option.some.inj h
            exact hend _ _ _ _ dL_sums_154 rfl hP hS
          · have h := ite_t hc h
            refine lv_aload_n hx hb dL_sums_132 rfl (lv_at hl 1 rfl) ?_
            refine lv_iload hx hb dL_sums_133 (lv_at hl 0 rfl) ?_
            refine lv_iconst (v := (1 : Int32)) hx hb dL_sums_135 (by decide) ?_
            refine lv_isub hx hb dL_sums_136 ?_
            refine lv_iconst (v := (1 : Int32)) hx hb dL_sums_137 (by decide) ?_
            obtain ⟨r138, hcal, h⟩ := bnd_s h
            refine x_VI (As := [.int ((w0 + w1) - (1 : Int32)), .int (1 : Int32)]) hx hb hml hown hts hK hP hS (ct_X6_gap l D a cA cT hI g ((w0 + w1) - (1 : Int32)) (1 : Int32) r138 hcal) tF_0 (C := RX6) (F := TX6) (N := 5) rfl (g_V q384 q385 q386 q35 q387) yd_X6_gap ⟨Nat.le_of_ble_eq_true rfl, Nat.le_of_ble_eq_true rfl⟩ [] rfl (Nat.le_of_ble_eq_true rfl) hl.1 ⟨Nat.le_refl _, Nat.le_refl _⟩ dL_sums_138 (fun H locs hP hS => ?_)
            refine lv_aload_n hx hb dL_sums_141 rfl (lv_at hl 1 rfl) ?_
            refine lv_iload hx hb dL_sums_142 (lv_at hl 8 rfl) ?_
            refine lv_iconst (v := (0 : Int32)) hx hb dL_sums_144 (by decide) ?_
            obtain ⟨r145, hcal, h⟩ := bnd_s h
            refine x_VI (As := [.int v8, .int (0 : Int32)]) hx hb hml hown hts hK hP hS (ct_X6_slice l D a cA cT hI g v8 (0 : Int32) r145 hcal) tF_0 (C := RX6) (F := TX6) (N := 5) rfl (g_V q328 q329 q330 q35 q331) yd_X6_slice ⟨Nat.le_of_ble_eq_true rfl, Nat.le_of_ble_eq_true rfl⟩ [.int r138] rfl (Nat.le_of_ble_eq_true rfl) hl.1 ⟨Nat.le_refl _, Nat.le_refl _⟩ dL_sums_145 (fun H locs hP hS => ?_)
            refine lv_iconst (v := (1 : Int32)) hx hb dL_sums_148 (by decide) ?_
            refine lv_isub hx hb dL_sums_149 ?_
            refine lv_icmp_eq (tgt := 155) hx hb dL_sums_150 (by decide) (fun hc => ?_) (fun hc => ?_)
            · have h := ite_t hc h
              exact J155 v1 v2 v3 (w0 + w1) v6 v7 v8 _ _ _ hP hS (lv_sub hl [1, 2, 3, 4, 0, 6, 7, 8] rfl) h
            · have h := ite_f hc h
              refine lv_iconst (v := (0 : Int32)) hx hb dL_sums_153 (by decide) ?_
              obtain rfl := Option.some.inj h
              exact hend _ _ _ _ dL_sums_154 rfl hP hS
      refine lv_iload hx hb dL_sums_26 (lv_at hl 7 rfl) ?_
      refine lv_aload_n hx hb dL_sums_28 rfl (lv_at hl 0 rfl) ?_
      refine lv_iconst (v := (0 : Int32)) hx hb dL_sums_29 (by decide) ?_
      obtain ⟨r30, hcal, h⟩ := bnd_s h
      refine x_VI (As := [.int (0 : Int32)]) hx hb hml hown hts hK hP hS (ct_X6_count l D a cA cT hI g (0 : Int32) r30 hcal) tF_0 (C := RX6) (F := TX6) (N := 5) rfl (g_V q212 q213 q214 q35 q215) yd_X6_count ⟨Nat.le_of_ble_eq_true rfl, Nat.le_of_ble_eq_true rfl⟩ [.int v7] rfl (Nat.le_of_ble_eq_true rfl) hl.1 ⟨Nat.le_refl _, Nat.le_refl _⟩ dL_sums_30 (fun H locs hP hS => ?_)
      refine lv_icmp_ge (tgt := 262) hx hb dL_sums_33 (by decide) (fun hc => ?_) (fun hc => ?_)
      · have h := ite_t hc h
        refine lv_iload hx hb dL_sums_262 (lv_at hl 5 rfl) ?_
        refine lv_iload hx hb dL_sums_264 (lv_at hl 4 rfl) ?_
        refine lv_sipush (v := (1000 : Int32)) hx hb dL_sums_266 (by decide) ?_
        refine lv_icmp_ge (tgt := 276) hx hb dL_sums_269 (by decide) (fun hc => ?_) (fun hc => ?_)
        · have h := ite_t hc h
          refine lv_iconst (v := (0 : Int32)) hx hb dL_sums_276 (by decide) ?_
          exact J277 v1 v2 v3 v4 v6 v5 (0 : Int32) _ _ _ hP hS (lv_sub hl [0, 1, 2, 3, 4, 6] rfl) h
        · have h := ite_f hc h
          refine lv_iconst (v := (1 : Int32)) hx hb dL_sums_272 (by decide) ?_
          refine lv_goto (tgt := 277) hx hb dL_sums_273 (by decide) ?_
          exact J277 v1 v2 v3 v4 v6 v5 (1 : Int32) _ _ _ hP hS (lv_sub hl [0, 1, 2, 3, 4, 6] rfl) h
      · have h := ite_f hc h
        refine lv_aload_n hx hb dL_sums_36 rfl (lv_at hl 0 rfl) ?_
        refine lv_iload hx hb dL_sums_37 (lv_at hl 7 rfl) ?_
        obtain ⟨r39, hcal, h⟩ := bnd_s h
        refine x_VI (As := [.int v7]) hx hb hml hown hts hK hP hS (ct_X6_ordered l D a cA cT hI g v7 r39 hcal) tF_0 (C := RX6) (F := TX6) (N := 5) rfl (g_V q365 q366 q367 q35 q368) yd_X6_ordered ⟨Nat.le_of_ble_eq_true rfl, Nat.le_of_ble_eq_true rfl⟩ [] rfl (Nat.le_of_ble_eq_true rfl) hl.1 ⟨Nat.le_refl _, Nat.le_refl _⟩ dL_sums_39 (fun H locs hP hS => ?_)
        refine lv_istore (lv' := [(8, .int r39), (0, .ref (a 0)), (1, .int v1), (2, .int v2), (3, .int v3), (4, .int v4), (5, .int v5), (6, .int v6), (7, .int v7)]) hx hb dL_sums_42 hl (by decide) rfl (fun ls hl => ?_)
        refine lv_aload_n hx hb dL_sums_44 rfl (lv_at hl 1 rfl) ?_
        refine lv_iload hx hb dL_sums_45 (lv_at hl 0 rfl) ?_
        refine lv_iconst (v := (0 : Int32)) hx hb dL_sums_47 (by decide) ?_
        obtain ⟨r48, hcal, h⟩ := bnd_s h
        refine x_VI (As := [.int r39, .int (0 : Int32)]) hx hb hml hown hts hK hP hS (ct_X6_slice l D a cA cT hI g r39 (0 : Int32) r48 hcal) tF_0 (C := RX6) (F := TX6) (N := 5) rfl (g_V q328 q329 q330 q35 q331) yd_X6_slice ⟨Nat.le_of_ble_eq_true rfl, Nat.le_of_ble_eq_true rfl⟩ [] rfl (Nat.le_of_ble_eq_true rfl) hl.1 ⟨Nat.le_refl _, Nat.le_refl _⟩ dL_sums_48 (fun H locs hP hS => ?_)
        refine lv_iload hx hb dL_sums_51 (lv_at hl 5 rfl) ?_
        refine lv_icmp_lt (tgt := 82) hx hb dL_sums_53 (by decide) (fun hc => ?_) (fun hc => ?_)
        · have h := ite_t hc h
          refine lv_iconst (v := (0 : Int32)) hx hb dL_sums_82 (by decide) ?_
          obtain rfl := Option.some.inj h
          exact hend _ _ _ _ dL_sums_83 rfl hP hS
        · have h := ite_f hc h
          refine lv_aload_n hx hb dL_sums_56 rfl (lv_at hl 1 rfl) ?_
          refine lv_iload hx hb dL_sums_57 (lv_at hl 0 rfl) ?_
          refine lv_iconst (v := (1 : Int32)) hx hb dL_sums_59 (by decide) ?_
          obtain ⟨r60, hcal, h⟩ := bnd_s h
          refine x_VI (As := [.int r39, .int (1 : Int32)]) hx hb hml hown hts hK hP hS (ct_X6_slice l D a cA cT hI g r39 (1 : Int32) r60 hcal) tF_0 (C := RX6) (F := TX6) (N := 5) rfl (g_V q328 q329 q330 q35 q331) yd_X6_slice ⟨Nat.le_of_ble_eq_true rfl, Nat.le_of_ble_eq_true rfl⟩ [] rfl (Nat.le_of_ble_eq_true rfl) hl.1 ⟨Nat.le_refl _, Nat.le_refl _⟩ dL_sums_60 (fun H locs hP hS => ?_)
          refine lv_aload_n hx hb dL_sums_63 rfl (lv_at hl 1 rfl) ?_
          refine lv_iload hx hb dL_sums_64 (lv_at hl 0 rfl) ?_
          refine lv_iconst (v := (0 : Int32)) hx hb dL_sums_66 (by decide) ?_
          obtain ⟨r67, hcal, h⟩ := bnd_s h
          refine x_VI (As := [.int r39, .int (0 : Int32)]) hx hb hml hown hts hK hP hS (ct_X6_slice l D a cA cT hI g r39 (0 : Int32) r67 hcal) tF_0 (C := RX6) (F := TX6) (N := 5) rfl (g_V q328 q329 q330 q35 q331) yd_X6_slice ⟨Nat.le_of_ble_eq_true rfl, Nat.le_of_ble_eq_true rfl⟩ [.int r60] rfl (Nat.le_of_ble_eq_true rfl) hl.1 ⟨Nat.le_refl _, Nat.le_refl _⟩ dL_sums_67 (fun H locs hP hS => ?_)
          refine lv_icmp_le (tgt := 82) hx hb dL_sums_70 (by decide) (fun hc => ?_) (fun hc => ?_)
          · have h := ite_t hc h
            refine lv_iconst (v := (0 : Int32)) hx hb dL_sums_82 (by decide) ?_
            obtain rfl := Option.some.inj h
            exact hend _ _ _ _ dL_sums_83 rfl hP hS
          · have h := ite_f hc h
            refine lv_aload_n hx hb dL_sums_73 rfl (lv_at hl 1 rfl) ?_
            refine lv_iload hx hb dL_sums_74 (lv_at hl 0 rfl) ?_
            obtain ⟨r76, hcal, h⟩ := bnd_s h
            refine x_SI (As := [.ref (a 0), .int r39]) hx hb hml hown hts hK hP hS (ct_L_place l D a cA cT hI g r39 r76 hcal) (g_S q370 q371 q34 q372) yd_L_place ⟨Nat.le_of_ble_eq_true rfl, Nat.le_of_ble_eq_true rfl⟩ [] rfl (Nat.le_of_ble_eq_true rfl) hl.1 ⟨Nat.le_refl _, Nat.le_refl _⟩ dL_sums_76 (fun H locs hP hS => ?_)
            refine lv_if_ne (tgt := 84) hx hb dL_sums_79 (by decide) (fun hc => ?_) (fun hc => ?_)
            · have h := ite_f hc h
              refine lv_iload hx hb dL_sums_84 (lv_at hl 6 rfl) ?_
              refine lv_aload_n hx hb dL_sums_86 rfl (lv_at hl 1 rfl) ?_
              refine lv_iload hx hb dL_sums_87 (lv_at hl 0 rfl) ?_
              refine lv_iconst (v := (0 : Int32)) hx hb dL_sums_89 (by decide) ?_
              obtain ⟨r90, hcal, h⟩ := bnd_s h
              refine x_VI (As := [.int r39, .int (0 : Int32)]) hx hb hml hown hts hK hP hS (ct_X6_slice l D a cA cT hI g r39 (0 : Int32) r90 hcal) tF_0 (C := RX6) (F := TX6) (N := 5) rfl (g_V q328 q329 q330 q35 q331) yd_X6_slice ⟨Nat.le_of_ble_eq_true rfl, Nat.le_of_ble_eq_true rfl⟩ [.int v5] rfl (Nat.le_of_ble_eq_true rfl) hl.1 ⟨Nat.le_refl _, Nat.le_refl _⟩ dL_sums_90 (fun H locs hP hS => ?_)
              refine lv_iload hx hb dL_sums_93 (lv_at hl 5 rfl) ?_
              refine lv_icmp_le (tgt := 102) hx hb dL_sums_95 (by decide) (fun hc => ?_) (fun hc => ?_)
              · have h := ite_t hc h
                refine lv_iconst (v := (0 : Int32)) hx hb dL_sums_102 (by decide) ?_
                exact J103 v1 v2 v3 v4 v6 v7 r39 v5 (0 : Int32) _ _ _ hP hS (lv_sub hl [1, 2, 3, 4, 5, 7, 8, 0] rfl) h
              · have h := ite_f hc h
                refine lv_iconst (v := (1 : Int32)) hx hb dL_sums_98 (by decide) ?_
                refine lv_goto (tgt := 103) hx hb dL_sums_99 (by decide) ?_
                exact J103 v1 v2 v3 v4 v6 v7 r39 v5 (1 : Int32) _ _ _ hP hS (lv_sub hl [1, 2, 3, 4, 5, 7, 8, 0] rfl) h
            · have h := ite_t hc h
              refine lv_iconst (v := (0 : Int32)) hx hb dL_sums_82 (by decide) ?_
              obtain rfl := Option.some.inj h
              exact hend _ _ _ _ dL_sums_83 rfl hP hS
  exact K26 fuelN r4 (0 : Int32) (0 : Int32) (0 : Int32) (0 : Int32) (-1005 : Int32) (0 : Int32) _ _ _ hP hS (lv_sub hl [7, 6, 5, 4, 3, 2, 1, 0] rfl) h
set_option maxHeartbeats 4000000 in
set_option maxRecDepth 100000 in
theorem ct_L_back (l : Launch) (D : va_G) (a : Nat → Nat) (cA cT : ClassId) (hI : WI a TC) (g : MG) (x1 : Int32) (x2 : Int32)  (r : Int32) (g' : MG) (h : m_L_back g x1 x2 = some (r, g')) :
    CtI l D a cA cT TC yL_back (Cond.code yL_back cL_back 13 (some .boolean) :: lw_all) (rmm 7 157) [.ref (a 0), .int x1, .int x2] g r g' := by
  refine CtI.of (by decide +kernel) (Nat.le_of_ble_eq_true rfl) ?_
  intro p e s m args below meth c Q ls hx hb hml hown hts hK hP hS hl hend
  have hl : lv_has ls 13 [(0, .ref (a 0)), (1, .int x1), (2, .int x2)] := hl
  unfold m_L_back at h
  have J518 : ∀ (v3 : Int32) (v4 : Int32) (v5 : Int32) (v6 : Int32) (v7 : Int32) (g518 : MG) (H : Heap) (locs : List Loc) (ls : Array Slot), WP D a cA cT TC g518 H → va_S (AA a TC) s.heap H locs → lv_has ls 13 [(0, .ref (a 0)), (3, .int v3), (4, .int v4), (5, .int v5), (6, .int v6), (7, .int v7)] → m_L_back_J518 x1 x2 v3 v4 v5 v6 v7 g518 = some (r, g') → W p l e (rmm 7 157) s m args below meth c H locs 0 0 Q (F0 m 518 ls []) := by
    intro v3 v4 v5 v6 v7 g518 H locs ls hP hS hl h
    unfold m_L_back_J518 at h
    refine lv_aload_n hx hb dL_back_518 rfl (lv_at hl 0 rfl) ?_
    refine lv_iload_n hx hb dL_back_519 rfl (lv_at hl 1 rfl) ?_
    refine lv_iconst (v := (0 : Int32)) hx hb dL_back_520 (by decide) ?_
    obtain ⟨r521, hcal, h⟩ := bnd_s h
    refine x_VI (As := [.int v3, .int (0 : Int32)]) hx hb hml hown hts hK hP hS (ct_X6_slice l D a cA cT hI g518 v3 (0 : Int32) r521 hcal) tF_0 (C := RX6) (F := TX6) (N := 5) rfl (g_V q328 q329 q330 q35 q331) yd_X6_slice ⟨Nat.le_of_ble_eq_true rfl, Nat.le_of_ble_eq_true rfl⟩ [] rfl (Nat.le_of_ble_eq_true rfl) hl.1 ⟨Nat.le_refl _, Nat.le_refl _⟩ dL_back_521 (fun H locs hP hS => ?_)
    refine lv_iload hx hb dL_back_524 (lv_at hl 2 rfl) ?_
    refine lv_icmp_ne (tgt := 566) hx hb dL_back_526 (by decide) (fun hc => ?_) (fun hc => ?_)
    · have h := ite_f hc h
      refine lv_iconst (v := (0 : Int32)) hx hb dL_back_566 (by decide) ?_
      obtain ⟨rfl, rfl⟩ := Prod.mk.inj (Option.some.inj h)
      exact hend _ _ _ _ dL_back_567 rfl hP hS
    · have h := ite_t hc h
      refine lv_aload_n hx hb dL_back_529 rfl (lv_at hl 0 rfl) ?_
      refine lv_iload_n hx hb dL_back_530 rfl (lv_at hl 1 rfl) ?_
      refine lv_iconst (v := (1 : Int32)) hx hb dL_back_531 (by decide) ?_
      obtain ⟨r532, hcal, h⟩ := bnd_s h
      refine x_VI (As := [.int v3, .int (1 : Int32)]) hx hb hml hown hts hK hP hS (ct_X6_slice l D a cA cT hI g518 v3 (1 : Int32) r532 hcal) tF_0 (C := RX6) (F := TX6) (N := 5) rfl (g_V q328 q329 q330 q35 q331) yd_X6_slice ⟨Nat.le_of_ble_eq_true rfl, Nat.le_of_ble_eq_true rfl⟩ [] rfl (Nat.le_of_ble_eq_true rfl) hl.1 ⟨Nat.le_refl _, Nat.le_refl _⟩ dL_back_532 (fun H locs hP hS => ?_)
      refine lv_iload hx hb dL_back_535 (lv_at hl 3 rfl) ?_
      refine lv_icmp_ne (tgt := 566) hx hb dL_back_537 (by decide) (fun hc => ?_) (fun hc => ?_)
      · have h := ite_f hc h
        refine lv_iconst (v := (0 : Int32)) hx hb dL_back_566 (by decide) ?_
        obtain ⟨rfl, rfl⟩ := Prod.mk.inj (Option.some.inj h)
        exact hend _ _ _ _ dL_back_567 rfl hP hS
      · have h := ite_t hc h
        refine lv_aload_n hx hb dL_back_540 rfl (lv_at hl 0 rfl) ?_
        refine lv_iload_n hx hb dL_back_541 rfl (lv_at hl 1 rfl) ?_
        refine lv_iconst (v := (2 : Int32)) hx hb dL_back_542 (by decide) ?_
        obtain ⟨r543, hcal, h⟩ := bnd_s h
        refine x_VI (As := [.int v3, .int (2 : Int32)]) hx hb hml hown hts hK hP hS (ct_X6_slice l D a cA cT hI g518 v3 (2 : Int32) r543 hcal) tF_0 (C := RX6) (F := TX6) (N := 5) rfl (g_V q328 q329 q330 q35 q331) yd_X6_slice ⟨Nat.le_of_ble_eq_true rfl, Nat.le_of_ble_eq_true rfl⟩ [] rfl (Nat.le_of_ble_eq_true rfl) hl.1 ⟨Nat.le_refl _, Nat.le_refl _⟩ dL_back_543 (fun H locs hP hS => ?_)
        refine lv_iload hx hb dL_back_546 (lv_at hl 4 rfl) ?_
        refine lv_icmp_ne (tgt := 566) hx hb dL_back_548 (by decide) (fun hc => ?_) (fun hc => ?_)
        · have h := ite_f hc h
          refine lv_iconst (v := (0 : Int32)) hx hb dL_back_566 (by decide) ?_
          obtain ⟨rfl, rfl⟩ := Prod.mk.inj (Option.some.inj h)
          exact hend _ _ _ _ dL_back_567 rfl hP hS
        · have h := ite_t hc h
          refine lv_aload_n hx hb dL_back_551 rfl (lv_at hl 0 rfl) ?_
          refine lv_iload_n hx hb dL_back_552 rfl (lv_at hl 1 rfl) ?_
          refine lv_iconst (v := (5 : Int32)) hx hb dL_back_553 (by decide) ?_
          obtain ⟨r554, hcal, h⟩ := bnd_s h
          refine x_VI (As := [.int v3, .int (5 : Int32)]) hx hb hml hown hts hK hP hS (ct_X6_slice l D a cA cT hI g518 v3 (5 : Int32) r554 hcal) tF_0 (C := RX6) (F := TX6) (N := 5) rfl (g_V q328 q329 q330 q35 q331) yd_X6_slice ⟨Nat.le_of_ble_eq_true rfl, Nat.le_of_ble_eq_true rfl⟩ [] rfl (Nat.le_of_ble_eq_true rfl) hl.1 ⟨Nat.le_refl _, Nat.le_refl _⟩ dL_back_554 (fun H locs hP hS => ?_)
          refine lv_iload hx hb dL_back_557 (lv_at hl 5 rfl) ?_
          refine lv_icmp_ne (tgt := 566) hx hb dL_back_559 (by decide) (fun hc => ?_) (fun hc => ?_)
          · have h := ite_f hc h
            refine lv_iconst (v := (0 : Int32)) hx hb dL_back_566 (by decide) ?_
            obtain ⟨rfl, rfl⟩ := Prod.mk.inj (Option.some.inj h)
            exact hend _ _ _ _ dL_back_567 rfl hP hS
          · have h := ite_t hc h
            refine lv_iconst (v := (1 : Int32)) hx hb dL_back_562 (by decide) ?_
            refine lv_goto (tgt := 567) hx hb dL_back_563 (by decide) ?_
            obtain ⟨rfl, rfl⟩ := Prod.mk.inj (Option.some.inj h)
            exact hend _ _ _ _ dL_back_567 rfl hP hS
  have J503 : ∀ (v3 : Int32) (v4 : Int32) (v5 : Int32) (v6 : Int32) (v7 : Int32) (v12 : Int32) (g503 : MG) (H : Heap) (locs : List Loc) (ls : Array Slot), WP D a cA cT TC g503 H → va_S (AA a TC) s.heap H locs → lv_has ls 13 [(0, .ref (a 0)), (3, .int v3), (4, .int v4), (5, .int v5), (6, .int v6), (7, .int v7), (12, .int v12)] → m_L_back_J503 x1 x2 v3 v4 v5 v6 v7 v12 g503 = some (r, g') → W p l e (rmm 7 157) s m args below meth c H locs 0 0 Q (F0 m 503 ls []) := by
    intro v3 v4 v5 v6 v7 v12 g503 H locs ls hP hS hl h
    unfold m_L_back_J503 at h
    refine lv_aload_n hx hb dL_back_503 rfl (lv_at hl 0 rfl) ?_
    obtain ⟨r504, g504, hcal, h⟩ := bnd2_s h
    refine x_VI (As := []) hx hb hml hown hts hK hP hS (ct_X6_undo l D a cA cT hI g503 r504 g504 hcal) tF_0 (C := RX6) (F := TX6) (N := 5) rfl (g_V q178 q179 q180 q35 q181) yd_X6_undo ⟨Nat.le_of_ble_eq_true rfl, Nat.le_of_ble_eq_true rfl⟩ [] rfl (Nat.le_of_ble_eq_true rfl) hl.1 ⟨Nat.le_refl _, Nat.le_refl _⟩ dL_back_504 (fun H locs hP hS => ?_)
    refine lv_pop hx hb dL_back_507 rfl ?_
    refine lv_iload hx hb dL_back_508 (lv_at hl 6 rfl) ?_
    refine lv_if_lt (tgt := 518) hx hb dL_back_510 (by decide) (fun hc => ?_) (fun hc => ?_)
    · have h := ite_t hc h
      exact J518 v3 v4 v5 v6 v7 g504 _ _ _ hP hS (lv_sub hl [0, 1, 2, 3, 4, 5] rfl) h
    · have h := ite_f hc h
      refine lv_aload_n hx hb dL_back_513 rfl (lv_at hl 0 rfl) ?_
      obtain ⟨r514, g514, hcal, h⟩ := bnd2_s h
      refine x_VI (As := []) hx hb hml hown hts hK hP hS (ct_X6_undo l D a cA cT hI g504 r514 g514 hcal) tF_0 (C := RX6) (F := TX6) (N := 5) rfl (g_V q178 q179 q180 q35 q181) yd_X6_undo ⟨Nat.le_of_ble_eq_true rfl, Nat.le_of_ble_eq_true rfl⟩ [] rfl (Nat.le_of_ble_eq_true rfl) hl.1 ⟨Nat.le_refl _, Nat.le_refl _⟩ dL_back_514 (fun H locs hP hS => ?_)
      refine lv_pop hx hb dL_back_517 rfl ?_
      exact J518 v3 v4 v5 v6 v7 g514 _ _ _ hP hS (lv_sub hl [0, 1, 2, 3, 4, 5] rfl) h
  have J403 : ∀ (v3 : Int32) (v4 : Int32) (v5 : Int32) (v6 : Int32) (v7 : Int32) (v8 : Int32) (v10 : Int32) (g403 : MG) (H : Heap) (locs : List Loc) (ls : Array Slot), WP D a cA cT TC g403 H → va_S (AA a TC) s.heap H locs → lv_has ls 13 [(0, .ref (a 0)), (3, .int v3), (4, .int v4), (5, .int v5), (6, .int v6), (7, .int v7), (8, .int v8), (10, .int v10)] → m_L_back_J403 x1 x2 v3 v4 v5 v6 v7 v8 v10 g403 = some (r, g') → W p l e (rmm 7 157) s m args below meth c H locs 0 0 Q (F0 m 403 ls []) := by
    intro v3 v4 v5 v6 v7 v8 v10 g403 H locs ls hP hS hl h
    unfold m_L_back_J403 at h
    refine lv_iload hx hb dL_back_403 (lv_at hl 4 rfl) ?_
    refine lv_bipush (v := (20 : Int32)) hx hb dL_back_405 (by decide) ?_
    refine lv_icmp_gt (tgt := 518) hx hb dL_back_407 (by decide) (fun hc => ?_) (fun hc => ?_)
    · have h := ite_t hc h
      exact J518 v3 v4 v5 v6 v7 g403 _ _ _ hP hS (lv_sub hl [0, 1, 2, 3, 4, 5] rfl) h
    · have h := ite_f hc h
      refine lv_iload hx hb dL_back_410 (lv_at hl 7 rfl) ?_
      refine lv_if_ne (tgt := 518) hx hb dL_back_412 (by decide) (fun hc => ?_) (fun hc => ?_)
      · have h := ite_f hc h
        exact J518 v3 v4 v5 v6 v7 g403 _ _ _ hP hS (lv_sub hl [0, 1, 2, 3, 4, 5] rfl) h
      · have h := ite_t hc h
        refine lv_iload hx hb dL_back_415 (lv_at hl 6 rfl) ?_
        refine lv_if_ne (tgt := 518) hx hb dL_back_417 (by decide) (fun hc => ?_) (fun hc => ?_)
        · have h := ite_f hc h
          exact J518 v3 v4 v5 v6 v7 g403 _ _ _ hP hS (lv_sub hl [0, 1, 2, 3, 4, 5] rfl) h
        · have h := ite_t hc h
          refine lv_aload_n hx hb dL_back_420 rfl (lv_at hl 0 rfl) ?_
          refine lv_iload_n hx hb dL_back_421 rfl (lv_at hl 1 rfl) ?_
          obtain ⟨r422, g422, hcal, h⟩ := bnd2_s h
          refine x_VI (As := [.int v3]) hx hb hml hown hts hK hP hS (ct_X6_detach l D a cA cT hI g403 v3 r422 g422 hcal) tF_0 (C := RX6) (F := TX6) (N := 5) rfl (g_V q510 q511 q512 q35 q513) yd_X6_detach ⟨Nat.le_of_ble_eq_true rfl, Nat.le_of_ble_eq_true rfl⟩ [] rfl (Nat.le_of_ble_eq_true rfl) hl.1 ⟨Nat.le_refl _, Nat.le_refl _⟩ dL_back_422 (fun H locs hP hS => ?_)
          refine lv_iload hx hb dL_back_425 (lv_at hl 4 rfl) ?_
          refine lv_icmp_ne (tgt := 452) hx hb dL_back_427 (by decide) (fun hc => ?_) (fun hc => ?_)
          · have h := ite_f hc h
            refine lv_iconst (v := (0 : Int32)) hx hb dL_back_452 (by decide) ?_
            obtain ⟨rfl, rfl⟩ := Prod.mk.inj (Option.some.inj h)
            exact hend _ _ _ _ dL_back_453 rfl hP hS
          · have h := ite_t hc h
            refine lv_aload_n hx hb dL_back_430 rfl (lv_at hl 0 rfl) ?_
            refine lv_iconst (v := (3 : Int32)) hx hb dL_back_431 (by decide) ?_
            obtain ⟨r432, hcal, h⟩ := bnd_s h
            refine x_VI (As := [.int (3 : Int32)]) hx hb hml hown hts hK hP hS (ct_X6_count l D a cA cT hI g422 (3 : Int32) r432 hcal) tF_0 (C := RX6) (F := TX6) (N := 5) rfl (g_V q212 q213 q214 q35 q215) yd_X6_count ⟨Nat.le_of_ble_eq_true rfl, Nat.le_of_ble_eq_true rfl⟩ [] rfl (Nat.le_of_ble_eq_true rfl) hl.1 ⟨Nat.le_refl _, Nat.le_refl _⟩ dL_back_432 (fun H locs hP hS => ?_)
            refine lv_iload hx hb dL_back_435 (lv_at hl 4 rfl) ?_
            refine lv_icmp_ne (tgt := 452) hx hb dL_back_437 (by decide) (fun hc => ?_) (fun hc => ?_)
            · have h := ite_f hc h
              refine lv_iconst (v := (0 : Int32)) hx hb dL_back_452 (by decide) ?_
              obtain ⟨rfl, rfl⟩ := Prod.mk.inj (Option.some.inj h)
              exact hend _ _ _ _ dL_back_453 rfl hP hS
            · have h := ite_t hc h
              refine lv_aload_n hx hb dL_back_440 rfl (lv_at hl 0 rfl) ?_
              refine lv_iload_n hx hb dL_back_441 rfl (lv_at hl 1 rfl) ?_
              refine lv_iconst (v := (0 : Int32)) hx hb dL_back_442 (by decide) ?_
              obtain ⟨r443, hcal, h⟩ := bnd_s h
              refine x_VI (As := [.int v3, .int (0 : Int32)]) hx hb hml hown hts hK hP hS (ct_X6_slice l D a cA cT hI g422 v3 (0 : Int32) r443 hcal) tF_0 (C := RX6) (F := TX6) (N := 5) rfl (g_V q328 q329 q330 q35 q331) yd_X6_slice ⟨Nat.le_of_ble_eq_true rfl, Nat.le_of_ble_eq_true rfl⟩ [] rfl (Nat.le_of_ble_eq_true rfl) hl.1 ⟨Nat.le_refl _, Nat.le_refl _⟩ dL_back_443 (fun H locs hP hS => ?_)
              refine lv_sipush (v := (-1001 : Int32)) hx hb dL_back_446 (by decide) ?_
              refine lv_icmp_eq (tgt := 454) hx hb dL_back_449 (by decide) (fun hc => ?_) (fun hc => ?_)
              · have h := ite_t hc h
                refine lv_aload_n hx hb dL_back_454 rfl (lv_at hl 0 rfl) ?_
                refine lv_iload hx hb dL_back_455 (lv_at hl 2 rfl) ?_
                refine lv_iload hx hb dL_back_457 (lv_at hl 3 rfl) ?_
                obtain ⟨r459, g459, hcal, h⟩ := bnd2_s h
                refine x_VI (As := [.int v4, .int v5]) hx hb hml hown hts hK hP hS (ct_X6_attach l D a cA cT hI g422 v4 v5 r459 g459 hcal) tF_0 (C := RX6) (F := TX6) (N := 5) rfl (g_V q515 q516 q517 q35 q518) yd_X6_attach ⟨Nat.le_of_ble_eq_true rfl, Nat.le_of_ble_eq_true rfl⟩ [] rfl (Nat.le_of_ble_eq_true rfl) hl.1 ⟨Nat.le_refl _, Nat.le_refl _⟩ dL_back_459 (fun H locs hP hS => ?_)
                refine lv_istore (lv' := [(12, .int r459), (0, .ref (a 0)), (3, .int v3), (4, .int v4), (5, .int v5), (6, .int v6), (7, .int v7), (8, .int v8), (10, .int v10)]) hx hb dL_back_462 hl (by decide) rfl (fun ls hl => ?_)
                refine lv_iload hx hb dL_back_464 (lv_at hl 0 rfl) ?_
                refine lv_if_lt (tgt := 503) hx hb dL_back_466 (by decide) (fun hc => ?_) (fun hc => ?_)
                · have h := ite_t hc h
                  exact J503 v3 v4 v5 v6 v7 r459 g459 _ _ _ hP hS (lv_sub hl [1, 2, 3, 4, 5, 6, 0] rfl) h
                · have h := ite_f hc h
                  refine lv_aload_n hx hb dL_back_469 rfl (lv_at hl 1 rfl) ?_
                  refine lv_iload hx hb dL_back_470 (lv_at hl 0 rfl) ?_
                  refine lv_iconst (v := (2 : Int32)) hx hb dL_back_472 (by decide) ?_
                  obtain ⟨r473, hcal, h⟩ := bnd_s h
                  refine x_VI (As := [.int r459, .int (2 : Int32)]) hx hb hml hown hts hK hP hS (ct_X6_slice l D a cA cT hI g459 r459 (2 : Int32) r473 hcal) tF_0 (C := RX6) (F := TX6) (N := 5) rfl (g_V q328 q329 q330 q35 q331) yd_X6_slice ⟨Nat.le_of_ble_eq_true rfl, Nat.le_of_ble_eq_true rfl⟩ [] rfl (Nat.le_of_ble_eq_true rfl) hl.1 ⟨Nat.le_refl _, Nat.le_refl _⟩ dL_back_473 (fun H locs hP hS => ?_)
                  refine lv_iload hx hb dL_back_476 (lv_at hl 5 rfl) ?_
                  refine lv_icmp_ne (tgt := 501) hx hb dL_back_478 (by decide) (fun hc => ?_) (fun hc => ?_)
                  · have h := ite_f hc h
                    refine lv_iconst (v := (0 : Int32)) hx hb dL_back_501 (by decide) ?_
                    obtain ⟨rfl, rfl⟩ := Prod.mk.inj (Option.some.inj h)
                    exact hend _ _ _ _ dL_back_502 rfl hP hS
                  · have h := ite_t hc h
                    refine lv_aload_n hx hb dL_back_481 rfl (lv_at hl 1 rfl) ?_
                    refine lv_iload hx hb dL_back_482 (lv_at hl 0 rfl) ?_
                    refine lv_iconst (v := (5 : Int32)) hx hb dL_back_484 (by decide) ?_
                    obtain ⟨r485, hcal, h⟩ := bnd_s h
                    refine x_VI (As := [.int r459, .int (5 : Int32)]) hx hb hml hown hts hK hP hS (ct_X6_slice l D a cA cT hI g459 r459 (5 : Int32) r485 hcal) tF_0 (C := RX6) (F := TX6) (N := 5) rfl (g_V q328 q329 q330 q35 q331) yd_X6_slice ⟨Nat.le_of_ble_eq_true rfl, Nat.le_of_ble_eq_true rfl⟩ [] rfl (Nat.le_of_ble_eq_true rfl) hl.1 ⟨Nat.le_refl _, Nat.le_refl _⟩ dL_back_485 (fun H locs hP hS => ?_)
                    refine lv_iload hx hb dL_back_488 (lv_at hl 6 rfl) ?_
                    refine lv_icmp_ne (tgt := 501) hx hb dL_back_490 (by decide) (fun hc => ?_) (fun hc => ?_)
                    · have h := ite_f hc h
                      refine lv_iconst (v := (0 : Int32)) hx hb dL_back_501 (by decide) ?_
                      obtain ⟨rfl, rfl⟩ := Prod.mk.inj (Option.some.inj h)
                      exact hend _ _ _ _ dL_back_502 rfl hP hS
                    · have h := ite_t hc h
                      refine lv_aload_n hx hb dL_back_493 rfl (lv_at hl 1 rfl) ?_
                      refine lv_iconst (v := (3 : Int32)) hx hb dL_back_494 (by decide) ?_
                      obtain ⟨r495, hcal, h⟩ := bnd_s h
                      refine x_VI (As := [.int (3 : Int32)]) hx hb hml hown hts hK hP hS (ct_X6_count l D a cA cT hI g459 (3 : Int32) r495 hcal) tF_0 (C := RX6) (F := TX6) (N := 5) rfl (g_V q212 q213 q214 q35 q215) yd_X6_count ⟨Nat.le_of_ble_eq_true rfl, Nat.le_of_ble_eq_true rfl⟩ [] rfl (Nat.le_of_ble_eq_true rfl) hl.1 ⟨Nat.le_refl _, Nat.le_refl _⟩ dL_back_495 (fun H locs hP hS => ?_)
                      refine lv_if_eq (tgt := 503) hx hb dL_back_498 (by decide) (fun hc => ?_) (fun hc => ?_)
                      · have h := ite_t hc h
                        exact J503 v3 v4 v5 v6 v7 r459 g459 _ _ _ hP hS (lv_sub hl [1, 2, 3, 4, 5, 6, 0] rfl) h
                      · have h := ite_f hc h
                        refine lv_iconst (v := (0 : Int32)) hx hb dL_back_501 (by decide) ?_
                        obtain ⟨rfl, rfl⟩ := Prod.mk.inj (Option.some.inj h)
                        exact hend _ _ _ _ dL_back_502 rfl hP hS
              · have h := ite_f hc h
                refine lv_iconst (v := (0 : Int32)) hx hb dL_back_452 (by decide) ?_
                obtain ⟨rfl, rfl⟩ := Prod.mk.inj (Option.some.inj h)
                exact hend _ _ _ _ dL_back_453 rfl hP hS
  have J331 : ∀ (v3 : Int32) (v4 : Int32) (v5 : Int32) (v6 : Int32) (v7 : Int32) (v8 : Int32) (v10 : Int32) (v11 : Int32) (v12 : Int32) (g331 : MG) (H : Heap) (locs : List Loc) (ls : Array Slot), WP D a cA cT TC g331 H → va_S (AA a TC) s.heap H locs → lv_has ls 13 [(0, .ref (a 0)), (3, .int v3), (4, .int v4), (5, .int v5), (6, .int v6), (7, .int v7), (8, .int v8), (10, .int v10), (11, .int v11), (12, .int v12)] → m_L_back_J331 x1 x2 v3 v4 v5 v6 v7 v8 v10 v11 v12 g331 = some (r, g') → W p l e (rmm 7 157) s m args below meth c H locs 0 0 Q (F0 m 331 ls []) := by
    intro v3 v4 v5 v6 v7 v8 v10 v11 v12 g331 H locs ls hP hS hl h
    unfold m_L_back_J331 at h
    refine lv_aload_n hx hb dL_back_331 rfl (lv_at hl 0 rfl) ?_
    refine lv_iconst (v := (3 : Int32)) hx hb dL_back_332 (by decide) ?_
    obtain ⟨r333, hcal, h⟩ := bnd_s h
    refine x_VI (As := [.int (3 : Int32)]) hx hb hml hown hts hK hP hS (ct_X6_count l D a cA cT hI g331 (3 : Int32) r333 hcal) tF_0 (C := RX6) (F := TX6) (N := 5) rfl (g_V q212 q213 q214 q35 q215) yd_X6_count ⟨Nat.le_of_ble_eq_true rfl, Nat.le_of_ble_eq_true rfl⟩ [] rfl (Nat.le_of_ble_eq_true rfl) hl.1 ⟨Nat.le_refl _, Nat.le_refl _⟩ dL_back_333 (fun H locs hP hS => ?_)
    refine lv_iload hx hb dL_back_336 (lv_at hl 4 rfl) ?_
    refine lv_icmp_ne (tgt := 391) hx hb dL_back_338 (by decide) (fun hc => ?_) (fun hc => ?_)
    · have h := ite_f hc h
      refine lv_iconst (v := (0 : Int32)) hx hb dL_back_391 (by decide) ?_
      obtain ⟨rfl, rfl⟩ := Prod.mk.inj (Option.some.inj h)
      exact hend _ _ _ _ dL_back_392 rfl hP hS
    · have h := ite_t hc h
      refine lv_aload_n hx hb dL_back_341 rfl (lv_at hl 0 rfl) ?_
      refine lv_iload_n hx hb dL_back_342 rfl (lv_at hl 1 rfl) ?_
      refine lv_bipush (v := (6 : Int32)) hx hb dL_back_343 (by decide) ?_
      obtain ⟨r345, hcal, h⟩ := bnd_s h
      refine x_VI (As := [.int v3, .int (6 : Int32)]) hx hb hml hown hts hK hP hS (ct_X6_slice l D a cA cT hI g331 v3 (6 : Int32) r345 hcal) tF_0 (C := RX6) (F := TX6) (N := 5) rfl (g_V q328 q329 q330 q35 q331) yd_X6_slice ⟨Nat.le_of_ble_eq_true rfl, Nat.le_of_ble_eq_true rfl⟩ [] rfl (Nat.le_of_ble_eq_true rfl) hl.1 ⟨Nat.le_refl _, Nat.le_refl _⟩ dL_back_345 (fun H locs hP hS => ?_)
      refine lv_iload hx hb dL_back_348 (lv_at hl 8 rfl) ?_
      refine lv_icmp_ne (tgt := 391) hx hb dL_back_350 (by decide) (fun hc => ?_) (fun hc => ?_)
      · have h := ite_f hc h
        refine lv_iconst (v := (0 : Int32)) hx hb dL_back_391 (by decide) ?_
        obtain ⟨rfl, rfl⟩ := Prod.mk.inj (Option.some.inj h)
        exact hend _ _ _ _ dL_back_392 rfl hP hS
      · have h := ite_t hc h
        refine lv_aload_n hx hb dL_back_353 rfl (lv_at hl 0 rfl) ?_
        refine lv_iload_n hx hb dL_back_354 rfl (lv_at hl 1 rfl) ?_
        refine lv_iconst (v := (0 : Int32)) hx hb dL_back_355 (by decide) ?_
        obtain ⟨r356, g356, hcal, h⟩ := bnd2_s h
        refine x_VI (As := [.int v3, .int (0 : Int32)]) hx hb hml hown hts hK hP hS (ct_X6_swap l D a cA cT hI g331 v3 (0 : Int32) r356 g356 hcal) tF_0 (C := RX6) (F := TX6) (N := 5) rfl (g_V q525 q526 q527 q35 q528) yd_X6_swap ⟨Nat.le_of_ble_eq_true rfl, Nat.le_of_ble_eq_true rfl⟩ [] rfl (Nat.le_of_ble_eq_true rfl) hl.1 ⟨Nat.le_refl _, Nat.le_refl _⟩ dL_back_356 (fun H locs hP hS => ?_)
        refine lv_iload hx hb dL_back_359 (lv_at hl 4 rfl) ?_
        refine lv_icmp_ne (tgt := 391) hx hb dL_back_361 (by decide) (fun hc => ?_) (fun hc => ?_)
        · have h := ite_f hc h
          refine lv_iconst (v := (0 : Int32)) hx hb dL_back_391 (by decide) ?_
          obtain ⟨rfl, rfl⟩ := Prod.mk.inj (Option.some.inj h)
          exact hend _ _ _ _ dL_back_392 rfl hP hS
        · have h := ite_t hc h
          refine lv_aload_n hx hb dL_back_364 rfl (lv_at hl 0 rfl) ?_
          refine lv_iload_n hx hb dL_back_365 rfl (lv_at hl 1 rfl) ?_
          refine lv_iconst (v := (5 : Int32)) hx hb dL_back_366 (by decide) ?_
          obtain ⟨r367, hcal, h⟩ := bnd_s h
          refine x_VI (As := [.int v3, .int (5 : Int32)]) hx hb hml hown hts hK hP hS (ct_X6_slice l D a cA cT hI g356 v3 (5 : Int32) r367 hcal) tF_0 (C := RX6) (F := TX6) (N := 5) rfl (g_V q328 q329 q330 q35 q331) yd_X6_slice ⟨Nat.le_of_ble_eq_true rfl, Nat.le_of_ble_eq_true rfl⟩ [] rfl (Nat.le_of_ble_eq_true rfl) hl.1 ⟨Nat.le_refl _, Nat.le_refl _⟩ dL_back_367 (fun H locs hP hS => ?_)
          refine lv_iload hx hb dL_back_370 (lv_at hl 5 rfl) ?_
          refine lv_icmp_ne (tgt := 391) hx hb dL_back_372 (by decide) (fun hc => ?_) (fun hc => ?_)
          · have h := ite_f hc h
            refine lv_iconst (v := (0 : Int32)) hx hb dL_back_391 (by decide) ?_
            obtain ⟨rfl, rfl⟩ := Prod.mk.inj (Option.some.inj h)
            exact hend _ _ _ _ dL_back_392 rfl hP hS
          · have h := ite_t hc h
            refine lv_aload_n hx hb dL_back_375 rfl (lv_at hl 0 rfl) ?_
            refine lv_aload_n hx hb dL_back_376 rfl (lv_at hl 0 rfl) ?_
            refine lv_iload_n hx hb dL_back_377 rfl (lv_at hl 1 rfl) ?_
            refine lv_iconst (v := (0 : Int32)) hx hb dL_back_378 (by decide) ?_
            obtain ⟨r379, hcal, h⟩ := bnd_s h
            refine x_VI (As := [.int v3, .int (0 : Int32)]) hx hb hml hown hts hK hP hS (ct_X6_lies l D a cA cT hI g356 v3 (0 : Int32) r379 hcal) tF_0 (C := RX6) (F := TX6) (N := 5) rfl (g_V q373 q374 q375 q35 q376) yd_X6_lies ⟨Nat.le_of_ble_eq_true rfl, Nat.le_of_ble_eq_true rfl⟩ [.ref (a 0)] rfl (Nat.le_of_ble_eq_true rfl) hl.1 ⟨Nat.le_refl _, Nat.le_refl _⟩ dL_back_379 (fun H locs hP hS => ?_)
            refine lv_iconst (v := (0 : Int32)) hx hb dL_back_382 (by decide) ?_
            obtain ⟨r383, hcal, h⟩ := bnd_s h
            refine x_VI (As := [.int r379, .int (0 : Int32)]) hx hb hml hown hts hK hP hS (ct_X6_row l D a cA cT hI g356 r379 (0 : Int32) r383 hcal) tF_0 (C := RX6) (F := TX6) (N := 5) rfl (g_V q306 q307 q308 q35 q309) yd_X6_row ⟨Nat.le_of_ble_eq_true rfl, Nat.le_of_ble_eq_true rfl⟩ [] rfl (Nat.le_of_ble_eq_true rfl) hl.1 ⟨Nat.le_refl _, Nat.le_refl _⟩ dL_back_383 (fun H locs hP hS => ?_)
            refine lv_iload hx hb dL_back_386 (lv_at hl 9 rfl) ?_
            refine lv_icmp_eq (tgt := 393) hx hb dL_back_388 (by decide) (fun hc => ?_) (fun hc => ?_)
            · have h := ite_t hc h
              refine lv_aload_n hx hb dL_back_393 rfl (lv_at hl 0 rfl) ?_
              obtain ⟨r394, g394, hcal, h⟩ := bnd2_s h
              refine x_VI (As := []) hx hb hml hown hts hK hP hS (ct_X6_undo l D a cA cT hI g356 r394 g394 hcal) tF_0 (C := RX6) (F := TX6) (N := 5) rfl (g_V q178 q179 q180 q35 q181) yd_X6_undo ⟨Nat.le_of_ble_eq_true rfl, Nat.le_of_ble_eq_true rfl⟩ [] rfl (Nat.le_of_ble_eq_true rfl) hl.1 ⟨Nat.le_refl _, Nat.le_refl _⟩ dL_back_394 (fun H locs hP hS => ?_)
              refine lv_pop hx hb dL_back_397 rfl ?_
              refine lv_aload_n hx hb dL_back_398 rfl (lv_at hl 0 rfl) ?_
              obtain ⟨r399, g399, hcal, h⟩ := bnd2_s h
              refine x_VI (As := []) hx hb hml hown hts hK hP hS (ct_X6_undo l D a cA cT hI g394 r399 g399 hcal) tF_0 (C := RX6) (F := TX6) (N := 5) rfl (g_V q178 q179 q180 q35 q181) yd_X6_undo ⟨Nat.le_of_ble_eq_true rfl, Nat.le_of_ble_eq_true rfl⟩ [] rfl (Nat.le_of_ble_eq_true rfl) hl.1 ⟨Nat.le_refl _, Nat.le_refl _⟩ dL_back_399 (fun H locs hP hS => ?_)
              refine lv_pop hx hb dL_back_402 rfl ?_
              exact J403 v3 v4 v5 v6 v7 v8 v10 g399 _ _ _ hP hS (lv_sub hl [0, 1, 2, 3, 4, 5, 6, 7] rfl) h
            · have h := ite_f hc h
              refine lv_iconst (v := (0 : Int32)) hx hb dL_back_391 (by decide) ?_
              obtain ⟨rfl, rfl⟩ := Prod.mk.inj (Option.some.inj h)
              exact hend _ _ _ _ dL_back_392 rfl hP hS
  have J310 : ∀ (v3 : Int32) (v4 : Int32) (v5 : Int32) (v6 : Int32) (v7 : Int32) (v8 : Int32) (v10 : Int32) (v11 : Int32) (v12 : Int32) (w0 : Int32) (w1 : Int32) (g310 : MG) (H : Heap) (locs : List Loc) (ls : Array Slot), WP D a cA cT TC g310 H → va_S (AA a TC) s.heap H locs → lv_has ls 13 [(0, .ref (a 0)), (3, .int v3), (4, .int v4), (5, .int v5), (6, .int v6), (7, .int v7), (8, .int v8), (10, .int v10), (11, .int v11), (12, .int v12)] → m_L_back_J310 x1 x2 v3 v4 v5 v6 v7 v8 v10 v11 v12 w0 w1 g310 = some (r, g') → W p l e (rmm 7 157) s m args below meth c H locs 0 0 Q (F0 m 310 ls [.int w1, .int w0]) := by
    intro v3 v4 v5 v6 v7 v8 v10 v11 v12 w0 w1 g310 H locs ls hP hS hl h
    unfold m_L_back_J310 at h
    refine lv_icmp_ne (tgt := 329) hx hb dL_back_310 (by decide) (fun hc => ?_) (fun hc => ?_)
    · have h := ite_f hc h
      refine lv_iconst (v := (0 : Int32)) hx hb dL_back_329 (by decide) ?_
      obtain ⟨rfl, rfl⟩ := Prod.mk.inj (Option.some.inj h)
      exact hend _ _ _ _ dL_back_330 rfl hP hS
    · have h := ite_t hc h
      refine lv_iload hx hb dL_back_313 (lv_at hl 8 rfl) ?_
      refine lv_if_le (tgt := 331) hx hb dL_back_315 (by decide) (fun hc => ?_) (fun hc => ?_)
      · have h := ite_t hc h
        exact J331 v3 v4 v5 v6 v7 v8 v10 v11 v12 g310 _ _ _ hP hS (lv_sub hl [0, 1, 2, 3, 4, 5, 6, 7, 8, 9] rfl) h
      · have h := ite_f hc h
        refine lv_aload_n hx hb dL_back_318 rfl (lv_at hl 0 rfl) ?_
        refine lv_iload_n hx hb dL_back_319 rfl (lv_at hl 1 rfl) ?_
        refine lv_iconst (v := (0 : Int32)) hx hb dL_back_320 (by decide) ?_
        obtain ⟨r321, g321, hcal, h⟩ := bnd2_s h
        refine x_VI (As := [.int v3, .int (0 : Int32)]) hx hb hml hown hts hK hP hS (ct_X6_swap l D a cA cT hI g310 v3 (0 : Int32) r321 g321 hcal) tF_0 (C := RX6) (F := TX6) (N := 5) rfl (g_V q525 q526 q527 q35 q528) yd_X6_swap ⟨Nat.le_of_ble_eq_true rfl, Nat.le_of_ble_eq_true rfl⟩ [] rfl (Nat.le_of_ble_eq_true rfl) hl.1 ⟨Nat.le_refl _, Nat.le_refl _⟩ dL_back_321 (fun H locs hP hS => ?_)
        refine lv_iload hx hb dL_back_324 (lv_at hl 7 rfl) ?_
        refine lv_icmp_eq (tgt := 331) hx hb dL_back_326 (by decide) (fun hc => ?_) (fun hc => ?_)
        · have h := ite_t hc h
          exact J331 v3 v4 v5 v6 v7 v8 v10 v11 v12 g321 _ _ _ hP hS (lv_sub hl [0, 1, 2, 3, 4, 5, 6, 7, 8, 9] rfl) h
        · have h := ite_f hc h
          refine lv_iconst (v := (0 : Int32)) hx hb dL_back_329 (by decide) ?_
          obtain ⟨rfl, rfl⟩ := Prod.mk.inj (Option.some.inj h)
          exact hend _ _ _ _ dL_back_330 rfl hP hS
  have J257 : ∀ (v3 : Int32) (v4 : Int32) (v5 : Int32) (v6 : Int32) (v7 : Int32) (v8 : Int32) (g257 : MG) (H : Heap) (locs : List Loc) (ls : Array Slot), WP D a cA cT TC g257 H → va_S (AA a TC) s.heap H locs → lv_has ls 13 [(0, .ref (a 0)), (3, .int v3), (4, .int v4), (5, .int v5), (6, .int v6), (7, .int v7), (8, .int v8)] → m_L_back_J257 x1 x2 v3 v4 v5 v6 v7 v8 g257 = some (r, g') → W p l e (rmm 7 157) s m args below meth c H locs 0 0 Q (F0 m 257 ls []) := by
    intro v3 v4 v5 v6 v7 v8 g257 H locs ls hP hS hl h
    unfold m_L_back_J257 at h
    refine lv_aload_n hx hb dL_back_257 rfl (lv_at hl 0 rfl) ?_
    refine lv_iconst (v := (3 : Int32)) hx hb dL_back_258 (by decide) ?_
    obtain ⟨r259, hcal, h⟩ := bnd_s h
    refine x_VI (As := [.int (3 : Int32)]) hx hb hml hown hts hK hP hS (ct_X6_count l D a cA cT hI g257 (3 : Int32) r259 hcal) tF_0 (C := RX6) (F := TX6) (N := 5) rfl (g_V q212 q213 q214 q35 q215) yd_X6_count ⟨Nat.le_of_ble_eq_true rfl, Nat.le_of_ble_eq_true rfl⟩ [] rfl (Nat.le_of_ble_eq_true rfl) hl.1 ⟨Nat.le_refl _, Nat.le_refl _⟩ dL_back_259 (fun H locs hP hS => ?_)
    refine lv_istore (lv' := [(10, .int r259), (0, .ref (a 0)), (3, .int v3), (4, .int v4), (5, .int v5), (6, .int v6), (7, .int v7), (8, .int v8)]) hx hb dL_back_262 hl (by decide) rfl (fun ls hl => ?_)
    refine lv_aload_n hx hb dL_back_264 rfl (lv_at hl 1 rfl) ?_
    refine lv_iload_n hx hb dL_back_265 rfl (lv_at hl 2 rfl) ?_
    obtain ⟨r266, hcal, h⟩ := bnd_s h
    refine x_VI (As := [.int v3]) hx hb hml hown hts hK hP hS (ct_X6_unfit l D a cA cT hI g257 v3 r266 hcal) tF_0 (C := RX6) (F := TX6) (N := 5) rfl (g_V q580 q581 q582 q35 q583) yd_X6_unfit ⟨Nat.le_of_ble_eq_true rfl, Nat.le_of_ble_eq_true rfl⟩ [] rfl (Nat.le_of_ble_eq_true rfl) hl.1 ⟨Nat.le_refl _, Nat.le_refl _⟩ dL_back_266 (fun H locs hP hS => ?_)
    refine lv_istore (lv' := [(11, .int r266), (10, .int r259), (0, .ref (a 0)), (3, .int v3), (4, .int v4), (5, .int v5), (6, .int v6), (7, .int v7), (8, .int v8)]) hx hb dL_back_269 hl (by decide) rfl (fun ls hl => ?_)
    refine lv_iload hx hb dL_back_271 (lv_at hl 6 rfl) ?_
    refine lv_bipush (v := (20 : Int32)) hx hb dL_back_273 (by decide) ?_
    refine lv_icmp_gt (tgt := 403) hx hb dL_back_275 (by decide) (fun hc => ?_) (fun hc => ?_)
    · have h := ite_t hc h
      exact J403 v3 v4 v5 v6 v7 v8 r259 g257 _ _ _ hP hS (lv_sub hl [2, 3, 4, 5, 6, 7, 8, 1] rfl) h
    · have h := ite_f hc h
      refine lv_aload_n hx hb dL_back_278 rfl (lv_at hl 2 rfl) ?_
      refine lv_aload_n hx hb dL_back_279 rfl (lv_at hl 2 rfl) ?_
      refine lv_iload_n hx hb dL_back_280 rfl (lv_at hl 3 rfl) ?_
      refine lv_iconst (v := (0 : Int32)) hx hb dL_back_281 (by decide) ?_
      obtain ⟨r282, hcal, h⟩ := bnd_s h
      refine x_VI (As := [.int v3, .int (0 : Int32)]) hx hb hml hown hts hK hP hS (ct_X6_lies l D a cA cT hI g257 v3 (0 : Int32) r282 hcal) tF_0 (C := RX6) (F := TX6) (N := 5) rfl (g_V q373 q374 q375 q35 q376) yd_X6_lies ⟨Nat.le_of_ble_eq_true rfl, Nat.le_of_ble_eq_true rfl⟩ [.ref (a 0)] rfl (Nat.le_of_ble_eq_true rfl) hl.1 ⟨Nat.le_refl _, Nat.le_refl _⟩ dL_back_282 (fun H locs hP hS => ?_)
      refine lv_iconst (v := (0 : Int32)) hx hb dL_back_285 (by decide) ?_
      obtain ⟨r286, hcal, h⟩ := bnd_s h
      refine x_VI (As := [.int r282, .int (0 : Int32)]) hx hb hml hown hts hK hP hS (ct_X6_row l D a cA cT hI g257 r282 (0 : Int32) r286 hcal) tF_0 (C := RX6) (F := TX6) (N := 5) rfl (g_V q306 q307 q308 q35 q309) yd_X6_row ⟨Nat.le_of_ble_eq_true rfl, Nat.le_of_ble_eq_true rfl⟩ [] rfl (Nat.le_of_ble_eq_true rfl) hl.1 ⟨Nat.le_refl _, Nat.le_refl _⟩ dL_back_286 (fun H locs hP hS => ?_)
      refine lv_istore (lv' := [(12, .int r286), (11, .int r266), (10, .int r259), (0, .ref (a 0)), (3, .int v3), (4, .int v4), (5, .int v5), (6, .int v6), (7, .int v7), (8, .int v8)]) hx hb dL_back_289 hl (by decide) rfl (fun ls hl => ?_)
      refine lv_aload_n hx hb dL_back_291 rfl (lv_at hl 3 rfl) ?_
      refine lv_iload_n hx hb dL_back_292 rfl (lv_at hl 4 rfl) ?_
      refine lv_iconst (v := (1 : Int32)) hx hb dL_back_293 (by decide) ?_
      obtain ⟨r294, g294, hcal, h⟩ := bnd2_s h
      refine x_VI (As := [.int v3, .int (1 : Int32)]) hx hb hml hown hts hK hP hS (ct_X6_swap l D a cA cT hI g257 v3 (1 : Int32) r294 g294 hcal) tF_0 (C := RX6) (F := TX6) (N := 5) rfl (g_V q525 q526 q527 q35 q528) yd_X6_swap ⟨Nat.le_of_ble_eq_true rfl, Nat.le_of_ble_eq_true rfl⟩ [] rfl (Nat.le_of_ble_eq_true rfl) hl.1 ⟨Nat.le_refl _, Nat.le_refl _⟩ dL_back_294 (fun H locs hP hS => ?_)
      refine lv_iload hx hb dL_back_297 (lv_at hl 1 rfl) ?_
      refine lv_if_le (tgt := 308) hx hb dL_back_299 (by decide) (fun hc => ?_) (fun hc => ?_)
      · have h := ite_t hc h
        refine lv_iload hx hb dL_back_308 (lv_at hl 2 rfl) ?_
        exact J310 v3 v4 v5 v6 v7 v8 r259 r266 r286 r294 r259 g294 _ _ _ hP hS (lv_sub hl [3, 4, 5, 6, 7, 8, 9, 2, 1, 0] rfl) h
      · have h := ite_f hc h
        refine lv_sipush (v := (-1004 : Int32)) hx hb dL_back_302 (by decide) ?_
        refine lv_goto (tgt := 310) hx hb dL_back_305 (by decide) ?_
        exact J310 v3 v4 v5 v6 v7 v8 r259 r266 r286 r294 (-1004 : Int32) g294 _ _ _ hP hS (lv_sub hl [3, 4, 5, 6, 7, 8, 9, 2, 1, 0] rfl) h
  have J113 : ∀ (v3 : Int32) (v4 : Int32) (v5 : Int32) (v6 : Int32) (v7 : Int32) (v8 : Int32) (v9 : Int32) (g113 : MG) (H : Heap) (locs : List Loc) (ls : Array Slot), WP D a cA cT TC g113 H → va_S (AA a TC) s.heap H locs → lv_has ls 13 [(0, .ref (a 0)), (3, .int v3), (4, .int v4), (5, .int v5), (6, .int v6), (7, .int v7), (8, .int v8), (9, .int v9)] → m_L_back_J113 x1 x2 v3 v4 v5 v6 v7 v8 v9 g113 = some (r, g') → W p l e (rmm 7 157) s m args below meth c H locs 0 0 Q (F0 m 113 ls []) := by
    intro v3 v4 v5 v6 v7 v8 v9 g113 H locs ls hP hS hl h
    unfold m_L_back_J113 at h
    refine lv_iload hx hb dL_back_113 (lv_at hl 7 rfl) ?_
    refine lv_if_lt (tgt := 257) hx hb dL_back_115 (by decide) (fun hc => ?_) (fun hc => ?_)
    · have h := ite_t hc h
      exact J257 v3 v4 v5 v6 v7 v8 g113 _ _ _ hP hS (lv_sub hl [0, 1, 2, 3, 4, 5, 6] rfl) h
    · have h := ite_f hc h
      refine lv_aload_n hx hb dL_back_118 rfl (lv_at hl 0 rfl) ?_
      refine lv_iload_n hx hb dL_back_119 rfl (lv_at hl 1 rfl) ?_
      refine lv_iload hx hb dL_back_120 (lv_at hl 7 rfl) ?_
      obtain ⟨r122, g122, hcal, h⟩ := bnd2_s h
      refine x_VI (As := [.int v3, .int v9]) hx hb hml hown hts hK hP hS (ct_X6_split l D a cA cT hI g113 v3 v9 r122 g122 hcal) tF_0 (C := RX6) (F := TX6) (N := 5) rfl (g_V q480 q481 q482 q35 q483) yd_X6_split ⟨Nat.le_of_ble_eq_true rfl, Nat.le_of_ble_eq_true rfl⟩ [] rfl (Nat.le_of_ble_eq_true rfl) hl.1 ⟨Nat.le_refl _, Nat.le_refl _⟩ dL_back_122 (fun H locs hP hS => ?_)
      refine lv_istore (lv' := [(10, .int r122), (0, .ref (a 0)), (3, .int v3), (4, .int v4), (5, .int v5), (6, .int v6), (7, .int v7), (8, .int v8), (9, .int v9)]) hx hb dL_back_125 hl (by decide) rfl (fun ls hl => ?_)
      refine lv_iload hx hb dL_back_127 (lv_at hl 0 rfl) ?_
      refine lv_if_lt (tgt := 257) hx hb dL_back_129 (by decide) (fun hc => ?_) (fun hc => ?_)
      · have h := ite_t hc h
        exact J257 v3 v4 v5 v6 v7 v8 g122 _ _ _ hP hS (lv_sub hl [1, 2, 3, 4, 5, 6, 7] rfl) h
      · have h := ite_f hc h
        refine lv_aload_n hx hb dL_back_132 rfl (lv_at hl 1 rfl) ?_
        refine lv_iload_n hx hb dL_back_133 rfl (lv_at hl 2 rfl) ?_
        refine lv_iconst (v := (1 : Int32)) hx hb dL_back_134 (by decide) ?_
        obtain ⟨r135, hcal, h⟩ := bnd_s h
        refine x_VI (As := [.int v3, .int (1 : Int32)]) hx hb hml hown hts hK hP hS (ct_X6_slice l D a cA cT hI g122 v3 (1 : Int32) r135 hcal) tF_0 (C := RX6) (F := TX6) (N := 5) rfl (g_V q328 q329 q330 q35 q331) yd_X6_slice ⟨Nat.le_of_ble_eq_true rfl, Nat.le_of_ble_eq_true rfl⟩ [] rfl (Nat.le_of_ble_eq_true rfl) hl.1 ⟨Nat.le_refl _, Nat.le_refl _⟩ dL_back_135 (fun H locs hP hS => ?_)
        refine lv_iload hx hb dL_back_138 (lv_at hl 8 rfl) ?_
        refine lv_icmp_ne (tgt := 186) hx hb dL_back_140 (by decide) (fun hc => ?_) (fun hc => ?_)
        · have h := ite_f hc h
          refine lv_iconst (v := (0 : Int32)) hx hb dL_back_186 (by decide) ?_
          obtain ⟨rfl, rfl⟩ := Prod.mk.inj (Option.some.inj h)
          exact hend _ _ _ _ dL_back_187 rfl hP hS
        · have h := ite_t hc h
          refine lv_aload_n hx hb dL_back_143 rfl (lv_at hl 1 rfl) ?_
          refine lv_iload hx hb dL_back_144 (lv_at hl 0 rfl) ?_
          refine lv_iconst (v := (0 : Int32)) hx hb dL_back_146 (by decide) ?_
          obtain ⟨r147, hcal, h⟩ := bnd_s h
          refine x_VI (As := [.int r122, .int (0 : Int32)]) hx hb hml hown hts hK hP hS (ct_X6_slice l D a cA cT hI g122 r122 (0 : Int32) r147 hcal) tF_0 (C := RX6) (F := TX6) (N := 5) rfl (g_V q328 q329 q330 q35 q331) yd_X6_slice ⟨Nat.le_of_ble_eq_true rfl, Nat.le_of_ble_eq_true rfl⟩ [] rfl (Nat.le_of_ble_eq_true rfl) hl.1 ⟨Nat.le_refl _, Nat.le_refl _⟩ dL_back_147 (fun H locs hP hS => ?_)
          refine lv_iload hx hb dL_back_150 (lv_at hl 8 rfl) ?_
          refine lv_icmp_ne (tgt := 186) hx hb dL_back_152 (by decide) (fun hc => ?_) (fun hc => ?_)
          · have h := ite_f hc h
            refine lv_iconst (v := (0 : Int32)) hx hb dL_back_186 (by decide) ?_
            obtain ⟨rfl, rfl⟩ := Prod.mk.inj (Option.some.inj h)
            exact hend _ _ _ _ dL_back_187 rfl hP hS
          · have h := ite_t hc h
            refine lv_aload_n hx hb dL_back_155 rfl (lv_at hl 1 rfl) ?_
            refine lv_iload hx hb dL_back_156 (lv_at hl 0 rfl) ?_
            refine lv_iconst (v := (1 : Int32)) hx hb dL_back_158 (by decide) ?_
            obtain ⟨r159, hcal, h⟩ := bnd_s h
            refine x_VI (As := [.int r122, .int (1 : Int32)]) hx hb hml hown hts hK hP hS (ct_X6_slice l D a cA cT hI g122 r122 (1 : Int32) r159 hcal) tF_0 (C := RX6) (F := TX6) (N := 5) rfl (g_V q328 q329 q330 q35 q331) yd_X6_slice ⟨Nat.le_of_ble_eq_true rfl, Nat.le_of_ble_eq_true rfl⟩ [] rfl (Nat.le_of_ble_eq_true rfl) hl.1 ⟨Nat.le_refl _, Nat.le_refl _⟩ dL_back_159 (fun H locs hP hS => ?_)
            refine lv_iload hx hb dL_back_162 (lv_at hl 4 rfl) ?_
            refine lv_icmp_ne (tgt := 186) hx hb dL_back_164 (by decide) (fun hc => ?_) (fun hc => ?_)
            · have h := ite_f hc h
              refine lv_iconst (v := (0 : Int32)) hx hb dL_back_186 (by decide) ?_
              obtain ⟨rfl, rfl⟩ := Prod.mk.inj (Option.some.inj h)
              exact hend _ _ _ _ dL_back_187 rfl hP hS
            · have h := ite_t hc h
              refine lv_aload_n hx hb dL_back_167 rfl (lv_at hl 1 rfl) ?_
              refine lv_iload_n hx hb dL_back_168 rfl (lv_at hl 2 rfl) ?_
              refine lv_iconst (v := (2 : Int32)) hx hb dL_back_169 (by decide) ?_
              obtain ⟨r170, hcal, h⟩ := bnd_s h
              refine x_VI (As := [.int v3, .int (2 : Int32)]) hx hb hml hown hts hK hP hS (ct_X6_slice l D a cA cT hI g122 v3 (2 : Int32) r170 hcal) tF_0 (C := RX6) (F := TX6) (N := 5) rfl (g_V q328 q329 q330 q35 q331) yd_X6_slice ⟨Nat.le_of_ble_eq_true rfl, Nat.le_of_ble_eq_true rfl⟩ [] rfl (Nat.le_of_ble_eq_true rfl) hl.1 ⟨Nat.le_refl _, Nat.le_refl _⟩ dL_back_170 (fun H locs hP hS => ?_)
              refine lv_aload_n hx hb dL_back_173 rfl (lv_at hl 1 rfl) ?_
              refine lv_iload hx hb dL_back_174 (lv_at hl 0 rfl) ?_
              refine lv_iconst (v := (2 : Int32)) hx hb dL_back_176 (by decide) ?_
              obtain ⟨r177, hcal, h⟩ := bnd_s h
              refine x_VI (As := [.int r122, .int (2 : Int32)]) hx hb hml hown hts hK hP hS (ct_X6_slice l D a cA cT hI g122 r122 (2 : Int32) r177 hcal) tF_0 (C := RX6) (F := TX6) (N := 5) rfl (g_V q328 q329 q330 q35 q331) yd_X6_slice ⟨Nat.le_of_ble_eq_true rfl, Nat.le_of_ble_eq_true rfl⟩ [.int r170] rfl (Nat.le_of_ble_eq_true rfl) hl.1 ⟨Nat.le_refl _, Nat.le_refl _⟩ dL_back_177 (fun H locs hP hS => ?_)
              refine lv_iadd hx hb dL_back_180 ?_
              refine lv_iload hx hb dL_back_181 (lv_at hl 5 rfl) ?_
              refine lv_icmp_eq (tgt := 188) hx hb dL_back_183 (by decide) (fun hc => ?_) (fun hc => ?_)
              · have h := ite_t hc h
                refine lv_aload_n hx hb dL_back_188 rfl (lv_at hl 1 rfl) ?_
                refine lv_iload hx hb dL_back_189 (lv_at hl 0 rfl) ?_
                refine lv_iload_n hx hb dL_back_191 rfl (lv_at hl 2 rfl) ?_
                obtain ⟨r192, g192, hcal, h⟩ := bnd2_s h
                refine x_VI (As := [.int r122, .int v3]) hx hb hml hown hts hK hP hS (ct_X6_merge l D a cA cT hI g122 r122 v3 r192 g192 hcal) tF_0 (C := RX6) (F := TX6) (N := 5) rfl (g_V q485 q486 q487 q35 q488) yd_X6_merge ⟨Nat.le_of_ble_eq_true rfl, Nat.le_of_ble_eq_true rfl⟩ [] rfl (Nat.le_of_ble_eq_true rfl) hl.1 ⟨Nat.le_refl _, Nat.le_refl _⟩ dL_back_192 (fun H locs hP hS => ?_)
                refine lv_iload hx hb dL_back_195 (lv_at hl 5 rfl) ?_
                refine lv_icmp_ne (tgt := 245) hx hb dL_back_197 (by decide) (fun hc => ?_) (fun hc => ?_)
                · have h := ite_f hc h
                  refine lv_iconst (v := (0 : Int32)) hx hb dL_back_245 (by decide) ?_
                  obtain ⟨rfl, rfl⟩ := Prod.mk.inj (Option.some.inj h)
                  exact hend _ _ _ _ dL_back_246 rfl hP hS
                · have h := ite_t hc h
                  refine lv_aload_n hx hb dL_back_200 rfl (lv_at hl 1 rfl) ?_
                  refine lv_iload_n hx hb dL_back_201 rfl (lv_at hl 2 rfl) ?_
                  refine lv_iconst (v := (0 : Int32)) hx hb dL_back_202 (by decide) ?_
                  obtain ⟨r203, hcal, h⟩ := bnd_s h
                  refine x_VI (As := [.int v3, .int (0 : Int32)]) hx hb hml hown hts hK hP hS (ct_X6_slice l D a cA cT hI g192 v3 (0 : Int32) r203 hcal) tF_0 (C := RX6) (F := TX6) (N := 5) rfl (g_V q328 q329 q330 q35 q331) yd_X6_slice ⟨Nat.le_of_ble_eq_true rfl, Nat.le_of_ble_eq_true rfl⟩ [] rfl (Nat.le_of_ble_eq_true rfl) hl.1 ⟨Nat.le_refl _, Nat.le_refl _⟩ dL_back_203 (fun H locs hP hS => ?_)
                  refine lv_iload hx hb dL_back_206 (lv_at hl 3 rfl) ?_
                  refine lv_icmp_ne (tgt := 245) hx hb dL_back_208 (by decide) (fun hc => ?_) (fun hc => ?_)
                  · have h := ite_f hc h
                    refine lv_iconst (v := (0 : Int32)) hx hb dL_back_245 (by decide) ?_
                    obtain ⟨rfl, rfl⟩ := Prod.mk.inj (Option.some.inj h)
                    exact hend _ _ _ _ dL_back_246 rfl hP hS
                  · have h := ite_t hc h
                    refine lv_aload_n hx hb dL_back_211 rfl (lv_at hl 1 rfl) ?_
                    refine lv_iload_n hx hb dL_back_212 rfl (lv_at hl 2 rfl) ?_
                    refine lv_iconst (v := (1 : Int32)) hx hb dL_back_213 (by decide) ?_
                    obtain ⟨r214, hcal, h⟩ := bnd_s h
                    refine x_VI (As := [.int v3, .int (1 : Int32)]) hx hb hml hown hts hK hP hS (ct_X6_slice l D a cA cT hI g192 v3 (1 : Int32) r214 hcal) tF_0 (C := RX6) (F := TX6) (N := 5) rfl (g_V q328 q329 q330 q35 q331) yd_X6_slice ⟨Nat.le_of_ble_eq_true rfl, Nat.le_of_ble_eq_true rfl⟩ [] rfl (Nat.le_of_ble_eq_true rfl) hl.1 ⟨Nat.le_refl _, Nat.le_refl _⟩ dL_back_214 (fun H locs hP hS => ?_)
                    refine lv_iload hx hb dL_back_217 (lv_at hl 4 rfl) ?_
                    refine lv_icmp_ne (tgt := 245) hx hb dL_back_219 (by decide) (fun hc => ?_) (fun hc => ?_)
                    · have h := ite_f hc h
                      refine lv_iconst (v := (0 : Int32)) hx hb dL_back_245 (by decide) ?_
                      obtain ⟨rfl, rfl⟩ := Prod.mk.inj (Option.some.inj h)
                      exact hend _ _ _ _ dL_back_246 rfl hP hS
                    · have h := ite_t hc h
                      refine lv_aload_n hx hb dL_back_222 rfl (lv_at hl 1 rfl) ?_
                      refine lv_iload_n hx hb dL_back_223 rfl (lv_at hl 2 rfl) ?_
                      refine lv_iconst (v := (5 : Int32)) hx hb dL_back_224 (by decide) ?_
                      obtain ⟨r225, hcal, h⟩ := bnd_s h
                      refine x_VI (As := [.int v3, .int (5 : Int32)]) hx hb hml hown hts hK hP hS (ct_X6_slice l D a cA cT hI g192 v3 (5 : Int32) r225 hcal) tF_0 (C := RX6) (F := TX6) (N := 5) rfl (g_V q328 q329 q330 q35 q331) yd_X6_slice ⟨Nat.le_of_ble_eq_true rfl, Nat.le_of_ble_eq_true rfl⟩ [] rfl (Nat.le_of_ble_eq_true rfl) hl.1 ⟨Nat.le_refl _, Nat.le_refl _⟩ dL_back_225 (fun H locs hP hS => ?_)
                      refine lv_iload hx hb dL_back_228 (lv_at hl 6 rfl) ?_
                      refine lv_icmp_ne (tgt := 245) hx hb dL_back_230 (by decide) (fun hc => ?_) (fun hc => ?_)
                      · have h := ite_f hc h
                        refine lv_iconst (v := (0 : Int32)) hx hb dL_back_245 (by decide) ?_
                        obtain ⟨rfl, rfl⟩ := Prod.mk.inj (Option.some.inj h)
                        exact hend _ _ _ _ dL_back_246 rfl hP hS
                      · have h := ite_t hc h
                        refine lv_aload_n hx hb dL_back_233 rfl (lv_at hl 1 rfl) ?_
                        refine lv_iload_n hx hb dL_back_234 rfl (lv_at hl 2 rfl) ?_
                        refine lv_bipush (v := (6 : Int32)) hx hb dL_back_235 (by decide) ?_
                        obtain ⟨r237, hcal, h⟩ := bnd_s h
                        refine x_VI (As := [.int v3, .int (6 : Int32)]) hx hb hml hown hts hK hP hS (ct_X6_slice l D a cA cT hI g192 v3 (6 : Int32) r237 hcal) tF_0 (C := RX6) (F := TX6) (N := 5) rfl (g_V q328 q329 q330 q35 q331) yd_X6_slice ⟨Nat.le_of_ble_eq_true rfl, Nat.le_of_ble_eq_true rfl⟩ [] rfl (Nat.le_of_ble_eq_true rfl) hl.1 ⟨Nat.le_refl _, Nat.le_refl _⟩ dL_back_237 (fun H locs hP hS => ?_)
                        refine lv_iload hx hb dL_back_240 (lv_at hl 7 rfl) ?_
                        refine lv_icmp_eq (tgt := 247) hx hb dL_back_242 (by decide) (fun hc => ?_) (fun hc => ?_)
                        · have h := ite_t hc h
                          refine lv_aload_n hx hb dL_back_247 rfl (lv_at hl 1 rfl) ?_
                          obtain ⟨r248, g248, hcal, h⟩ := bnd2_s h
                          refine x_VI (As := []) hx hb hml hown hts hK hP hS (ct_X6_undo l D a cA cT hI g192 r248 g248 hcal) tF_0 (C := RX6) (F := TX6) (N := 5) rfl (g_V q178 q179 q180 q35 q181) yd_X6_undo ⟨Nat.le_of_ble_eq_true rfl, Nat.le_of_ble_eq_true rfl⟩ [] rfl (Nat.le_of_ble_eq_true rfl) hl.1 ⟨Nat.le_refl _, Nat.le_refl _⟩ dL_back_248 (fun H locs hP hS => ?_)
                          refine lv_pop hx hb dL_back_251 rfl ?_
                          refine lv_aload_n hx hb dL_back_252 rfl (lv_at hl 1 rfl) ?_
                          obtain ⟨r253, g253, hcal, h⟩ := bnd2_s h
                          refine x_VI (As := []) hx hb hml hown hts hK hP hS (ct_X6_undo l D a cA cT hI g248 r253 g253 hcal) tF_0 (C := RX6) (F := TX6) (N := 5) rfl (g_V q178 q179 q180 q35 q181) yd_X6_undo ⟨Nat.le_of_ble_eq_true rfl, Nat.le_of_ble_eq_true rfl⟩ [] rfl (Nat.le_of_ble_eq_true rfl) hl.1 ⟨Nat.le_refl _, Nat.le_refl _⟩ dL_back_253 (fun H locs hP hS => ?_)
                          refine lv_pop hx hb dL_back_256 rfl ?_
                          exact J257 v3 v4 v5 v6 v7 v8 g253 _ _ _ hP hS (lv_sub hl [1, 2, 3, 4, 5, 6, 7] rfl) h
                        · have h := ite_f hc h
                          refine lv_iconst (v := (0 : Int32)) hx hb dL_back_245 (by decide) ?_
                          obtain ⟨rfl, rfl⟩ := Prod.mk.inj (Option.some.inj h)
                          exact hend _ _ _ _ dL_back_246 rfl hP hS
              · have h := ite_f hc h
                refine lv_iconst (v := (0 : Int32)) hx hb dL_back_186 (by decide) ?_
                obtain ⟨rfl, rfl⟩ := Prod.mk.inj (Option.some.inj h)
                exact hend _ _ _ _ dL_back_187 rfl hP hS
  refine lv_iload_n hx hb dL_back_0 rfl (lv_at hl 1 rfl) ?_
  refine lv_aload_n hx hb dL_back_1 rfl (lv_at hl 0 rfl) ?_
  refine lv_iconst (v := (1 : Int32)) hx hb dL_back_2 (by decide) ?_
  obtain ⟨r3, hcal, h⟩ := bnd_s h
  refine x_VI (As := [.int (1 : Int32)]) hx hb hml hown hts hK hP hS (ct_X6_count l D a cA cT hI g (1 : Int32) r3 hcal) tF_0 (C := RX6) (F := TX6) (N := 5) rfl (g_V q212 q213 q214 q35 q215) yd_X6_count ⟨Nat.le_of_ble_eq_true rfl, Nat.le_of_ble_eq_true rfl⟩ [.int x1] rfl (Nat.le_of_ble_eq_true rfl) hl.1 ⟨Nat.le_refl _, Nat.le_refl _⟩ dL_back_3 (fun H locs hP hS => ?_)
  refine lv_iconst (v := (1 : Int32)) hx hb dL_back_6 (by decide) ?_
  refine lv_iadd hx hb dL_back_7 ?_
  obtain ⟨r8, hcal, h⟩ := bnd_s h
  refine x_SI (As := [.int x1, .int (r3 + (1 : Int32))]) hx hb hml hown hts hK hP hS (ct_L_low l D a cA cT hI g x1 (r3 + (1 : Int32)) r8 hcal) (g_S q299 q300 q34 q301) yd_L_low ⟨Nat.le_of_ble_eq_true rfl, Nat.le_of_ble_eq_true rfl⟩ [] rfl (Nat.le_of_ble_eq_true rfl) hl.1 ⟨Nat.le_refl _, Nat.le_refl _⟩ dL_back_8 (fun H locs hP hS => ?_)
  refine lv_istore_n (lv' := [(3, .int r8), (0, .ref (a 0)), (1, .int x1), (2, .int x2)]) hx hb dL_back_11 rfl hl (by decide) rfl (fun ls hl => ?_)
  refine lv_aload_n hx hb dL_back_12 rfl (lv_at hl 1 rfl) ?_
  refine lv_iload_n hx hb dL_back_13 rfl (lv_at hl 0 rfl) ?_
  refine lv_iconst (v := (2 : Int32)) hx hb dL_back_14 (by decide) ?_
  obtain ⟨r15, hcal, h⟩ := bnd_s h
  refine x_VI (As := [.int r8, .int (2 : Int32)]) hx hb hml hown hts hK hP hS (ct_X6_slice l D a cA cT hI g r8 (2 : Int32) r15 hcal) tF_0 (C := RX6) (F := TX6) (N := 5) rfl (g_V q328 q329 q330 q35 q331) yd_X6_slice ⟨Nat.le_of_ble_eq_true rfl, Nat.le_of_ble_eq_true rfl⟩ [] rfl (Nat.le_of_ble_eq_true rfl) hl.1 ⟨Nat.le_refl _, Nat.le_refl _⟩ dL_back_15 (fun H locs hP hS => ?_)
  refine lv_if_lt (tgt := 27) hx hb dL_back_18 (by decide) (fun hc => ?_) (fun hc => ?_)
  · have h := ite_t hc h
    refine lv_iconst (v := (1 : Int32)) hx hb dL_back_27 (by decide) ?_
    obtain ⟨rfl, rfl⟩ := Prod.mk.inj (Option.some.inj h)
    exact hend _ _ _ _ dL_back_28 rfl hP hS
  · have h := ite_f hc h
    refine lv_iload_n hx hb dL_back_21 rfl (lv_at hl 0 rfl) ?_
    refine lv_bipush (v := (59 : Int32)) hx hb dL_back_22 (by decide) ?_
    refine lv_icmp_le (tgt := 29) hx hb dL_back_24 (by decide) (fun hc => ?_) (fun hc => ?_)
    · have h := ite_t hc h
      refine lv_aload_n hx hb dL_back_29 rfl (lv_at hl 1 rfl) ?_
      refine lv_iload_n hx hb dL_back_30 rfl (lv_at hl 0 rfl) ?_
      refine lv_iconst (v := (0 : Int32)) hx hb dL_back_31 (by decide) ?_
      obtain ⟨r32, hcal, h⟩ := bnd_s h
      refine x_VI (As := [.int r8, .int (0 : Int32)]) hx hb hml hown hts hK hP hS (ct_X6_slice l D a cA cT hI g r8 (0 : Int32) r32 hcal) tF_0 (C := RX6) (F := TX6) (N := 5) rfl (g_V q328 q329 q330 q35 q331) yd_X6_slice ⟨Nat.le_of_ble_eq_true rfl, Nat.le_of_ble_eq_true rfl⟩ [] rfl (Nat.le_of_ble_eq_true rfl) hl.1 ⟨Nat.le_refl _, Nat.le_refl _⟩ dL_back_32 (fun H locs hP hS => ?_)
      refine lv_istore (lv' := [(4, .int r32), (3, .int r8), (0, .ref (a 0)), (1, .int x1), (2, .int x2)]) hx hb dL_back_35 hl (by decide) rfl (fun ls hl => ?_)
      refine lv_aload_n hx hb dL_back_37 rfl (lv_at hl 2 rfl) ?_
      refine lv_iload_n hx hb dL_back_38 rfl (lv_at hl 1 rfl) ?_
      refine lv_iconst (v := (1 : Int32)) hx hb dL_back_39 (by decide) ?_
      obtain ⟨r40, hcal, h⟩ := bnd_s h
      refine x_VI (As := [.int r8, .int (1 : Int32)]) hx hb hml hown hts hK hP hS (ct_X6_slice l D a cA cT hI g r8 (1 : Int32) r40 hcal) tF_0 (C := RX6) (F := TX6) (N := 5) rfl (g_V q328 q329 q330 q35 q331) yd_X6_slice ⟨Nat.le_of_ble_eq_true rfl, Nat.le_of_ble_eq_true rfl⟩ [] rfl (Nat.le_of_ble_eq_true rfl) hl.1 ⟨Nat.le_refl _, Nat.le_refl _⟩ dL_back_40 (fun H locs hP hS => ?_)
      refine lv_istore (lv' := [(5, .int r40), (4, .int r32), (3, .int r8), (0, .ref (a 0)), (1, .int x1), (2, .int x2)]) hx hb dL_back_43 hl (by decide) rfl (fun ls hl => ?_)
      refine lv_aload_n hx hb dL_back_45 rfl (lv_at hl 3 rfl) ?_
      refine lv_iload_n hx hb dL_back_46 rfl (lv_at hl 2 rfl) ?_
      refine lv_iconst (v := (2 : Int32)) hx hb dL_back_47 (by decide) ?_
      obtain ⟨r48, hcal, h⟩ := bnd_s h
      refine x_VI (As := [.int r8, .int (2 : Int32)]) hx hb hml hown hts hK hP hS (ct_X6_slice l D a cA cT hI g r8 (2 : Int32) r48 hcal) tF_0 (C := RX6) (F := TX6) (N := 5) rfl (g_V q328 q329 q330 q35 q331) yd_X6_slice ⟨Nat.le_of_ble_eq_true rfl, Nat.le_of_ble_eq_true rfl⟩ [] rfl (Nat.le_of_ble_eq_true rfl) hl.1 ⟨Nat.le_refl _, Nat.le_refl _⟩ dL_back_48 (fun H locs hP hS => ?_)
      refine lv_istore (lv' := [(6, .int r48), (5, .int r40), (4, .int r32), (3, .int r8), (0, .ref (a 0)), (1, .int x1), (2, .int x2)]) hx hb dL_back_51 hl (by decide) rfl (fun ls hl => ?_)
      refine lv_aload_n hx hb dL_back_53 rfl (lv_at hl 4 rfl) ?_
      refine lv_iload_n hx hb dL_back_54 rfl (lv_at hl 3 rfl) ?_
      refine lv_iconst (v := (5 : Int32)) hx hb dL_back_55 (by decide) ?_
      obtain ⟨r56, hcal, h⟩ := bnd_s h
      refine x_VI (As := [.int r8, .int (5 : Int32)]) hx hb hml hown hts hK hP hS (ct_X6_slice l D a cA cT hI g r8 (5 : Int32) r56 hcal) tF_0 (C := RX6) (F := TX6) (N := 5) rfl (g_V q328 q329 q330 q35 q331) yd_X6_slice ⟨Nat.le_of_ble_eq_true rfl, Nat.le_of_ble_eq_true rfl⟩ [] rfl (Nat.le_of_ble_eq_true rfl) hl.1 ⟨Nat.le_refl _, Nat.le_refl _⟩ dL_back_56 (fun H locs hP hS => ?_)
      refine lv_istore (lv' := [(7, .int r56), (6, .int r48), (5, .int r40), (4, .int r32), (3, .int r8), (0, .ref (a 0)), (1, .int x1), (2, .int x2)]) hx hb dL_back_59 hl (by decide) rfl (fun ls hl => ?_)
      refine lv_aload_n hx hb dL_back_61 rfl (lv_at hl 5 rfl) ?_
      refine lv_iload_n hx hb dL_back_62 rfl (lv_at hl 4 rfl) ?_
      refine lv_bipush (v := (6 : Int32)) hx hb dL_back_63 (by decide) ?_
      obtain ⟨r65, hcal, h⟩ := bnd_s h
      refine x_VI (As := [.int r8, .int (6 : Int32)]) hx hb hml hown hts hK hP hS (ct_X6_slice l D a cA cT hI g r8 (6 : Int32) r65 hcal) tF_0 (C := RX6) (F := TX6) (N := 5) rfl (g_V q328 q329 q330 q35 q331) yd_X6_slice ⟨Nat.le_of_ble_eq_true rfl, Nat.le_of_ble_eq_true rfl⟩ [] rfl (Nat.le_of_ble_eq_true rfl) hl.1 ⟨Nat.le_refl _, Nat.le_refl _⟩ dL_back_65 (fun H locs hP hS => ?_)
      refine lv_istore (lv' := [(8, .int r65), (7, .int r56), (6, .int r48), (5, .int r40), (4, .int r32), (3, .int r8), (0, .ref (a 0)), (1, .int x1), (2, .int x2)]) hx hb dL_back_68 hl (by decide) rfl (fun ls hl => ?_)
      refine lv_aload_n hx hb dL_back_70 rfl (lv_at hl 6 rfl) ?_
      refine lv_iload_n hx hb dL_back_71 rfl (lv_at hl 5 rfl) ?_
      obtain ⟨r72, hcal, h⟩ := bnd_s h
      refine x_VI (As := [.int r8]) hx hb hml hown hts hK hP hS (ct_X6_bestSplit l D a cA cT hI g r8 r72 hcal) tF_0 (C := RX6) (F := TX6) (N := 5) rfl (g_V q570 q571 q572 q35 q573) yd_X6_bestSplit ⟨Nat.le_of_ble_eq_true rfl, Nat.le_of_ble_eq_true rfl⟩ [] rfl (Nat.le_of_ble_eq_true rfl) hl.1 ⟨Nat.le_refl _, Nat.le_refl _⟩ dL_back_72 (fun H locs hP hS => ?_)
      refine lv_istore (lv' := [(9, .int r72), (8, .int r65), (7, .int r56), (6, .int r48), (5, .int r40), (4, .int r32), (3, .int r8), (0, .ref (a 0)), (1, .int x1), (2, .int x2)]) hx hb dL_back_75 hl (by decide) rfl (fun ls hl => ?_)
      refine lv_iload hx hb dL_back_77 (lv_at hl 0 rfl) ?_
      refine lv_sipush (v := (-1005 : Int32)) hx hb dL_back_79 (by decide) ?_
      refine lv_icmp_ne (tgt := 97) hx hb dL_back_82 (by decide) (fun hc => ?_) (fun hc => ?_)
      · have h := ite_f hc h
        refine lv_iload hx hb dL_back_97 (lv_at hl 0 rfl) ?_
        refine lv_iload hx hb dL_back_99 (lv_at hl 5 rfl) ?_
        refine lv_icmp_le (tgt := 111) hx hb dL_back_101 (by decide) (fun hc => ?_) (fun hc => ?_)
        · have h := ite_t hc h
          refine lv_iconst (v := (0 : Int32)) hx hb dL_back_111 (by decide) ?_
          obtain ⟨rfl, rfl⟩ := Prod.mk.inj (Option.some.inj h)
          exact hend _ _ _ _ dL_back_112 rfl hP hS
        · have h := ite_f hc h
          refine lv_iload hx hb dL_back_104 (lv_at hl 0 rfl) ?_
          refine lv_iload hx hb dL_back_106 (lv_at hl 4 rfl) ?_
          refine lv_icmp_lt (tgt := 113) hx hb dL_back_108 (by decide) (fun hc => ?_) (fun hc => ?_)
          · have h := ite_t hc h
            exact J113 r8 r32 r40 r48 r56 r65 r72 g _ _ _ hP hS (lv_sub hl [7, 6, 5, 4, 3, 2, 1, 0] rfl) h
          · have h := ite_f hc h
            refine lv_iconst (v := (0 : Int32)) hx hb dL_back_111 (by decide) ?_
            obtain ⟨rfl, rfl⟩ := Prod.mk.inj (Option.some.inj h)
            exact hend _ _ _ _ dL_back_112 rfl hP hS
      · have h := ite_t hc h
        refine lv_iload hx hb dL_back_85 (lv_at hl 4 rfl) ?_
        refine lv_iload hx hb dL_back_87 (lv_at hl 5 rfl) ?_
        refine lv_iconst (v := (1 : Int32)) hx hb dL_back_89 (by decide) ?_
        refine lv_iadd hx hb dL_back_90 ?_
        refine lv_icmp_eq (tgt := 113) hx hb dL_back_91 (by decide) (fun hc => ?_) (fun hc => ?_)
        · have h := ite_t hc h
          exact J113 r8 r32 r40 r48 r56 r65 r72 g _ _ _ hP hS (lv_sub hl [7, 6, 5, 4, 3, 2, 1, 0] rfl) h
        · have h := ite_f hc h
          refine lv_goto (tgt := 111) hx hb dL_back_94 (by decide) ?_
          refine lv_iconst (v := (0 : Int32)) hx hb dL_back_111 (by decide) ?_
          obtain ⟨rfl, rfl⟩ := Prod.mk.inj (Option.some.inj h)
          exact hend _ _ _ _ dL_back_112 rfl hP hS
    · have h := ite_f hc h
      refine lv_iconst (v := (1 : Int32)) hx hb dL_back_27 (by decide) ?_
      obtain ⟨rfl, rfl⟩ := Prod.mk.inj (Option.some.inj h)
      exact hend _ _ _ _ dL_back_28 rfl hP hS
