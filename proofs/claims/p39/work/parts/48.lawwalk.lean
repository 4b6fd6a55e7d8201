theorem sp_lt {r : Int32 × Int32 × Int32} {z : UInt64} (h : spk r) (hd : DR r.1 r.2.1 r.2.2 z) : ¬ Op.cmpValue (FP.dcmp z FP.dconst0) .g < 0 := sp_all_lt h hd
theorem sp_gt {r : Int32 × Int32 × Int32} {z : UInt64} (h : spk r) (hd : DR r.1 r.2.1 r.2.2 z) : ¬ 0 < Op.cmpValue (FP.dcmp z FP.dconst1) .l := sp_all_gt h hd
theorem sp_eq {r : Int32 × Int32 × Int32} {z : UInt64} (h : spz r) (hd : DR r.1 r.2.1 r.2.2 z) : Op.cmpValue (FP.dcmp z FP.dconst0) .l = 0 := sp_all_eq h hd
set_option maxHeartbeats 4000000 in
set_option maxRecDepth 100000 in
theorem ct_L_turned (l : Launch) (D : va_G) (a : Nat → Nat) (cA cT : ClassId) (hI : WI a TC) (g : MG) (x1 : Int32) (r : Int32) (g' : MG) (h : m_L_turned g x1 = some (r, g')) :
    CtU l D a cA cT yL_turned (Cond.code yL_turned cL_turned 7 (some .boolean) :: lw_all) 8 191 [.ref (a 0), .int x1] g r g' := by
  refine CtU.of (by decide +kernel) (Nat.le_of_ble_eq_true rfl) ?_
  intro p e s m args below meth c Q ls d0 hd0 hx hb hml hown hts hK hP hS hAA hA hl hend
  have hl : lv_has ls 7 [(0, .ref (a 0)), (1, .int x1)] := hl
  unfold m_L_turned at h
  refine lv_bipush (v := (64 : Int32)) hx hb dL_turned_0 (by decide) ?_
  refine y_newa (n := (64 : Int32)) (s := (s.setDrawn d0)) (R := rma 8 191) (cells := 0) (slots := 0) hx hb (dr_words hts d0) q70 hK hI hP hS hAA hA (by decide) rfl (Nat.le_refl _) (Nat.le_refl _) dL_turned_2 (fun qa H hP hW hS hqa hqA hqn => ?_)
  refine lv_astore_n (lv' := [(2, .ref qa), (0, .ref (a 0)), (1, .int x1)]) hx hb dL_turned_4 rfl hl (by decide) rfl (fun ls hl => ?_)
  refine lv_iload_n hx hb dL_turned_5 rfl (lv_at hl 2 rfl) ?_
  refine lv_iconst (v := (4 : Int32)) hx hb dL_turned_6 (by decide) ?_
  obtain ⟨r7, hcal, h⟩ := bnd_s h
  refine y_SI (s := (s.setDrawn d0)) (As := [.int x1, .int (4 : Int32)]) hx hb hml hown (dr_words hts d0) hK hP hS hAA hW (ap_c hqa ap_0) (ct_L_low l D a cA cT hI g x1 (4 : Int32) r7 hcal) (g_S q299 q300 q34 q301) yd_L_low ⟨Nat.le_of_ble_eq_true rfl, Nat.le_of_ble_eq_true rfl⟩ [] rfl (Nat.le_of_ble_eq_true rfl) hl.1 ⟨Nat.le_refl _, Nat.le_refl _⟩ dL_turned_7 (fun H locs hP hW hS => ?_)
  refine lv_istore_n (lv' := [(3, .int r7), (2, .ref qa), (0, .ref (a 0)), (1, .int x1)]) hx hb dL_turned_10 rfl hl (by decide) rfl (fun ls hl => ?_)
  refine lv_iconst (v := (0 : Int32)) hx hb dL_turned_11 (by decide) ?_
  refine lv_istore (lv' := [(4, .int (0 : Int32)), (3, .int r7), (2, .ref qa), (0, .ref (a 0)), (1, .int x1)]) hx hb dL_turned_12 hl (by decide) rfl (fun ls hl => ?_)
  have K14 : ∀ (n14 : Nat) (v4 : Int32) (g14 : MG) (f14 : Nat → Int32) (H : Heap) (locs : List Loc) (ls : Array Slot) (d0 : Drawn), s.drawn.sameBut d0 lw_cs → WP D a cA cT TC g14 H → va_P D vwCl [ar cA qa f14] H → va_S (An2 a s.heap.size) s.heap H locs → lv_has ls 7 [(0, .ref (a 0)), (1, .int x1), (2, .ref qa), (3, .int r7), (4, .int v4)] → lpo (b_L_turned_L14 x1 r7) n14 (v4, g14, f14) = some (r, g') → W p l e (rma 8 191) (s.setDrawn d0) m args below meth c H locs 1 64 Q (F0 m 14 ls []) := by
    intro n14
    induction n14 with
    | zero => intro v4 g14 f14 H locs ls d0 hd0 hP hW hS hl h; exact (lpo_0 h).elim
    | succ n14 ih14 =>
      intro v4 g14 f14 H locs ls d0 hd0 hP hW hS hl h
      have h : m_L_turned_L14 (lpo (b_L_turned_L14 x1 r7) n14) x1 r7 v4 g14 f14 = some (r, g') := h
      unfold m_L_turned_L14 at h
      have J358 : ∀ (v4 : Int32) (v5 : Int32) (gj358 : MG) (f : Nat → Int32) (H : Heap) (locs : List Loc) (ls : Array Slot) (d0 : Drawn), s.drawn.sameBut d0 lw_cs → WP D a cA cT TC gj358 H → va_P D vwCl [ar cA qa f] H → va_S (An2 a s.heap.size) s.heap H locs → lv_has ls 7 [(0, .ref (a 0)), (1, .int x1), (2, .ref qa), (3, .int r7), (4, .int v4), (5, .int v5)] → m_L_turned_J358 (lpo (b_L_turned_L14 x1 r7) n14) x1 r7 v4 v5 gj358 f = some (r, g') → W p l e (rma 8 191) (s.setDrawn d0) m args below meth c H locs 1 64 Q (F0 m 358 ls []) := by
        intro v4 v5 gj358 f H locs ls d0 hd0 hP hW hS hl h
        unfold m_L_turned_J358 at h
        refine lv_iconst (v := (0 : Int32)) hx hb dL_turned_358 (by decide) ?_
        refine lv_istore (lv' := [(6, .int (0 : Int32)), (0, .ref (a 0)), (1, .int x1), (2, .ref qa), (3, .int r7), (4, .int v4), (5, .int v5)]) hx hb dL_turned_359 hl (by decide) rfl (fun ls hl => ?_)
        have K361 : ∀ (n361 : Nat) (v6 : Int32) (g361 : MG) (H : Heap) (locs : List Loc) (ls : Array Slot) (d0 : Drawn), s.drawn.sameBut d0 lw_cs → WP D a cA cT TC g361 H → va_P D vwCl [ar cA qa f] H → va_S (An2 a s.heap.size) s.heap H locs → lv_has ls 7 [(0, .ref (a 0)), (1, .int x1), (2, .ref qa), (3, .int r7), (4, .int v4), (5, .int v5), (6, .int v6)] → lpo (b_L_turned_L361 (lpo (b_L_turned_L14 x1 r7) n14) f x1 r7 v4 v5) n361 (v6, g361) = some (r, g') → W p l e (rma 8 191) (s.setDrawn d0) m args below meth c H locs 1 64 Q (F0 m 361 ls []) := by
          intro n361
          induction n361 with
          | zero => intro v6 g361 H locs ls d0 hd0 hP hW hS hl h; exact (lpo_0 h).elim
          | succ n361 ih361 =>
            intro v6 g361 H locs ls d0 hd0 hP hW hS hl h
            have h : m_L_turned_L361 (lpo (b_L_turned_L361 (lpo (b_L_turned_L14 x1 r7) n14) f x1 r7 v4 v5) n361) (lpo (b_L_turned_L14 x1 r7) n14) f x1 r7 v4 v5 v6 g361 = some (r, g') := h
            unfold m_L_turned_L361 at h
            refine lv_iload hx hb dL_turned_361 (lv_at hl 6 rfl) ?_
            refine lv_iload hx hb dL_turned_363 (lv_at hl 5 rfl) ?_
            refine lv_icmp_ge (tgt := 412) hx hb dL_turned_365 (by decide) (fun hc => ?_) (fun hc => ?_)
            · have h := ite_t hc h
              refine lv_aload_n hx hb dL_turned_412 rfl (lv_at hl 0 rfl) ?_
              obtain ⟨r413, g413, hcal, h⟩ := bnd2_s h
              obtain ⟨hsp, h⟩ := ite_n h
              refine y_VD (As := []) hd0 hx hb hml hown hts hK hP hS hAA hW (ap_c hqa ap_0) (ct_X6_spared l D a cA cT hI g361 r413 g413 hcal) tF_0 (C := RX6) (F := TX6) (N := 5) rfl (g_V q715 q716 q717 q35 q718) yd_X6_spared ⟨Nat.le_of_ble_eq_true rfl, Nat.le_of_ble_eq_true rfl⟩ [] rfl (Nat.le_of_ble_eq_true rfl) hl.1 ⟨Nat.le_refl _, Nat.le_refl _⟩ dL_turned_413 (fun z d0 H locs hdr hd0 hP hW hS => ?_)
              refine lv_dconst0 hx hb dL_turned_416 ?_
              refine lv_dcmp hx hb dL_turned_417 ?_
              refine lv_if_lt (tgt := 448) hx hb dL_turned_418 (by decide) (fun hc => absurd hc (sp_lt hsp hdr)) (fun _ => ?_)
              refine lv_aload_n hx hb dL_turned_421 rfl (lv_at hl 0 rfl) ?_
              obtain ⟨r422, g422, hcal, h⟩ := bnd2_s h
              obtain ⟨hsp, h⟩ := ite_n h
              refine y_VD (As := []) hd0 hx hb hml hown hts hK hP hS hAA hW (ap_c hqa ap_0) (ct_X6_spared l D a cA cT hI g413 r422 g422 hcal) tF_0 (C := RX6) (F := TX6) (N := 5) rfl (g_V q715 q716 q717 q35 q718) yd_X6_spared ⟨Nat.le_of_ble_eq_true rfl, Nat.le_of_ble_eq_true rfl⟩ [] rfl (Nat.le_of_ble_eq_true rfl) hl.1 ⟨Nat.le_refl _, Nat.le_refl _⟩ dL_turned_422 (fun z d0 H locs hdr hd0 hP hW hS => ?_)
              refine lv_dconst1 hx hb dL_turned_425 ?_
              refine lv_dcmp hx hb dL_turned_426 ?_
              refine lv_if_gt (tgt := 448) hx hb dL_turned_427 (by decide) (fun hc => absurd hc (sp_gt hsp hdr)) (fun _ => ?_)
              refine lv_aload_n hx hb dL_turned_430 rfl (lv_at hl 0 rfl) ?_
              refine lv_bipush (v := (9 : Int32)) hx hb dL_turned_431 (by decide) ?_
              obtain ⟨r433, hcal, h⟩ := bnd_s h
              refine y_VI (s := (s.setDrawn d0)) (As := [.int (9 : Int32)]) hx hb hml hown (dr_words hts d0) hK hP hS hAA hW (ap_c hqa ap_0) (ct_X6_count l D a cA cT hI g422 (9 : Int32) r433 hcal) tF_0 (C := RX6) (F := TX6) (N := 5) rfl (g_V q212 q213 q214 q35 q215) yd_X6_count ⟨Nat.le_of_ble_eq_true rfl, Nat.le_of_ble_eq_true rfl⟩ [] rfl (Nat.le_of_ble_eq_true rfl) hl.1 ⟨Nat.le_refl _, Nat.le_refl _⟩ dL_turned_433 (fun H locs hP hW hS => ?_)
              refine lv_if_ne (tgt := 450) hx hb dL_turned_436 (by decide) (fun hc => ?_) (fun hc => ?_)
              · have h := ite_f hc h
                refine lv_iinc (v := (v4 + (1 : Int32))) (lv' := [(4, .int (v4 + (1 : Int32))), (0, .ref (a 0)), (1, .int x1), (2, .ref qa), (3, .int r7), (5, .int v5), (6, .int v6)]) hx hb dL_turned_450 hl (k := 4) rfl rfl (by decide) rfl (fun ls hl => ?_)
                refine lv_goto (tgt := 14) hx hb dL_turned_453 (by decide) ?_
                exact ih14 (v4 + (1 : Int32)) g422 f _ _ _ _ hd0 hP hW hS (lv_sub hl [1, 2, 3, 4, 0] rfl) h
              · have h := ite_t hc h
                refine lv_aload_n hx hb dL_turned_439 rfl (lv_at hl 0 rfl) ?_
                obtain ⟨r440, g440, hcal, h⟩ := bnd2_s h
                obtain ⟨hsp, h⟩ := ite_n h
                refine y_VD (As := []) hd0 hx hb hml hown hts hK hP hS hAA hW (ap_c hqa ap_0) (ct_X6_spared l D a cA cT hI g422 r440 g440 hcal) tF_0 (C := RX6) (F := TX6) (N := 5) rfl (g_V q715 q716 q717 q35 q718) yd_X6_spared ⟨Nat.le_of_ble_eq_true rfl, Nat.le_of_ble_eq_true rfl⟩ [] rfl (Nat.le_of_ble_eq_true rfl) hl.1 ⟨Nat.le_refl _, Nat.le_refl _⟩ dL_turned_440 (fun z d0 H locs hdr hd0 hP hW hS => ?_)
                refine lv_dconst0 hx hb dL_turned_443 ?_
                refine lv_dcmp hx hb dL_turned_444 ?_
                refine lv_if_eq (tgt := 450) hx hb dL_turned_445 (by decide) (fun _ => ?_) (fun hc => absurd (sp_eq hsp hdr) hc)
                refine lv_iinc (v := (v4 + (1 : Int32))) (lv' := [(4, .int (v4 + (1 : Int32))), (0, .ref (a 0)), (1, .int x1), (2, .ref qa), (3, .int r7), (5, .int v5), (6, .int v6)]) hx hb dL_turned_450 hl (k := 4) rfl rfl (by decide) rfl (fun ls hl => ?_)
                refine lv_goto (tgt := 14) hx hb dL_turned_453 (by decide) ?_
                exact ih14 (v4 + (1 : Int32)) g440 f _ _ _ _ hd0 hP hW hS (lv_sub hl [1, 2, 3, 4, 0] rfl) h
            · have h := ite_f hc h
              refine lv_aload_n hx hb dL_turned_368 rfl (lv_at hl 0 rfl) ?_
              refine lv_aload_n hx hb dL_turned_369 rfl (lv_at hl 0 rfl) ?_
              refine lv_iload hx hb dL_turned_370 (lv_at hl 6 rfl) ?_
              obtain ⟨r372, g372, hcal, h⟩ := bnd2_s h
              refine y_VI (s := (s.setDrawn d0)) (As := [.int v6]) hx hb hml hown (dr_words hts d0) hK hP hS hAA hW (ap_c hqa ap_0) (ct_X6_answer l D a cA cT hI g361 v6 r372 g372 hcal) tF_0 (C := RX6) (F := TX6) (N := 5) rfl (g_V q711 q712 q713 q35 q714) yd_X6_answer ⟨Nat.le_of_ble_eq_true rfl, Nat.le_of_ble_eq_true rfl⟩ [.ref (a 0)] rfl (Nat.le_of_ble_eq_true rfl) hl.1 ⟨Nat.le_refl _, Nat.le_refl _⟩ dL_turned_372 (fun H locs hP hW hS => ?_)
              obtain ⟨r375, g375, hcal, h⟩ := bnd2_s h
              refine y_VI (s := (s.setDrawn d0)) (As := [.int r372]) hx hb hml hown (dr_words hts d0) hK hP hS hAA hW (ap_c hqa ap_0) (ct_X6_passes l D a cA cT hI g372 r372 r375 g375 hcal) tF_0 (C := RX6) (F := TX6) (N := 5) rfl (g_V q631 q632 q633 q35 q634) yd_X6_passes ⟨Nat.le_of_ble_eq_true rfl, Nat.le_of_ble_eq_true rfl⟩ [] rfl (Nat.le_of_ble_eq_true rfl) hl.1 ⟨Nat.le_refl _, Nat.le_refl _⟩ dL_turned_375 (fun H locs hP hW hS => ?_)
              refine lv_iconst (v := (1 : Int32)) hx hb dL_turned_378 (by decide) ?_
              refine lv_icmp_ne (tgt := 404) hx hb dL_turned_379 (by decide) (fun hc => ?_) (fun hc => ?_)
              · have h := ite_f hc h
                refine lv_iconst (v := (0 : Int32)) hx hb dL_turned_404 (by decide) ?_
                obtain ⟨rfl, rfl⟩ := Prod.mk.inj (Option.some.inj h)
                exact hend _ hd0 _ _ _ _ dL_turned_405 rfl hP hS
              · have h := ite_t hc h
                refine lv_iload hx hb dL_turned_382 (lv_at hl 6 rfl) ?_
                refine lv_if_le (tgt := 406) hx hb dL_turned_384 (by decide) (fun hc => ?_) (fun hc => ?_)
                · have h := ite_t hc h
                  refine lv_iinc (v := (v6 + (1 : Int32))) (lv' := [(6, .int (v6 + (1 : Int32))), (0, .ref (a 0)), (1, .int x1), (2, .ref qa), (3, .int r7), (4, .int v4), (5, .int v5)]) hx hb dL_turned_406 hl (k := 6) rfl rfl (by decide) rfl (fun ls hl => ?_)
                  refine lv_goto (tgt := 361) hx hb dL_turned_409 (by decide) ?_
                  exact ih361 (v6 + (1 : Int32)) g375 _ _ _ _ hd0 hP hW hS (lv_sub hl [1, 2, 3, 4, 5, 6, 0] rfl) h
                · have h := ite_f hc h
                  refine lv_aload_n hx hb dL_turned_387 rfl (lv_at hl 0 rfl) ?_
                  refine lv_iload hx hb dL_turned_388 (lv_at hl 6 rfl) ?_
                  obtain ⟨r390, g390, hcal, h⟩ := bnd2_s h
                  refine y_VI (s := (s.setDrawn d0)) (As := [.int v6]) hx hb hml hown (dr_words hts d0) hK hP hS hAA hW (ap_c hqa ap_0) (ct_X6_answer l D a cA cT hI g375 v6 r390 g390 hcal) tF_0 (C := RX6) (F := TX6) (N := 5) rfl (g_V q711 q712 q713 q35 q714) yd_X6_answer ⟨Nat.le_of_ble_eq_true rfl, Nat.le_of_ble_eq_true rfl⟩ [] rfl (Nat.le_of_ble_eq_true rfl) hl.1 ⟨Nat.le_refl _, Nat.le_refl _⟩ dL_turned_390 (fun H locs hP hW hS => ?_)
                  refine lv_aload_n hx hb dL_turned_393 rfl (lv_at hl 0 rfl) ?_
                  refine lv_iload hx hb dL_turned_394 (lv_at hl 6 rfl) ?_
                  refine lv_iconst (v := (1 : Int32)) hx hb dL_turned_396 (by decide) ?_
                  refine lv_isub hx hb dL_turned_397 ?_
                  obtain ⟨r398, g398, hcal, h⟩ := bnd2_s h
                  refine y_VI (s := (s.setDrawn d0)) (As := [.int (v6 - (1 : Int32))]) hx hb hml hown (dr_words hts d0) hK hP hS hAA hW (ap_c hqa ap_0) (ct_X6_answer l D a cA cT hI g390 (v6 - (1 : Int32)) r398 g398 hcal) tF_0 (C := RX6) (F := TX6) (N := 5) rfl (g_V q711 q712 q713 q35 q714) yd_X6_answer ⟨Nat.le_of_ble_eq_true rfl, Nat.le_of_ble_eq_true rfl⟩ [.int r390] rfl (Nat.le_of_ble_eq_true rfl) hl.1 ⟨Nat.le_refl _, Nat.le_refl _⟩ dL_turned_398 (fun H locs hP hW hS => ?_)
                  refine lv_icmp_gt (tgt := 406) hx hb dL_turned_401 (by decide) (fun hc => ?_) (fun hc => ?_)
                  · have h := ite_t hc h
                    refine lv_iinc (v := (v6 + (1 : Int32))) (lv' := [(6, .int (v6 + (1 : Int32))), (0, .ref (a 0)), (1, .int x1), (2, .ref qa), (3, .int r7), (4, .int v4), (5, .int v5)]) hx hb dL_turned_406 hl (k := 6) rfl rfl (by decide) rfl (fun ls hl => ?_)
                    refine lv_goto (tgt := 361) hx hb dL_turned_409 (by decide) ?_
                    exact ih361 (v6 + (1 : Int32)) g398 _ _ _ _ hd0 hP hW hS (lv_sub hl [1, 2, 3, 4, 5, 6, 0] rfl) h
                  · have h := ite_f hc h
                    refine lv_iconst (v := (0 : Int32)) hx hb dL_turned_404 (by decide) ?_
                    obtain ⟨rfl, rfl⟩ := Prod.mk.inj (Option.some.inj h)
                    exact hend _ hd0 _ _ _ _ dL_turned_405 rfl hP hS
        exact K361 fuelN (0 : Int32) gj358 _ _ _ _ hd0 hP hW hS (lv_sub hl [1, 2, 3, 4, 5, 6, 0] rfl) h
      have J220 : ∀ (v4 : Int32) (gj220 : MG) (f : Nat → Int32) (H : Heap) (locs : List Loc) (ls : Array Slot) (d0 : Drawn), s.drawn.sameBut d0 lw_cs → WP D a cA cT TC gj220 H → va_P D vwCl [ar cA qa f] H → va_S (An2 a s.heap.size) s.heap H locs → lv_has ls 7 [(0, .ref (a 0)), (1, .int x1), (2, .ref qa), (3, .int r7), (4, .int v4)] → m_L_turned_J220 (lpo (b_L_turned_L14 x1 r7) n14) x1 r7 v4 gj220 f = some (r, g') → W p l e (rma 8 191) (s.setDrawn d0) m args below meth c H locs 1 64 Q (F0 m 220 ls []) := by
        intro v4 gj220 f H locs ls d0 hd0 hP hW hS hl h
        unfold m_L_turned_J220 at h
        refine lv_iconst (v := (0 : Int32)) hx hb dL_turned_220 (by decide) ?_
        refine lv_istore (lv' := [(5, .int (0 : Int32)), (0, .ref (a 0)), (1, .int x1), (2, .ref qa), (3, .int r7), (4, .int v4)]) hx hb dL_turned_221 hl (by decide) rfl (fun ls hl => ?_)
        have K223 : ∀ (n223 : Nat) (v5 : Int32) (g223 : MG) (f223 : Nat → Int32) (H : Heap) (locs : List Loc) (ls : Array Slot) (d0 : Drawn), s.drawn.sameBut d0 lw_cs → WP D a cA cT TC g223 H → va_P D vwCl [ar cA qa f223] H → va_S (An2 a s.heap.size) s.heap H locs → lv_has ls 7 [(0, .ref (a 0)), (1, .int x1), (2, .ref qa), (3, .int r7), (4, .int v4), (5, .int v5)] → lpo (b_L_turned_L223 (lpo (b_L_turned_L14 x1 r7) n14) x1 r7 v4) n223 (v5, g223, f223) = some (r, g') → W p l e (rma 8 191) (s.setDrawn d0) m args below meth c H locs 1 64 Q (F0 m 223 ls []) := by
          intro n223
          induction n223 with
          | zero => intro v5 g223 f223 H locs ls d0 hd0 hP hW hS hl h; exact (lpo_0 h).elim
          | succ n223 ih223 =>
            intro v5 g223 f223 H locs ls d0 hd0 hP hW hS hl h
            have h : m_L_turned_L223 (lpo (b_L_turned_L223 (lpo (b_L_turned_L14 x1 r7) n14) x1 r7 v4) n223) (lpo (b_L_turned_L14 x1 r7) n14) x1 r7 v4 v5 g223 f223 = some (r, g') := h
            unfold m_L_turned_L223 at h
            have J272 : ∀ (v5 : Int32) (v6 : Int32) (gj272 : MG) (f : Nat → Int32) (H : Heap) (locs : List Loc) (ls : Array Slot) (d0 : Drawn), s.drawn.sameBut d0 lw_cs → WP D a cA cT TC gj272 H → va_P D vwCl [ar cA qa f] H → va_S (An2 a s.heap.size) s.heap H locs → lv_has ls 7 [(0, .ref (a 0)), (1, .int x1), (2, .ref qa), (3, .int r7), (4, .int v4), (5, .int v5), (6, .int v6)] → m_L_turned_J272 (lpo (b_L_turned_L223 (lpo (b_L_turned_L14 x1 r7) n14) x1 r7 v4) n223) (lpo (b_L_turned_L14 x1 r7) n14) x1 r7 v4 v5 v6 gj272 f = some (r, g') → W p l e (rma 8 191) (s.setDrawn d0) m args below meth c H locs 1 64 Q (F0 m 272 ls []) := by
              intro v5 v6 gj272 f H locs ls d0 hd0 hP hW hS hl h
              unfold m_L_turned_J272 at h
              refine lv_aload_n hx hb dL_turned_272 rfl (lv_at hl 2 rfl) ?_
              refine lv_iload hx hb dL_turned_273 (lv_at hl 5 rfl) ?_
              refine lv_iload hx hb dL_turned_275 (lv_at hl 6 rfl) ?_
              obtain ⟨hz, h⟩ := ite_n h
              refine y_ast (s := (s.setDrawn d0)) hx hb hK hI hP hS hAA hW hqa hqA hz dL_turned_277 (fun H locs hP hW hS => ?_)
              refine lv_iinc (v := (v5 + (1 : Int32))) (lv' := [(5, .int (v5 + (1 : Int32))), (0, .ref (a 0)), (1, .int x1), (2, .ref qa), (3, .int r7), (4, .int v4), (6, .int v6)]) hx hb dL_turned_278 hl (k := 5) rfl rfl (by decide) rfl (fun ls hl => ?_)
              refine lv_goto (tgt := 223) hx hb dL_turned_281 (by decide) ?_
              exact ih223 (v5 + (1 : Int32)) gj272 (upd f v5.toNatClampNeg v6) _ _ _ _ hd0 hP hW hS (lv_sub hl [1, 2, 3, 4, 5, 0] rfl) h
            refine lv_iload hx hb dL_turned_223 (lv_at hl 5 rfl) ?_
            refine lv_bipush (v := (64 : Int32)) hx hb dL_turned_225 (by decide) ?_
            refine lv_icmp_ge (tgt := 284) hx hb dL_turned_227 (by decide) (fun hc => ?_) (fun hc => ?_)
            · have h := ite_t hc h
              refine lv_aload_n hx hb dL_turned_284 rfl (lv_at hl 0 rfl) ?_
              refine lv_iconst (v := (0 : Int32)) hx hb dL_turned_285 (by decide) ?_
              obtain ⟨r286, g286, hcal, h⟩ := bnd2_s h
              refine y_VI (s := (s.setDrawn d0)) (As := [.int (0 : Int32)]) hx hb hml hown (dr_words hts d0) hK hP hS hAA hW (ap_c hqa ap_0) (ct_X6_ask l D a cA cT hI g223 (0 : Int32) r286 g286 hcal) tF_0 (C := RX6) (F := TX6) (N := 5) rfl (g_V q668 q669 q670 q35 q671) yd_X6_ask ⟨Nat.le_of_ble_eq_true rfl, Nat.le_of_ble_eq_true rfl⟩ [] rfl (Nat.le_of_ble_eq_true rfl) hl.1 ⟨Nat.le_refl _, Nat.le_refl _⟩ dL_turned_286 (fun H locs hP hW hS => ?_)
              refine lv_istore (lv' := [(5, .int r286), (0, .ref (a 0)), (1, .int x1), (2, .ref qa), (3, .int r7), (4, .int v4)]) hx hb dL_turned_289 hl (by decide) rfl (fun ls hl => ?_)
              refine lv_iload hx hb dL_turned_291 (lv_at hl 0 rfl) ?_
              refine lv_aload_n hx hb dL_turned_293 rfl (lv_at hl 1 rfl) ?_
              refine lv_iconst (v := (4 : Int32)) hx hb dL_turned_294 (by decide) ?_
              obtain ⟨r295, g295, hcal, h⟩ := bnd2_s h
              refine y_VI (s := (s.setDrawn d0)) (As := [.int (4 : Int32)]) hx hb hml hown (dr_words hts d0) hK hP hS hAA hW (ap_c hqa ap_0) (ct_X6_ask l D a cA cT hI g286 (4 : Int32) r295 g295 hcal) tF_0 (C := RX6) (F := TX6) (N := 5) rfl (g_V q668 q669 q670 q35 q671) yd_X6_ask ⟨Nat.le_of_ble_eq_true rfl, Nat.le_of_ble_eq_true rfl⟩ [.int r286] rfl (Nat.le_of_ble_eq_true rfl) hl.1 ⟨Nat.le_refl _, Nat.le_refl _⟩ dL_turned_295 (fun H locs hP hW hS => ?_)
              refine lv_icmp_gt (tgt := 356) hx hb dL_turned_298 (by decide) (fun hc => ?_) (fun hc => ?_)
              · have h := ite_t hc h
                refine lv_iconst (v := (0 : Int32)) hx hb dL_turned_356 (by decide) ?_
                obtain ⟨rfl, rfl⟩ := Prod.mk.inj (Option.some.inj h)
                exact hend _ hd0 _ _ _ _ dL_turned_357 rfl hP hS
              · have h := ite_f hc h
                refine lv_aload_n hx hb dL_turned_301 rfl (lv_at hl 1 rfl) ?_
                refine lv_iconst (v := (5 : Int32)) hx hb dL_turned_302 (by decide) ?_
                obtain ⟨r303, g303, hcal, h⟩ := bnd2_s h
                refine y_VI (s := (s.setDrawn d0)) (As := [.int (5 : Int32)]) hx hb hml hown (dr_words hts d0) hK hP hS hAA hW (ap_c hqa ap_0) (ct_X6_ask l D a cA cT hI g295 (5 : Int32) r303 g303 hcal) tF_0 (C := RX6) (F := TX6) (N := 5) rfl (g_V q668 q669 q670 q35 q671) yd_X6_ask ⟨Nat.le_of_ble_eq_true rfl, Nat.le_of_ble_eq_true rfl⟩ [] rfl (Nat.le_of_ble_eq_true rfl) hl.1 ⟨Nat.le_refl _, Nat.le_refl _⟩ dL_turned_303 (fun H locs hP hW hS => ?_)
                refine lv_aload_n hx hb dL_turned_306 rfl (lv_at hl 1 rfl) ?_
                refine lv_iconst (v := (4 : Int32)) hx hb dL_turned_307 (by decide) ?_
                obtain ⟨r308, g308, hcal, h⟩ := bnd2_s h
                refine y_VI (s := (s.setDrawn d0)) (As := [.int (4 : Int32)]) hx hb hml hown (dr_words hts d0) hK hP hS hAA hW (ap_c hqa ap_0) (ct_X6_ask l D a cA cT hI g303 (4 : Int32) r308 g308 hcal) tF_0 (C := RX6) (F := TX6) (N := 5) rfl (g_V q668 q669 q670 q35 q671) yd_X6_ask ⟨Nat.le_of_ble_eq_true rfl, Nat.le_of_ble_eq_true rfl⟩ [.int r303] rfl (Nat.le_of_ble_eq_true rfl) hl.1 ⟨Nat.le_refl _, Nat.le_refl _⟩ dL_turned_308 (fun H locs hP hW hS => ?_)
                refine lv_iload hx hb dL_turned_311 (lv_at hl 0 rfl) ?_
                refine lv_isub hx hb dL_turned_313 ?_
                refine lv_icmp_ne (tgt := 356) hx hb dL_turned_314 (by decide) (fun hc => ?_) (fun hc => ?_)
                · have h := ite_f hc h
                  refine lv_iconst (v := (0 : Int32)) hx hb dL_turned_356 (by decide) ?_
                  obtain ⟨rfl, rfl⟩ := Prod.mk.inj (Option.some.inj h)
                  exact hend _ hd0 _ _ _ _ dL_turned_357 rfl hP hS
                · have h := ite_t hc h
                  refine lv_aload_n hx hb dL_turned_317 rfl (lv_at hl 1 rfl) ?_
                  refine lv_iconst (v := (3 : Int32)) hx hb dL_turned_318 (by decide) ?_
                  obtain ⟨r319, g319, hcal, h⟩ := bnd2_s h
                  refine y_VI (s := (s.setDrawn d0)) (As := [.int (3 : Int32)]) hx hb hml hown (dr_words hts d0) hK hP hS hAA hW (ap_c hqa ap_0) (ct_X6_ask l D a cA cT hI g308 (3 : Int32) r319 g319 hcal) tF_0 (C := RX6) (F := TX6) (N := 5) rfl (g_V q668 q669 q670 q35 q671) yd_X6_ask ⟨Nat.le_of_ble_eq_true rfl, Nat.le_of_ble_eq_true rfl⟩ [] rfl (Nat.le_of_ble_eq_true rfl) hl.1 ⟨Nat.le_refl _, Nat.le_refl _⟩ dL_turned_319 (fun H locs hP hW hS => ?_)
                  refine lv_iload hx hb dL_turned_322 (lv_at hl 0 rfl) ?_
                  refine lv_icmp_lt (tgt := 356) hx hb dL_turned_324 (by decide) (fun hc => ?_) (fun hc => ?_)
                  · have h := ite_t hc h
                    refine lv_iconst (v := (0 : Int32)) hx hb dL_turned_356 (by decide) ?_
                    obtain ⟨rfl, rfl⟩ := Prod.mk.inj (Option.some.inj h)
                    exact hend _ hd0 _ _ _ _ dL_turned_357 rfl hP hS
                  · have h := ite_f hc h
                    refine lv_aload_n hx hb dL_turned_327 rfl (lv_at hl 1 rfl) ?_
                    refine lv_iconst (v := (3 : Int32)) hx hb dL_turned_328 (by decide) ?_
                    obtain ⟨r329, g329, hcal, h⟩ := bnd2_s h
                    refine y_VI (s := (s.setDrawn d0)) (As := [.int (3 : Int32)]) hx hb hml hown (dr_words hts d0) hK hP hS hAA hW (ap_c hqa ap_0) (ct_X6_ask l D a cA cT hI g319 (3 : Int32) r329 g329 hcal) tF_0 (C := RX6) (F := TX6) (N := 5) rfl (g_V q668 q669 q670 q35 q671) yd_X6_ask ⟨Nat.le_of_ble_eq_true rfl, Nat.le_of_ble_eq_true rfl⟩ [] rfl (Nat.le_of_ble_eq_true rfl) hl.1 ⟨Nat.le_refl _, Nat.le_refl _⟩ dL_turned_329 (fun H locs hP hW hS => ?_)
                    refine lv_aload_n hx hb dL_turned_332 rfl (lv_at hl 1 rfl) ?_
                    refine lv_iconst (v := (2 : Int32)) hx hb dL_turned_333 (by decide) ?_
                    obtain ⟨r334, hcal, h⟩ := bnd_s h
                    refine y_VI (s := (s.setDrawn d0)) (As := [.int (2 : Int32)]) hx hb hml hown (dr_words hts d0) hK hP hS hAA hW (ap_c hqa ap_0) (ct_X6_count l D a cA cT hI g329 (2 : Int32) r334 hcal) tF_0 (C := RX6) (F := TX6) (N := 5) rfl (g_V q212 q213 q214 q35 q215) yd_X6_count ⟨Nat.le_of_ble_eq_true rfl, Nat.le_of_ble_eq_true rfl⟩ [.int r329] rfl (Nat.le_of_ble_eq_true rfl) hl.1 ⟨Nat.le_refl _, Nat.le_refl _⟩ dL_turned_334 (fun H locs hP hW hS => ?_)
                    refine lv_icmp_gt (tgt := 356) hx hb dL_turned_337 (by decide) (fun hc => ?_) (fun hc => ?_)
                    · have h := ite_t hc h
                      refine lv_iconst (v := (0 : Int32)) hx hb dL_turned_356 (by decide) ?_
                      obtain ⟨rfl, rfl⟩ := Prod.mk.inj (Option.some.inj h)
                      exact hend _ hd0 _ _ _ _ dL_turned_357 rfl hP hS
                    · have h := ite_f hc h
                      refine lv_aload_n hx hb dL_turned_340 rfl (lv_at hl 1 rfl) ?_
                      refine lv_iconst (v := (5 : Int32)) hx hb dL_turned_341 (by decide) ?_
                      obtain ⟨r342, hcal, h⟩ := bnd_s h
                      refine y_VI (s := (s.setDrawn d0)) (As := [.int (5 : Int32)]) hx hb hml hown (dr_words hts d0) hK hP hS hAA hW (ap_c hqa ap_0) (ct_X6_count l D a cA cT hI g329 (5 : Int32) r342 hcal) tF_0 (C := RX6) (F := TX6) (N := 5) rfl (g_V q212 q213 q214 q35 q215) yd_X6_count ⟨Nat.le_of_ble_eq_true rfl, Nat.le_of_ble_eq_true rfl⟩ [] rfl (Nat.le_of_ble_eq_true rfl) hl.1 ⟨Nat.le_refl _, Nat.le_refl _⟩ dL_turned_342 (fun H locs hP hW hS => ?_)
                      refine lv_if_ne (tgt := 358) hx hb dL_turned_345 (by decide) (fun hc => ?_) (fun hc => ?_)
                      · have h := ite_f hc h
                        exact J358 v4 r286 g329 f223 _ _ _ _ hd0 hP hW hS (lv_sub hl [1, 2, 3, 4, 5, 0] rfl) h
                      · have h := ite_t hc h
                        refine lv_aload_n hx hb dL_turned_348 rfl (lv_at hl 1 rfl) ?_
                        refine lv_iconst (v := (5 : Int32)) hx hb dL_turned_349 (by decide) ?_
                        obtain ⟨r350, g350, hcal, h⟩ := bnd2_s h
                        refine y_VI (s := (s.setDrawn d0)) (As := [.int (5 : Int32)]) hx hb hml hown (dr_words hts d0) hK hP hS hAA hW (ap_c hqa ap_0) (ct_X6_ask l D a cA cT hI g329 (5 : Int32) r350 g350 hcal) tF_0 (C := RX6) (F := TX6) (N := 5) rfl (g_V q668 q669 q670 q35 q671) yd_X6_ask ⟨Nat.le_of_ble_eq_true rfl, Nat.le_of_ble_eq_true rfl⟩ [] rfl (Nat.le_of_ble_eq_true rfl) hl.1 ⟨Nat.le_refl _, Nat.le_refl _⟩ dL_turned_350 (fun H locs hP hW hS => ?_)
                        refine lv_if_eq (tgt := 358) hx hb dL_turned_353 (by decide) (fun hc => ?_) (fun hc => ?_)
                        · have h := ite_t hc h
                          exact J358 v4 r286 g350 f223 _ _ _ _ hd0 hP hW hS (lv_sub hl [1, 2, 3, 4, 5, 0] rfl) h
                        · have h := ite_f hc h
                          refine lv_iconst (v := (0 : Int32)) hx hb dL_turned_356 (by decide) ?_
                          obtain ⟨rfl, rfl⟩ := Prod.mk.inj (Option.some.inj h)
                          exact hend _ hd0 _ _ _ _ dL_turned_357 rfl hP hS
            · have h := ite_f hc h
              refine lv_aload_n hx hb dL_turned_230 rfl (lv_at hl 0 rfl) ?_
              refine lv_iload hx hb dL_turned_231 (lv_at hl 5 rfl) ?_
              obtain ⟨r233, g233, hcal, h⟩ := bnd2_s h
              refine y_VI (s := (s.setDrawn d0)) (As := [.int v5]) hx hb hml hown (dr_words hts d0) hK hP hS hAA hW (ap_c hqa ap_0) (ct_X6_passes l D a cA cT hI g223 v5 r233 g233 hcal) tF_0 (C := RX6) (F := TX6) (N := 5) rfl (g_V q631 q632 q633 q35 q634) yd_X6_passes ⟨Nat.le_of_ble_eq_true rfl, Nat.le_of_ble_eq_true rfl⟩ [] rfl (Nat.le_of_ble_eq_true rfl) hl.1 ⟨Nat.le_refl _, Nat.le_refl _⟩ dL_turned_233 (fun H locs hP hW hS => ?_)
              refine lv_istore (lv' := [(6, .int r233), (0, .ref (a 0)), (1, .int x1), (2, .ref qa), (3, .int r7), (4, .int v4), (5, .int v5)]) hx hb dL_turned_236 hl (by decide) rfl (fun ls hl => ?_)
              refine lv_iload hx hb dL_turned_238 (lv_at hl 6 rfl) ?_
              refine lv_aload_n hx hb dL_turned_240 rfl (lv_at hl 1 rfl) ?_
              refine lv_iconst (v := (4 : Int32)) hx hb dL_turned_241 (by decide) ?_
              obtain ⟨r242, hcal, h⟩ := bnd_s h
              refine y_VI (s := (s.setDrawn d0)) (As := [.int (4 : Int32)]) hx hb hml hown (dr_words hts d0) hK hP hS hAA hW (ap_c hqa ap_0) (ct_X6_count l D a cA cT hI g233 (4 : Int32) r242 hcal) tF_0 (C := RX6) (F := TX6) (N := 5) rfl (g_V q212 q213 q214 q35 q215) yd_X6_count ⟨Nat.le_of_ble_eq_true rfl, Nat.le_of_ble_eq_true rfl⟩ [.int v5] rfl (Nat.le_of_ble_eq_true rfl) hl.1 ⟨Nat.le_refl _, Nat.le_refl _⟩ dL_turned_242 (fun H locs hP hW hS => ?_)
              refine lv_icmp_ge (tgt := 272) hx hb dL_turned_245 (by decide) (fun hc => ?_) (fun hc => ?_)
              · have h := ite_t hc h
                exact J272 v5 r233 g233 f223 _ _ _ _ hd0 hP hW hS (lv_sub hl [1, 2, 3, 4, 5, 6, 0] rfl) h
              · have h := ite_f hc h
                refine lv_iload hx hb dL_turned_248 (lv_at hl 0 rfl) ?_
                refine lv_if_lt (tgt := 272) hx hb dL_turned_250 (by decide) (fun hc => ?_) (fun hc => ?_)
                · have h := ite_t hc h
                  exact J272 v5 r233 g233 f223 _ _ _ _ hd0 hP hW hS (lv_sub hl [1, 2, 3, 4, 5, 6, 0] rfl) h
                · have h := ite_f hc h
                  refine lv_iload hx hb dL_turned_253 (lv_at hl 5 rfl) ?_
                  refine lv_iconst (v := (1 : Int32)) hx hb dL_turned_255 (by decide) ?_
                  refine lv_icmp_ne (tgt := 272) hx hb dL_turned_256 (by decide) (fun hc => ?_) (fun hc => ?_)
                  · have h := ite_f hc h
                    exact J272 v5 r233 g233 f223 _ _ _ _ hd0 hP hW hS (lv_sub hl [1, 2, 3, 4, 5, 6, 0] rfl) h
                  · have h := ite_t hc h
                    refine lv_aload_n hx hb dL_turned_259 rfl (lv_at hl 3 rfl) ?_
                    refine lv_iload hx hb dL_turned_260 (lv_at hl 6 rfl) ?_
                    obtain ⟨hz, h⟩ := ite_n h
                    refine va_iald (s := (s.setDrawn d0)) hx hb hK hW 0 0 rfl rfl hz dL_turned_262 ?_
                    refine lv_iload hx hb dL_turned_263 (lv_at hl 0 rfl) ?_
                    refine lv_iadd hx hb dL_turned_265 ?_
                    refine lv_iconst (v := (1 : Int32)) hx hb dL_turned_266 (by decide) ?_
                    refine lv_icmp_eq (tgt := 272) hx hb dL_turned_267 (by decide) (fun hc => ?_) (fun hc => ?_)
                    · have h := ite_t hc h
                      exact J272 v5 r233 g233 f223 _ _ _ _ hd0 hP hW hS (lv_sub hl [1, 2, 3, 4, 5, 6, 0] rfl) h
                    · have h := ite_f hc h
                      refine lv_iconst (v := (0 : Int32)) hx hb dL_turned_270 (by decide) ?_
                      obtain ⟨rfl, rfl⟩ := Prod.mk.inj (Option.some.inj h)
                      exact hend _ hd0 _ _ _ _ dL_turned_271 rfl hP hS
        exact K223 fuelN (0 : Int32) gj220 f _ _ _ _ hd0 hP hW hS (lv_sub hl [1, 2, 3, 4, 5, 0] rfl) h
      have J157 : ∀ (v4 : Int32) (w1 : Int32) (gj157 : MG) (f : Nat → Int32) (H : Heap) (locs : List Loc) (ls : Array Slot) (d0 : Drawn), s.drawn.sameBut d0 lw_cs → WP D a cA cT TC gj157 H → va_P D vwCl [ar cA qa f] H → va_S (An2 a s.heap.size) s.heap H locs → lv_has ls 7 [(0, .ref (a 0)), (1, .int x1), (2, .ref qa), (3, .int r7), (4, .int v4)] → m_L_turned_J157 (lpo (b_L_turned_L14 x1 r7) n14) x1 r7 v4 w1 gj157 f = some (r, g') → W p l e (rma 8 191) (s.setDrawn d0) m args below meth c H locs 1 64 Q (F0 m 157 ls [.int w1, .ref (a 0)]) := by
        intro v4 w1 gj157 f H locs ls d0 hd0 hP hW hS hl h
        unfold m_L_turned_J157 at h
        obtain ⟨r157, g157, hcal, h⟩ := bnd2_s h
        refine y_VI (s := (s.setDrawn d0)) (As := [.int w1]) hx hb hml hown (dr_words hts d0) hK hP hS hAA hW (ap_c hqa ap_0) (ct_X6_type l D a cA cT hI gj157 w1 r157 g157 hcal) tF_0 (C := RX6) (F := TX6) (N := 5) rfl (g_V q595 q596 q597 q35 q598) yd_X6_type ⟨Nat.le_of_ble_eq_true rfl, Nat.le_of_ble_eq_true rfl⟩ [] rfl (Nat.le_of_ble_eq_true rfl) hl.1 ⟨Nat.le_refl _, Nat.le_refl _⟩ dL_turned_157 (fun H locs hP hW hS => ?_)
        refine lv_pop hx hb dL_turned_160 rfl ?_
        refine lv_aload_n hx hb dL_turned_161 rfl (lv_at hl 0 rfl) ?_
        refine lv_bipush (v := (107 : Int32)) hx hb dL_turned_162 (by decide) ?_
        obtain ⟨r164, g164, hcal, h⟩ := bnd2_s h
        refine y_VI (s := (s.setDrawn d0)) (As := [.int (107 : Int32)]) hx hb hml hown (dr_words hts d0) hK hP hS hAA hW (ap_c hqa ap_0) (ct_X6_type l D a cA cT hI g157 (107 : Int32) r164 g164 hcal) tF_0 (C := RX6) (F := TX6) (N := 5) rfl (g_V q595 q596 q597 q35 q598) yd_X6_type ⟨Nat.le_of_ble_eq_true rfl, Nat.le_of_ble_eq_true rfl⟩ [] rfl (Nat.le_of_ble_eq_true rfl) hl.1 ⟨Nat.le_refl _, Nat.le_refl _⟩ dL_turned_164 (fun H locs hP hW hS => ?_)
        refine lv_pop hx hb dL_turned_167 rfl ?_
        refine lv_aload_n hx hb dL_turned_168 rfl (lv_at hl 0 rfl) ?_
        refine lv_bipush (v := (62 : Int32)) hx hb dL_turned_169 (by decide) ?_
        obtain ⟨r171, g171, hcal, h⟩ := bnd2_s h
        refine y_VI (s := (s.setDrawn d0)) (As := [.int (62 : Int32)]) hx hb hml hown (dr_words hts d0) hK hP hS hAA hW (ap_c hqa ap_0) (ct_X6_type l D a cA cT hI g164 (62 : Int32) r171 g171 hcal) tF_0 (C := RX6) (F := TX6) (N := 5) rfl (g_V q595 q596 q597 q35 q598) yd_X6_type ⟨Nat.le_of_ble_eq_true rfl, Nat.le_of_ble_eq_true rfl⟩ [] rfl (Nat.le_of_ble_eq_true rfl) hl.1 ⟨Nat.le_refl _, Nat.le_refl _⟩ dL_turned_171 (fun H locs hP hW hS => ?_)
        refine lv_pop hx hb dL_turned_174 rfl ?_
        refine lv_aload_n hx hb dL_turned_175 rfl (lv_at hl 0 rfl) ?_
        refine lv_bipush (v := (49 : Int32)) hx hb dL_turned_176 (by decide) ?_
        refine lv_iload_n hx hb dL_turned_178 rfl (lv_at hl 1 rfl) ?_
        refine lv_bipush (v := (12 : Int32)) hx hb dL_turned_179 (by decide) ?_
        refine lv_ishr hx hb dL_turned_181 ?_
        refine lv_bipush (v := (9 : Int32)) hx hb dL_turned_182 (by decide) ?_
        obtain ⟨r184, hcal, h⟩ := bnd_s h
        refine y_SI (s := (s.setDrawn d0)) (As := [.int (x1 >>> ((12 : Int32) &&& 31)), .int (9 : Int32)]) hx hb hml hown (dr_words hts d0) hK hP hS hAA hW (ap_c hqa ap_0) (ct_L_low l D a cA cT hI g171 (x1 >>> ((12 : Int32) &&& 31)) (9 : Int32) r184 hcal) (g_S q299 q300 q34 q301) yd_L_low ⟨Nat.le_of_ble_eq_true rfl, Nat.le_of_ble_eq_true rfl⟩ [.int (49 : Int32), .ref (a 0)] rfl (Nat.le_of_ble_eq_true rfl) hl.1 ⟨Nat.le_refl _, Nat.le_refl _⟩ dL_turned_184 (fun H locs hP hW hS => ?_)
        refine lv_iadd hx hb dL_turned_187 ?_
        refine lv_i2c hx hb dL_turned_188 rfl ?_
        obtain ⟨r189, g189, hcal, h⟩ := bnd2_s h
        refine y_VI (s := (s.setDrawn d0)) (As := [.int ((((49 : Int32) + r184).toUInt32 % 65536).toInt32)]) hx hb hml hown (dr_words hts d0) hK hP hS hAA hW (ap_c hqa ap_0) (ct_X6_type l D a cA cT hI g171 ((((49 : Int32) + r184).toUInt32 % 65536).toInt32) r189 g189 hcal) tF_0 (C := RX6) (F := TX6) (N := 5) rfl (g_V q595 q596 q597 q35 q598) yd_X6_type ⟨Nat.le_of_ble_eq_true rfl, Nat.le_of_ble_eq_true rfl⟩ [] rfl (Nat.le_of_ble_eq_true rfl) hl.1 ⟨Nat.le_refl _, Nat.le_refl _⟩ dL_turned_189 (fun H locs hP hW hS => ?_)
        refine lv_pop hx hb dL_turned_192 rfl ?_
        refine lv_aload_n hx hb dL_turned_193 rfl (lv_at hl 0 rfl) ?_
        refine lv_bipush (v := (48 : Int32)) hx hb dL_turned_194 (by decide) ?_
        obtain ⟨r196, g196, hcal, h⟩ := bnd2_s h
        refine y_VI (s := (s.setDrawn d0)) (As := [.int (48 : Int32)]) hx hb hml hown (dr_words hts d0) hK hP hS hAA hW (ap_c hqa ap_0) (ct_X6_type l D a cA cT hI g189 (48 : Int32) r196 g196 hcal) tF_0 (C := RX6) (F := TX6) (N := 5) rfl (g_V q595 q596 q597 q35 q598) yd_X6_type ⟨Nat.le_of_ble_eq_true rfl, Nat.le_of_ble_eq_true rfl⟩ [] rfl (Nat.le_of_ble_eq_true rfl) hl.1 ⟨Nat.le_refl _, Nat.le_refl _⟩ dL_turned_196 (fun H locs hP hW hS => ?_)
        refine lv_pop hx hb dL_turned_199 rfl ?_
        refine lv_aload_n hx hb dL_turned_200 rfl (lv_at hl 0 rfl) ?_
        refine lv_bipush (v := (48 : Int32)) hx hb dL_turned_201 (by decide) ?_
        obtain ⟨r203, g203, hcal, h⟩ := bnd2_s h
        refine y_VI (s := (s.setDrawn d0)) (As := [.int (48 : Int32)]) hx hb hml hown (dr_words hts d0) hK hP hS hAA hW (ap_c hqa ap_0) (ct_X6_type l D a cA cT hI g196 (48 : Int32) r203 g203 hcal) tF_0 (C := RX6) (F := TX6) (N := 5) rfl (g_V q595 q596 q597 q35 q598) yd_X6_type ⟨Nat.le_of_ble_eq_true rfl, Nat.le_of_ble_eq_true rfl⟩ [] rfl (Nat.le_of_ble_eq_true rfl) hl.1 ⟨Nat.le_refl _, Nat.le_refl _⟩ dL_turned_203 (fun H locs hP hW hS => ?_)
        refine lv_pop hx hb dL_turned_206 rfl ?_
        refine lv_iload hx hb dL_turned_207 (lv_at hl 4 rfl) ?_
        refine lv_iconst (v := (1 : Int32)) hx hb dL_turned_209 (by decide) ?_
        refine lv_icmp_ne (tgt := 220) hx hb dL_turned_210 (by decide) (fun hc => ?_) (fun hc => ?_)
        · have h := ite_f hc h
          exact J220 v4 g203 f _ _ _ _ hd0 hP hW hS (lv_sub hl [0, 1, 2, 3, 4] rfl) h
        · have h := ite_t hc h
          refine lv_aload_n hx hb dL_turned_213 rfl (lv_at hl 0 rfl) ?_
          refine lv_bipush (v := (41 : Int32)) hx hb dL_turned_214 (by decide) ?_
          obtain ⟨r216, g216, hcal, h⟩ := bnd2_s h
          refine y_VI (s := (s.setDrawn d0)) (As := [.int (41 : Int32)]) hx hb hml hown (dr_words hts d0) hK hP hS hAA hW (ap_c hqa ap_0) (ct_X6_type l D a cA cT hI g203 (41 : Int32) r216 g216 hcal) tF_0 (C := RX6) (F := TX6) (N := 5) rfl (g_V q595 q596 q597 q35 q598) yd_X6_type ⟨Nat.le_of_ble_eq_true rfl, Nat.le_of_ble_eq_true rfl⟩ [] rfl (Nat.le_of_ble_eq_true rfl) hl.1 ⟨Nat.le_refl _, Nat.le_refl _⟩ dL_turned_216 (fun H locs hP hW hS => ?_)
          refine lv_pop hx hb dL_turned_219 rfl ?_
          exact J220 v4 g216 f _ _ _ _ hd0 hP hW hS (lv_sub hl [0, 1, 2, 3, 4] rfl) h
      have J99 : ∀ (v4 : Int32) (w1 : Int32) (gj99 : MG) (f : Nat → Int32) (H : Heap) (locs : List Loc) (ls : Array Slot) (d0 : Drawn), s.drawn.sameBut d0 lw_cs → WP D a cA cT TC gj99 H → va_P D vwCl [ar cA qa f] H → va_S (An2 a s.heap.size) s.heap H locs → lv_has ls 7 [(0, .ref (a 0)), (1, .int x1), (2, .ref qa), (3, .int r7), (4, .int v4)] → m_L_turned_J99 (lpo (b_L_turned_L14 x1 r7) n14) x1 r7 v4 w1 gj99 f = some (r, g') → W p l e (rma 8 191) (s.setDrawn d0) m args below meth c H locs 1 64 Q (F0 m 99 ls [.int w1, .ref (a 0)]) := by
        intro v4 w1 gj99 f H locs ls d0 hd0 hP hW hS hl h
        unfold m_L_turned_J99 at h
        obtain ⟨r99, g99, hcal, h⟩ := bnd2_s h
        refine y_VI (s := (s.setDrawn d0)) (As := [.int w1]) hx hb hml hown (dr_words hts d0) hK hP hS hAA hW (ap_c hqa ap_0) (ct_X6_type l D a cA cT hI gj99 w1 r99 g99 hcal) tF_0 (C := RX6) (F := TX6) (N := 5) rfl (g_V q595 q596 q597 q35 q598) yd_X6_type ⟨Nat.le_of_ble_eq_true rfl, Nat.le_of_ble_eq_true rfl⟩ [] rfl (Nat.le_of_ble_eq_true rfl) hl.1 ⟨Nat.le_refl _, Nat.le_refl _⟩ dL_turned_99 (fun H locs hP hW hS => ?_)
        refine lv_pop hx hb dL_turned_102 rfl ?_
        refine lv_aload_n hx hb dL_turned_103 rfl (lv_at hl 0 rfl) ?_
        refine lv_bipush (v := (49 : Int32)) hx hb dL_turned_104 (by decide) ?_
        refine lv_iload_n hx hb dL_turned_106 rfl (lv_at hl 1 rfl) ?_
        refine lv_iconst (v := (3 : Int32)) hx hb dL_turned_107 (by decide) ?_
        refine lv_ishr hx hb dL_turned_108 ?_
        refine lv_bipush (v := (9 : Int32)) hx hb dL_turned_109 (by decide) ?_
        obtain ⟨r111, hcal, h⟩ := bnd_s h
        refine y_SI (s := (s.setDrawn d0)) (As := [.int (x1 >>> ((3 : Int32) &&& 31)), .int (9 : Int32)]) hx hb hml hown (dr_words hts d0) hK hP hS hAA hW (ap_c hqa ap_0) (ct_L_low l D a cA cT hI g99 (x1 >>> ((3 : Int32) &&& 31)) (9 : Int32) r111 hcal) (g_S q299 q300 q34 q301) yd_L_low ⟨Nat.le_of_ble_eq_true rfl, Nat.le_of_ble_eq_true rfl⟩ [.int (49 : Int32), .ref (a 0)] rfl (Nat.le_of_ble_eq_true rfl) hl.1 ⟨Nat.le_refl _, Nat.le_refl _⟩ dL_turned_111 (fun H locs hP hW hS => ?_)
        refine lv_iadd hx hb dL_turned_114 ?_
        refine lv_i2c hx hb dL_turned_115 rfl ?_
        obtain ⟨r116, g116, hcal, h⟩ := bnd2_s h
        refine y_VI (s := (s.setDrawn d0)) (As := [.int ((((49 : Int32) + r111).toUInt32 % 65536).toInt32)]) hx hb hml hown (dr_words hts d0) hK hP hS hAA hW (ap_c hqa ap_0) (ct_X6_type l D a cA cT hI g99 ((((49 : Int32) + r111).toUInt32 % 65536).toInt32) r116 g116 hcal) tF_0 (C := RX6) (F := TX6) (N := 5) rfl (g_V q595 q596 q597 q35 q598) yd_X6_type ⟨Nat.le_of_ble_eq_true rfl, Nat.le_of_ble_eq_true rfl⟩ [] rfl (Nat.le_of_ble_eq_true rfl) hl.1 ⟨Nat.le_refl _, Nat.le_refl _⟩ dL_turned_116 (fun H locs hP hW hS => ?_)
        refine lv_pop hx hb dL_turned_119 rfl ?_
        refine lv_aload_n hx hb dL_turned_120 rfl (lv_at hl 0 rfl) ?_
        refine lv_bipush (v := (48 : Int32)) hx hb dL_turned_121 (by decide) ?_
        refine lv_iload_n hx hb dL_turned_123 rfl (lv_at hl 1 rfl) ?_
        refine lv_bipush (v := (7 : Int32)) hx hb dL_turned_124 (by decide) ?_
        refine lv_ishr hx hb dL_turned_126 ?_
        refine lv_bipush (v := (10 : Int32)) hx hb dL_turned_127 (by decide) ?_
        obtain ⟨r129, hcal, h⟩ := bnd_s h
        refine y_SI (s := (s.setDrawn d0)) (As := [.int (x1 >>> ((7 : Int32) &&& 31)), .int (10 : Int32)]) hx hb hml hown (dr_words hts d0) hK hP hS hAA hW (ap_c hqa ap_0) (ct_L_low l D a cA cT hI g116 (x1 >>> ((7 : Int32) &&& 31)) (10 : Int32) r129 hcal) (g_S q299 q300 q34 q301) yd_L_low ⟨Nat.le_of_ble_eq_true rfl, Nat.le_of_ble_eq_true rfl⟩ [.int (48 : Int32), .ref (a 0)] rfl (Nat.le_of_ble_eq_true rfl) hl.1 ⟨Nat.le_refl _, Nat.le_refl _⟩ dL_turned_129 (fun H locs hP hW hS => ?_)
        refine lv_iadd hx hb dL_turned_132 ?_
        refine lv_i2c hx hb dL_turned_133 rfl ?_
        obtain ⟨r134, g134, hcal, h⟩ := bnd2_s h
        refine y_VI (s := (s.setDrawn d0)) (As := [.int ((((48 : Int32) + r129).toUInt32 % 65536).toInt32)]) hx hb hml hown (dr_words hts d0) hK hP hS hAA hW (ap_c hqa ap_0) (ct_X6_type l D a cA cT hI g116 ((((48 : Int32) + r129).toUInt32 % 65536).toInt32) r134 g134 hcal) tF_0 (C := RX6) (F := TX6) (N := 5) rfl (g_V q595 q596 q597 q35 q598) yd_X6_type ⟨Nat.le_of_ble_eq_true rfl, Nat.le_of_ble_eq_true rfl⟩ [] rfl (Nat.le_of_ble_eq_true rfl) hl.1 ⟨Nat.le_refl _, Nat.le_refl _⟩ dL_turned_134 (fun H locs hP hW hS => ?_)
        refine lv_pop hx hb dL_turned_137 rfl ?_
        refine lv_aload_n hx hb dL_turned_138 rfl (lv_at hl 0 rfl) ?_
        refine lv_iload_n hx hb dL_turned_139 rfl (lv_at hl 1 rfl) ?_
        refine lv_bipush (v := (11 : Int32)) hx hb dL_turned_140 (by decide) ?_
        refine lv_ishr hx hb dL_turned_142 ?_
        refine lv_iconst (v := (2 : Int32)) hx hb dL_turned_143 (by decide) ?_
        obtain ⟨r144, hcal, h⟩ := bnd_s h
        refine y_SI (s := (s.setDrawn d0)) (As := [.int (x1 >>> ((11 : Int32) &&& 31)), .int (2 : Int32)]) hx hb hml hown (dr_words hts d0) hK hP hS hAA hW (ap_c hqa ap_0) (ct_L_low l D a cA cT hI g134 (x1 >>> ((11 : Int32) &&& 31)) (2 : Int32) r144 hcal) (g_S q299 q300 q34 q301) yd_L_low ⟨Nat.le_of_ble_eq_true rfl, Nat.le_of_ble_eq_true rfl⟩ [.ref (a 0)] rfl (Nat.le_of_ble_eq_true rfl) hl.1 ⟨Nat.le_refl _, Nat.le_refl _⟩ dL_turned_144 (fun H locs hP hW hS => ?_)
        refine lv_if_ne (tgt := 155) hx hb dL_turned_147 (by decide) (fun hc => ?_) (fun hc => ?_)
        · have h := ite_f hc h
          refine lv_bipush (v := (124 : Int32)) hx hb dL_turned_155 (by decide) ?_
          exact J157 v4 (124 : Int32) g134 f _ _ _ _ hd0 hP hW hS (lv_sub hl [0, 1, 2, 3, 4] rfl) h
        · have h := ite_t hc h
          refine lv_bipush (v := (38 : Int32)) hx hb dL_turned_150 (by decide) ?_
          refine lv_goto (tgt := 157) hx hb dL_turned_152 (by decide) ?_
          exact J157 v4 (38 : Int32) g134 f _ _ _ _ hd0 hP hW hS (lv_sub hl [0, 1, 2, 3, 4] rfl) h
      have J63 : ∀ (v4 : Int32) (w1 : Int32) (gj63 : MG) (f : Nat → Int32) (H : Heap) (locs : List Loc) (ls : Array Slot) (d0 : Drawn), s.drawn.sameBut d0 lw_cs → WP D a cA cT TC gj63 H → va_P D vwCl [ar cA qa f] H → va_S (An2 a s.heap.size) s.heap H locs → lv_has ls 7 [(0, .ref (a 0)), (1, .int x1), (2, .ref qa), (3, .int r7), (4, .int v4)] → m_L_turned_J63 (lpo (b_L_turned_L14 x1 r7) n14) x1 r7 v4 w1 gj63 f = some (r, g') → W p l e (rma 8 191) (s.setDrawn d0) m args below meth c H locs 1 64 Q (F0 m 63 ls [.int w1, .ref (a 0)]) := by
        intro v4 w1 gj63 f H locs ls d0 hd0 hP hW hS hl h
        unfold m_L_turned_J63 at h
        obtain ⟨r63, g63, hcal, h⟩ := bnd2_s h
        refine y_VI (s := (s.setDrawn d0)) (As := [.int w1]) hx hb hml hown (dr_words hts d0) hK hP hS hAA hW (ap_c hqa ap_0) (ct_X6_type l D a cA cT hI gj63 w1 r63 g63 hcal) tF_0 (C := RX6) (F := TX6) (N := 5) rfl (g_V q595 q596 q597 q35 q598) yd_X6_type ⟨Nat.le_of_ble_eq_true rfl, Nat.le_of_ble_eq_true rfl⟩ [] rfl (Nat.le_of_ble_eq_true rfl) hl.1 ⟨Nat.le_refl _, Nat.le_refl _⟩ dL_turned_63 (fun H locs hP hW hS => ?_)
        refine lv_pop hx hb dL_turned_66 rfl ?_
        refine lv_aload_n hx hb dL_turned_67 rfl (lv_at hl 0 rfl) ?_
        refine lv_iload_n hx hb dL_turned_68 rfl (lv_at hl 3 rfl) ?_
        refine lv_if_ne (tgt := 77) hx hb dL_turned_69 (by decide) (fun hc => ?_) (fun hc => ?_)
        · have h := ite_f hc h
          refine lv_iload_n hx hb dL_turned_77 rfl (lv_at hl 3 rfl) ?_
          refine lv_iconst (v := (1 : Int32)) hx hb dL_turned_78 (by decide) ?_
          refine lv_icmp_ne (tgt := 87) hx hb dL_turned_79 (by decide) (fun hc => ?_) (fun hc => ?_)
          · have h := ite_f hc h
            refine lv_iload_n hx hb dL_turned_87 rfl (lv_at hl 3 rfl) ?_
            refine lv_iconst (v := (2 : Int32)) hx hb dL_turned_88 (by decide) ?_
            refine lv_icmp_ne (tgt := 97) hx hb dL_turned_89 (by decide) (fun hc => ?_) (fun hc => ?_)
            · have h := ite_f hc h
              refine lv_bipush (v := (35 : Int32)) hx hb dL_turned_97 (by decide) ?_
              exact J99 v4 (35 : Int32) g63 f _ _ _ _ hd0 hP hW hS (lv_sub hl [0, 1, 2, 3, 4] rfl) h
            · have h := ite_t hc h
              refine lv_bipush (v := (61 : Int32)) hx hb dL_turned_92 (by decide) ?_
              refine lv_goto (tgt := 99) hx hb dL_turned_94 (by decide) ?_
              exact J99 v4 (61 : Int32) g63 f _ _ _ _ hd0 hP hW hS (lv_sub hl [0, 1, 2, 3, 4] rfl) h
          · have h := ite_t hc h
            refine lv_bipush (v := (62 : Int32)) hx hb dL_turned_82 (by decide) ?_
            refine lv_goto (tgt := 99) hx hb dL_turned_84 (by decide) ?_
            exact J99 v4 (62 : Int32) g63 f _ _ _ _ hd0 hP hW hS (lv_sub hl [0, 1, 2, 3, 4] rfl) h
        · have h := ite_t hc h
          refine lv_bipush (v := (60 : Int32)) hx hb dL_turned_72 (by decide) ?_
          refine lv_goto (tgt := 99) hx hb dL_turned_74 (by decide) ?_
          exact J99 v4 (60 : Int32) g63 f _ _ _ _ hd0 hP hW hS (lv_sub hl [0, 1, 2, 3, 4] rfl) h
      have J45 : ∀ (v4 : Int32) (gj45 : MG) (f : Nat → Int32) (H : Heap) (locs : List Loc) (ls : Array Slot) (d0 : Drawn), s.drawn.sameBut d0 lw_cs → WP D a cA cT TC gj45 H → va_P D vwCl [ar cA qa f] H → va_S (An2 a s.heap.size) s.heap H locs → lv_has ls 7 [(0, .ref (a 0)), (1, .int x1), (2, .ref qa), (3, .int r7), (4, .int v4)] → m_L_turned_J45 (lpo (b_L_turned_L14 x1 r7) n14) x1 r7 v4 gj45 f = some (r, g') → W p l e (rma 8 191) (s.setDrawn d0) m args below meth c H locs 1 64 Q (F0 m 45 ls []) := by
        intro v4 gj45 f H locs ls d0 hd0 hP hW hS hl h
        unfold m_L_turned_J45 at h
        refine lv_aload_n hx hb dL_turned_45 rfl (lv_at hl 0 rfl) ?_
        refine lv_iload_n hx hb dL_turned_46 rfl (lv_at hl 1 rfl) ?_
        refine lv_iconst (v := (2 : Int32)) hx hb dL_turned_47 (by decide) ?_
        refine lv_ishr hx hb dL_turned_48 ?_
        refine lv_iconst (v := (2 : Int32)) hx hb dL_turned_49 (by decide) ?_
        obtain ⟨r50, hcal, h⟩ := bnd_s h
        refine y_SI (s := (s.setDrawn d0)) (As := [.int (x1 >>> ((2 : Int32) &&& 31)), .int (2 : Int32)]) hx hb hml hown (dr_words hts d0) hK hP hS hAA hW (ap_c hqa ap_0) (ct_L_low l D a cA cT hI gj45 (x1 >>> ((2 : Int32) &&& 31)) (2 : Int32) r50 hcal) (g_S q299 q300 q34 q301) yd_L_low ⟨Nat.le_of_ble_eq_true rfl, Nat.le_of_ble_eq_true rfl⟩ [.ref (a 0)] rfl (Nat.le_of_ble_eq_true rfl) hl.1 ⟨Nat.le_refl _, Nat.le_refl _⟩ dL_turned_50 (fun H locs hP hW hS => ?_)
        refine lv_if_ne (tgt := 61) hx hb dL_turned_53 (by decide) (fun hc => ?_) (fun hc => ?_)
        · have h := ite_f hc h
          refine lv_bipush (v := (118 : Int32)) hx hb dL_turned_61 (by decide) ?_
          exact J63 v4 (118 : Int32) gj45 f _ _ _ _ hd0 hP hW hS (lv_sub hl [0, 1, 2, 3, 4] rfl) h
        · have h := ite_t hc h
          refine lv_bipush (v := (107 : Int32)) hx hb dL_turned_56 (by decide) ?_
          refine lv_goto (tgt := 63) hx hb dL_turned_58 (by decide) ?_
          exact J63 v4 (107 : Int32) gj45 f _ _ _ _ hd0 hP hW hS (lv_sub hl [0, 1, 2, 3, 4] rfl) h
      refine lv_iload hx hb dL_turned_14 (lv_at hl 4 rfl) ?_
      refine lv_iconst (v := (2 : Int32)) hx hb dL_turned_16 (by decide) ?_
      refine lv_icmp_ge (tgt := 456) hx hb dL_turned_17 (by decide) (fun hc => ?_) (fun hc => ?_)
      · have h := ite_t hc h
        refine lv_iconst (v := (1 : Int32)) hx hb dL_turned_456 (by decide) ?_
        obtain ⟨rfl, rfl⟩ := Prod.mk.inj (Option.some.inj h)
        exact hend _ hd0 _ _ _ _ dL_turned_457 rfl hP hS
      · have h := ite_f hc h
        refine lv_aload_n hx hb dL_turned_20 rfl (lv_at hl 0 rfl) ?_
        obtain ⟨r21, g21, hcal, h⟩ := bnd2_s h
        refine y_VI (s := (s.setDrawn d0)) (As := []) hx hb hml hown (dr_words hts d0) hK hP hS hAA hW (ap_c hqa ap_0) (ct_X6_clearText l D a cA cT hI g14 r21 g21 hcal) tF_0 (C := RX6) (F := TX6) (N := 5) rfl (g_V q587 q588 q589 q35 q590) yd_X6_clearText ⟨Nat.le_of_ble_eq_true rfl, Nat.le_of_ble_eq_true rfl⟩ [] rfl (Nat.le_of_ble_eq_true rfl) hl.1 ⟨Nat.le_refl _, Nat.le_refl _⟩ dL_turned_21 (fun H locs hP hW hS => ?_)
        refine lv_pop hx hb dL_turned_24 rfl ?_
        refine lv_iload hx hb dL_turned_25 (lv_at hl 4 rfl) ?_
        refine lv_iconst (v := (1 : Int32)) hx hb dL_turned_27 (by decide) ?_
        refine lv_icmp_ne (tgt := 45) hx hb dL_turned_28 (by decide) (fun hc => ?_) (fun hc => ?_)
        · have h := ite_f hc h
          exact J45 v4 g21 f14 _ _ _ _ hd0 hP hW hS (lv_sub hl [0, 1, 2, 3, 4] rfl) h
        · have h := ite_t hc h
          refine lv_aload_n hx hb dL_turned_31 rfl (lv_at hl 0 rfl) ?_
          refine lv_bipush (v := (33 : Int32)) hx hb dL_turned_32 (by decide) ?_
          obtain ⟨r34, g34, hcal, h⟩ := bnd2_s h
          refine y_VI (s := (s.setDrawn d0)) (As := [.int (33 : Int32)]) hx hb hml hown (dr_words hts d0) hK hP hS hAA hW (ap_c hqa ap_0) (ct_X6_type l D a cA cT hI g21 (33 : Int32) r34 g34 hcal) tF_0 (C := RX6) (F := TX6) (N := 5) rfl (g_V q595 q596 q597 q35 q598) yd_X6_type ⟨Nat.le_of_ble_eq_true rfl, Nat.le_of_ble_eq_true rfl⟩ [] rfl (Nat.le_of_ble_eq_true rfl) hl.1 ⟨Nat.le_refl _, Nat.le_refl _⟩ dL_turned_34 (fun H locs hP hW hS => ?_)
          refine lv_pop hx hb dL_turned_37 rfl ?_
          refine lv_aload_n hx hb dL_turned_38 rfl (lv_at hl 0 rfl) ?_
          refine lv_bipush (v := (40 : Int32)) hx hb dL_turned_39 (by decide) ?_
          obtain ⟨r41, g41, hcal, h⟩ := bnd2_s h
          refine y_VI (s := (s.setDrawn d0)) (As := [.int (40 : Int32)]) hx hb hml hown (dr_words hts d0) hK hP hS hAA hW (ap_c hqa ap_0) (ct_X6_type l D a cA cT hI g34 (40 : Int32) r41 g41 hcal) tF_0 (C := RX6) (F := TX6) (N := 5) rfl (g_V q595 q596 q597 q35 q598) yd_X6_type ⟨Nat.le_of_ble_eq_true rfl, Nat.le_of_ble_eq_true rfl⟩ [] rfl (Nat.le_of_ble_eq_true rfl) hl.1 ⟨Nat.le_refl _, Nat.le_refl _⟩ dL_turned_41 (fun H locs hP hW hS => ?_)
          refine lv_pop hx hb dL_turned_44 rfl ?_
          exact J45 v4 g41 f14 _ _ _ _ hd0 hP hW hS (lv_sub hl [0, 1, 2, 3, 4] rfl) h
  exact K14 fuelN (0 : Int32) g (fun _ => 0) _ _ _ _ hd0 hP hW hS (lv_sub hl [3, 4, 2, 1, 0] rfl) h
