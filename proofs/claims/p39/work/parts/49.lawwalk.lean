set_option maxHeartbeats 4000000 in
set_option maxRecDepth 100000 in
theorem law_walk {p : Program} {e : Env} {s : State} {m : MethodId} {below : List Frame} {meth : Method} {c : Code} (l : Launch) {b L : Nat} {xs : Nat → Int32} {D : va_G} {a : Nat → Nat} {cA cT : ClassId} (C0 : lw_At p s m meth c b L xs) (hK : va_K D vwCl (TY cA cT) s) (hI : WI a TC) (hAA : ∀ q, AA a TC q → s.heap.size ≤ q) (g : MG) (h : m_L_law g L xs = some 1) (H : Heap) (locs : List Loc) (ls : Array Slot) (d0 : Drawn) (hd0 : s.drawn.sameBut d0 lw_cs) (hP : WP D a cA cT TC g H) (hS : va_S (fun q => s.heap.size ≤ q) s.heap H locs) (hl : lv_has ls 10 [(1, .ref (a 0)), (0, .ref b)]) : W p l e room_1 (s.setDrawn d0) m #[Value.ref b] below meth c H locs 110 7893 (lw_Z below #[Value.ref b] s) (F0 m 8 ls []) := by
  obtain ⟨hx, hb, hr, hml, hown, hts0, hX, hbl, hlocks, hgv⟩ := id C0
  have hts : ∀ w ∈ lw_all, w.before #[Value.ref b] s = true := fun w h => hts0 w (lw_all_tbl h)
  have hA : ∀ q : Nat, s.heap.size ≤ q → (fun q : Nat => s.heap.size ≤ q) q := fun _ h => h
  have hAA : ∀ q, AA a TC q → (fun q : Nat => s.heap.size ≤ q) q := hAA
  have hbA : ¬ (fun q : Nat => s.heap.size ≤ q) b := Nat.not_le.mpr hbl
  unfold m_L_law at h
  refine lv_iconst (v := (0 : Int32)) hx hb dL_law_8 (by decide) ?_
  refine lv_istore_n (lv' := [(2, .int (0 : Int32)), (1, .ref (a 0)), (0, .ref b)]) hx hb dL_law_9 rfl hl (by decide) rfl (fun ls hl => ?_)
  have K10 : ∀ (n10 : Nat), n10 ≤ 10000 → ∀ (v2 : Int32) (g10 : MG) (H : Heap) (locs : List Loc) (ls : Array Slot) (d0 : Drawn), s.drawn.sameBut d0 lw_cs → WP D a cA cT TC g10 H → va_S (fun q => s.heap.size ≤ q) s.heap H locs → lv_has ls 10 [(0, .ref b), (1, .ref (a 0)), (2, .int v2)] → lpo (b_L_law_L10 L xs) n10 (v2, g10) = some 1 → W p l e room_1 (s.setDrawn d0) m #[Value.ref b] below meth c H locs (60000 - 5 * n10) (4000000 - 320 * n10) (lw_Z below #[Value.ref b] s) (F0 m 10 ls []) := by
    intro n10
    induction n10 with
    | zero => intro hn10 v2 g10 H locs ls d0 hd0 hP hS hl h; exact (lpo_0 h).elim
    | succ n10 ih10 =>
      intro hn10 v2 g10 H locs ls d0 hd0 hP hS hl h
      have hW : va_P D vwCl [] H := fun k q h => by simp at h
      have h : m_L_law_L10 (lpo (b_L_law_L10 L xs) n10) L xs v2 g10 = some 1 := h
      unfold m_L_law_L10 at h
      have J194 : ∀ (v2 : Int32) (v3 : Int32) (v4 : Int32) (gj194 : MG) (H : Heap) (locs : List Loc) (ls : Array Slot) (d0 : Drawn), s.drawn.sameBut d0 lw_cs → WP D a cA cT TC gj194 H → va_S (fun q => s.heap.size ≤ q) s.heap H locs → lv_has ls 10 [(0, .ref b), (1, .ref (a 0)), (2, .int v2), (3, .int v3), (4, .int v4)] → m_L_law_J194 (lpo (b_L_law_L10 L xs) n10) L xs v2 v3 v4 gj194 = some 1 → W p l e room_1 (s.setDrawn d0) m #[Value.ref b] below meth c H locs (60000 - 5 * (n10 + 1) + 4) (4000000 - 320 * (n10 + 1) + 256) (lw_Z below #[Value.ref b] s) (F0 m 194 ls []) := by
        intro v2 v3 v4 gj194 H locs ls d0 hd0 hP hS hl h
        unfold m_L_law_J194 at h
        have hW : va_P D vwCl [] H := fun k q h => by simp at h
        refine lv_aload_n hx hb dL_law_194 rfl (lv_at hl 1 rfl) ?_
        obtain ⟨r195, hcal, h⟩ := bnd_s h
        refine y_SI (s := (s.setDrawn d0)) (As := [.ref (a 0)]) hx hb hml hown (dr_words hts d0) hK hP hS hAA hW ap_0 (ct_L_sums l D a cA cT hI gj194 r195 hcal) (g_S q325 q326 q34 q327) yd_L_sums ⟨Nat.le_of_ble_eq_true rfl, Nat.le_of_ble_eq_true rfl⟩ [] rfl (Nat.le_of_ble_eq_true rfl) hl.1 ⟨rm_c (by omega), rm_s (by omega)⟩ dL_law_195 (fun H locs hP hW hS => ?_)
        refine lv_if_eq (tgt := 231) hx hb dL_law_198 (by decide) (fun hc => ?_) (fun hc => ?_)
        · have h := ite_t hc h
          refine lv_iconst (v := (0 : Int32)) hx hb dL_law_231 (by decide) ?_
          exact absurd (Option.some.inj h) (by decide)
        · have h := ite_f hc h
          refine lv_iload_n hx hb dL_law_201 rfl (lv_at hl 2 rfl) ?_
          refine lv_iconst (v := (3 : Int32)) hx hb dL_law_202 (by decide) ?_
          obtain ⟨hz, h⟩ := ite_n h
          refine lv_irem hx hb dL_law_203 hz ?_
          refine lv_iconst (v := (2 : Int32)) hx hb dL_law_204 (by decide) ?_
          refine lv_icmp_ne (tgt := 233) hx hb dL_law_205 (by decide) (fun hc => ?_) (fun hc => ?_)
          · have h := ite_f hc h
            refine lv_iinc (v := (v2 + (1 : Int32))) (lv' := [(2, .int (v2 + (1 : Int32))), (0, .ref b), (1, .ref (a 0)), (3, .int v3), (4, .int v4)]) hx hb dL_law_233 hl (k := 2) rfl rfl (by decide) rfl (fun ls hl => ?_)
            refine lv_goto (tgt := 10) hx hb dL_law_236 (by decide) ?_
            refine W.widen (k := 60000 - 5 * n10) (n := 4000000 - 320 * n10) (by omega) (by omega) ?_
            exact ih10 (by omega) (v2 + (1 : Int32)) gj194 _ _ _ _ hd0 hP hS (lv_sub hl [1, 2, 0] rfl) h
          · have h := ite_t hc h
            refine lv_aload_n hx hb dL_law_208 rfl (lv_at hl 1 rfl) ?_
            refine lv_iload_n hx hb dL_law_209 rfl (lv_at hl 3 rfl) ?_
            refine lv_iconst (v := (5 : Int32)) hx hb dL_law_210 (by decide) ?_
            refine lv_ishr hx hb dL_law_211 ?_
            refine lv_iload hx hb dL_law_212 (lv_at hl 4 rfl) ?_
            obtain ⟨r214, g214, hcal, h⟩ := bnd2_s h
            refine y_SI (s := (s.setDrawn d0)) (As := [.ref (a 0), .int (v3 >>> ((5 : Int32) &&& 31)), .int v4]) hx hb hml hown (dr_words hts d0) hK hP hS hAA hW ap_0 (ct_L_back l D a cA cT hI gj194 (v3 >>> ((5 : Int32) &&& 31)) v4 r214 g214 hcal) (g_S q567 q568 q34 q569) yd_L_back ⟨Nat.le_of_ble_eq_true rfl, Nat.le_of_ble_eq_true rfl⟩ [] rfl (Nat.le_of_ble_eq_true rfl) hl.1 ⟨rm_c (by omega), rm_s (by omega)⟩ dL_law_214 (fun H locs hP hW hS => ?_)
            refine lv_if_eq (tgt := 231) hx hb dL_law_217 (by decide) (fun hc => ?_) (fun hc => ?_)
            · have h := ite_t hc h
              refine lv_iconst (v := (0 : Int32)) hx hb dL_law_231 (by decide) ?_
              exact absurd (Option.some.inj h) (by decide)
            · have h := ite_f hc h
              refine lv_aload_n hx hb dL_law_220 rfl (lv_at hl 1 rfl) ?_
              refine lv_iload hx hb dL_law_221 (lv_at hl 4 rfl) ?_
              refine lv_iconst (v := (1 : Int32)) hx hb dL_law_223 (by decide) ?_
              refine lv_ishr hx hb dL_law_224 ?_
              obtain ⟨r225, g225, hcal, h⟩ := bnd2_s h
              refine y_U hd0 hx hb hml hown hts hK hP hS hAA hW ap_0 hA (ct_L_turned l D a cA cT hI g214 (v4 >>> ((1 : Int32) &&& 31)) r225 g225 hcal) (g_S q584 q585 q34 q586) yd_L_turned ⟨Nat.le_of_ble_eq_true rfl, Nat.le_of_ble_eq_true rfl⟩ [] rfl (Nat.le_of_ble_eq_true rfl) hl.1 ⟨rm_c (by omega), rm_s (by omega)⟩ dL_law_225 (fun d0 H locs hd0 hP hW hS => ?_)
              refine lv_if_ne (tgt := 233) hx hb dL_law_228 (by decide) (fun hc => ?_) (fun hc => ?_)
              · have h := ite_f hc h
                refine lv_iinc (v := (v2 + (1 : Int32))) (lv' := [(2, .int (v2 + (1 : Int32))), (0, .ref b), (1, .ref (a 0)), (3, .int v3), (4, .int v4)]) hx hb dL_law_233 hl (k := 2) rfl rfl (by decide) rfl (fun ls hl => ?_)
                refine lv_goto (tgt := 10) hx hb dL_law_236 (by decide) ?_
                refine W.widen (k := 60000 - 5 * n10) (n := 4000000 - 320 * n10) (by omega) (by omega) ?_
                exact ih10 (by omega) (v2 + (1 : Int32)) g225 _ _ _ _ hd0 hP hS (lv_sub hl [1, 2, 0] rfl) h
              · have h := ite_t hc h
                refine lv_iconst (v := (0 : Int32)) hx hb dL_law_231 (by decide) ?_
                exact absurd (Option.some.inj h) (by decide)
      have J166 : ∀ (v2 : Int32) (v3 : Int32) (v4 : Int32) (v7 : Int32) (gj166 : MG) (H : Heap) (locs : List Loc) (ls : Array Slot) (d0 : Drawn), s.drawn.sameBut d0 lw_cs → WP D a cA cT TC gj166 H → va_S (fun q => s.heap.size ≤ q) s.heap H locs → lv_has ls 10 [(0, .ref b), (1, .ref (a 0)), (2, .int v2), (3, .int v3), (4, .int v4), (7, .int v7)] → m_L_law_J166 (lpo (b_L_law_L10 L xs) n10) L xs v2 v3 v4 v7 gj166 = some 1 → W p l e room_1 (s.setDrawn d0) m #[Value.ref b] below meth c H locs (60000 - 5 * (n10 + 1) + 4) (4000000 - 320 * (n10 + 1) + 256) (lw_Z below #[Value.ref b] s) (F0 m 166 ls []) := by
        intro v2 v3 v4 v7 gj166 H locs ls d0 hd0 hP hS hl h
        unfold m_L_law_J166 at h
        have hW : va_P D vwCl [] H := fun k q h => by simp at h
        refine lv_iload_n hx hb dL_law_166 rfl (lv_at hl 3 rfl) ?_
        refine lv_iconst (v := (3 : Int32)) hx hb dL_law_167 (by decide) ?_
        refine lv_ishr hx hb dL_law_168 ?_
        refine lv_bipush (v := (16 : Int32)) hx hb dL_law_169 (by decide) ?_
        obtain ⟨r171, hcal, h⟩ := bnd_s h
        refine y_SI (s := (s.setDrawn d0)) (As := [.int (v3 >>> ((3 : Int32) &&& 31)), .int (16 : Int32)]) hx hb hml hown (dr_words hts d0) hK hP hS hAA hW ap_0 (ct_L_low l D a cA cT hI gj166 (v3 >>> ((3 : Int32) &&& 31)) (16 : Int32) r171 hcal) (g_S q299 q300 q34 q301) yd_L_low ⟨Nat.le_of_ble_eq_true rfl, Nat.le_of_ble_eq_true rfl⟩ [] rfl (Nat.le_of_ble_eq_true rfl) hl.1 ⟨rm_c (by omega), rm_s (by omega)⟩ dL_law_171 (fun H locs hP hW hS => ?_)
        refine lv_bipush (v := (13 : Int32)) hx hb dL_law_174 (by decide) ?_
        refine lv_icmp_ne (tgt := 194) hx hb dL_law_176 (by decide) (fun hc => ?_) (fun hc => ?_)
        · have h := ite_f hc h
          refine W.widen (k := 60000 - 5 * (n10 + 1) + 4) (n := 4000000 - 320 * (n10 + 1) + 256) (by omega) (by omega) ?_
          exact J194 v2 v3 v4 gj166 _ _ _ _ hd0 hP hS (lv_sub hl [0, 1, 2, 3, 4] rfl) h
        · have h := ite_t hc h
          refine lv_iload hx hb dL_law_179 (lv_at hl 5 rfl) ?_
          refine lv_if_lt (tgt := 194) hx hb dL_law_181 (by decide) (fun hc => ?_) (fun hc => ?_)
          · have h := ite_t hc h
            refine W.widen (k := 60000 - 5 * (n10 + 1) + 4) (n := 4000000 - 320 * (n10 + 1) + 256) (by omega) (by omega) ?_
            exact J194 v2 v3 v4 gj166 _ _ _ _ hd0 hP hS (lv_sub hl [0, 1, 2, 3, 4] rfl) h
          · have h := ite_f hc h
            refine lv_aload_n hx hb dL_law_184 rfl (lv_at hl 1 rfl) ?_
            refine lv_iconst (v := (5 : Int32)) hx hb dL_law_185 (by decide) ?_
            obtain ⟨r186, hcal, h⟩ := bnd_s h
            refine y_VI (s := (s.setDrawn d0)) (As := [.int (5 : Int32)]) hx hb hml hown (dr_words hts d0) hK hP hS hAA hW ap_0 (ct_X6_count l D a cA cT hI gj166 (5 : Int32) r186 hcal) tF_0 (C := RX6) (F := TX6) (N := 5) rfl (g_V q212 q213 q214 q35 q215) yd_X6_count ⟨Nat.le_of_ble_eq_true rfl, Nat.le_of_ble_eq_true rfl⟩ [] rfl (Nat.le_of_ble_eq_true rfl) hl.1 ⟨rm_c (by omega), rm_s (by omega)⟩ dL_law_186 (fun H locs hP hW hS => ?_)
            refine lv_if_eq (tgt := 194) hx hb dL_law_189 (by decide) (fun hc => ?_) (fun hc => ?_)
            · have h := ite_t hc h
              refine W.widen (k := 60000 - 5 * (n10 + 1) + 4) (n := 4000000 - 320 * (n10 + 1) + 256) (by omega) (by omega) ?_
              exact J194 v2 v3 v4 gj166 _ _ _ _ hd0 hP hS (lv_sub hl [0, 1, 2, 3, 4] rfl) h
            · have h := ite_f hc h
              refine lv_iconst (v := (0 : Int32)) hx hb dL_law_192 (by decide) ?_
              exact absurd (Option.some.inj h) (by decide)
      refine lv_iload_n hx hb dL_law_10 rfl (lv_at hl 2 rfl) ?_
      refine lv_bipush (v := (28 : Int32)) hx hb dL_law_11 (by decide) ?_
      refine lv_icmp_ge (tgt := 239) hx hb dL_law_13 (by decide) (fun hc => ?_) (fun hc => ?_)
      · have h := ite_t hc h
        refine lv_iconst (v := (1 : Int32)) hx hb dL_law_239 (by decide) ?_
        refine W.widen (k := 600000) (n := 7302250) (by omega) (by omega) ?_
        refine va_forget (fun q hq => hS.2.2 q hq) ?_
        exact lw_ret hd0 hx hb hr hlocks dL_law_240
      · have h := ite_f hc h
        refine lv_aload_n hx hb dL_law_16 rfl (lv_at hl 0 rfl) ?_
        refine lv_iconst (v := (2 : Int32)) hx hb dL_law_17 (by decide) ?_
        refine lv_iload_n hx hb dL_law_18 rfl (lv_at hl 2 rfl) ?_
        refine lv_imul hx hb dL_law_19 ?_
        obtain ⟨r20, hcal, h⟩ := bnd_s h
        refine y_C (s := (s.setDrawn d0)) hx hb hml hown (dr_words hts d0) hK hP hS hAA hW ap_0 hX hbl hbA (ct_L_cell l b L xs ((2 : Int32) * v2) r20 hcal) (g_S q295 q296 q34 q297) yd_L_cell ⟨Nat.le_of_ble_eq_true rfl, Nat.le_of_ble_eq_true rfl⟩ [] rfl (Nat.le_of_ble_eq_true rfl) hl.1 ⟨rm_c (by omega), rm_s (by omega)⟩ dL_law_20 (fun H locs hP hW hS => ?_)
        refine lv_istore_n (lv' := [(3, .int r20), (0, .ref b), (1, .ref (a 0)), (2, .int v2)]) hx hb dL_law_23 rfl hl (by decide) rfl (fun ls hl => ?_)
        refine lv_aload_n hx hb dL_law_24 rfl (lv_at hl 1 rfl) ?_
        refine lv_iconst (v := (2 : Int32)) hx hb dL_law_25 (by decide) ?_
        refine lv_iload_n hx hb dL_law_26 rfl (lv_at hl 3 rfl) ?_
        refine lv_imul hx hb dL_law_27 ?_
        refine lv_iconst (v := (1 : Int32)) hx hb dL_law_28 (by decide) ?_
        refine lv_iadd hx hb dL_law_29 ?_
        obtain ⟨r30, hcal, h⟩ := bnd_s h
        refine y_C (s := (s.setDrawn d0)) hx hb hml hown (dr_words hts d0) hK hP hS hAA hW ap_0 hX hbl hbA (ct_L_cell l b L xs (((2 : Int32) * v2) + (1 : Int32)) r30 hcal) (g_S q295 q296 q34 q297) yd_L_cell ⟨Nat.le_of_ble_eq_true rfl, Nat.le_of_ble_eq_true rfl⟩ [] rfl (Nat.le_of_ble_eq_true rfl) hl.1 ⟨rm_c (by omega), rm_s (by omega)⟩ dL_law_30 (fun H locs hP hW hS => ?_)
        refine lv_istore (lv' := [(4, .int r30), (3, .int r20), (0, .ref b), (1, .ref (a 0)), (2, .int v2)]) hx hb dL_law_33 hl (by decide) rfl (fun ls hl => ?_)
        refine lv_aload_n hx hb dL_law_35 rfl (lv_at hl 3 rfl) ?_
        obtain ⟨f36, hcal, h⟩ := bnd_s h
        refine y_T (s := (s.setDrawn d0)) hx hb hml hown (dr_words hts d0) hK hP hS hAA hW ap_0 hA (ct_L_tell l D a cA cT hI g10 f36 hcal) (g_S q303 q304 q34 q305) yd_L_tell ⟨Nat.le_of_ble_eq_true rfl, Nat.le_of_ble_eq_true rfl⟩ [] rfl (Nat.le_of_ble_eq_true rfl) hl.1 ⟨rm_c (by omega), rm_s (by omega)⟩ dL_law_36 (fun q_36 H locs hP hW hS hq_36 => ?_)
        refine lv_astore (lv' := [(5, .ref q_36), (4, .int r30), (3, .int r20), (0, .ref b), (1, .ref (a 0)), (2, .int v2)]) hx hb dL_law_39 hl (by decide) rfl (fun ls hl => ?_)
        refine lv_aload_n hx hb dL_law_41 rfl (lv_at hl 4 rfl) ?_
        refine lv_bipush (v := (11 : Int32)) hx hb dL_law_42 (by decide) ?_
        obtain ⟨r44, hcal, h⟩ := bnd_s h
        refine y_VI (s := (s.setDrawn d0)) (As := [.int (11 : Int32)]) hx hb hml hown (dr_words hts d0) hK hP hS hAA hW (ap_c hq_36 ap_0) (ct_X6_count l D a cA cT hI g10 (11 : Int32) r44 hcal) tF_0 (C := RX6) (F := TX6) (N := 5) rfl (g_V q212 q213 q214 q35 q215) yd_X6_count ⟨Nat.le_of_ble_eq_true rfl, Nat.le_of_ble_eq_true rfl⟩ [] rfl (Nat.le_of_ble_eq_true rfl) hl.1 ⟨rm_c (by omega), rm_s (by omega)⟩ dL_law_44 (fun H locs hP hW hS => ?_)
        refine lv_istore (lv' := [(6, .int r44), (5, .ref q_36), (4, .int r30), (3, .int r20), (0, .ref b), (1, .ref (a 0)), (2, .int v2)]) hx hb dL_law_47 hl (by decide) rfl (fun ls hl => ?_)
        refine lv_aload_n hx hb dL_law_49 rfl (lv_at hl 5 rfl) ?_
        refine lv_iload_n hx hb dL_law_50 rfl (lv_at hl 3 rfl) ?_
        refine lv_iload hx hb dL_law_51 (lv_at hl 2 rfl) ?_
        obtain ⟨r53, g53, hcal, h⟩ := bnd2_s h
        refine y_SI (s := (s.setDrawn d0)) (As := [.ref (a 0), .int r20, .int r30]) hx hb hml hown (dr_words hts d0) hK hP hS hAA hW (ap_c hq_36 ap_0) (ct_L_act l D a cA cT hI g10 r20 r30 r53 g53 hcal) (g_S q402 q403 q34 q404) yd_L_act ⟨Nat.le_of_ble_eq_true rfl, Nat.le_of_ble_eq_true rfl⟩ [] rfl (Nat.le_of_ble_eq_true rfl) hl.1 ⟨rm_c (by omega), rm_s (by omega)⟩ dL_law_53 (fun H locs hP hW hS => ?_)
        refine lv_istore (lv' := [(7, .int r53), (6, .int r44), (5, .ref q_36), (4, .int r30), (3, .int r20), (0, .ref b), (1, .ref (a 0)), (2, .int v2)]) hx hb dL_law_56 hl (by decide) rfl (fun ls hl => ?_)
        refine lv_aload_n hx hb dL_law_58 rfl (lv_at hl 6 rfl) ?_
        obtain ⟨f59, hcal, h⟩ := bnd_s h
        refine y_T (s := (s.setDrawn d0)) hx hb hml hown (dr_words hts d0) hK hP hS hAA hW (ap_c hq_36 ap_0) hA (ct_L_tell l D a cA cT hI g53 f59 hcal) (g_S q303 q304 q34 q305) yd_L_tell ⟨Nat.le_of_ble_eq_true rfl, Nat.le_of_ble_eq_true rfl⟩ [] rfl (Nat.le_of_ble_eq_true rfl) hl.1 ⟨rm_c (by omega), rm_s (by omega)⟩ dL_law_59 (fun q_59 H locs hP hW hS hq_59 => ?_)
        refine lv_astore (lv' := [(8, .ref q_59), (7, .int r53), (6, .int r44), (5, .ref q_36), (4, .int r30), (3, .int r20), (0, .ref b), (1, .ref (a 0)), (2, .int v2)]) hx hb dL_law_62 hl (by decide) rfl (fun ls hl => ?_)
        refine lv_iload hx hb dL_law_64 (lv_at hl 1 rfl) ?_
        refine lv_if_ge (tgt := 92) hx hb dL_law_66 (by decide) (fun hc => ?_) (fun hc => ?_)
        · have h := ite_t hc h
          refine lv_iload hx hb dL_law_92 (lv_at hl 1 rfl) ?_
          refine lv_if_lt (tgt := 166) hx hb dL_law_94 (by decide) (fun hc => ?_) (fun hc => ?_)
          · have h := ite_t hc h
            refine W.widen (k := 60000 - 5 * (n10 + 1) + 4) (n := 4000000 - 320 * (n10 + 1) + 256) (by omega) (by omega) ?_
            exact J166 v2 r20 r30 r53 g53 _ _ _ _ hd0 hP hS (lv_sub hl [6, 7, 8, 5, 4, 1] rfl) h
          · have h := ite_f hc h
            refine lv_iload_n hx hb dL_law_97 rfl (lv_at hl 5 rfl) ?_
            refine lv_iconst (v := (4 : Int32)) hx hb dL_law_98 (by decide) ?_
            obtain ⟨r99, hcal, h⟩ := bnd_s h
            refine y_SI (s := (s.setDrawn d0)) (As := [.int r20, .int (4 : Int32)]) hx hb hml hown (dr_words hts d0) hK hP hS hAA hW (ap_c hq_59 (ap_c hq_36 ap_0)) (ct_L_low l D a cA cT hI g53 r20 (4 : Int32) r99 hcal) (g_S q299 q300 q34 q301) yd_L_low ⟨Nat.le_of_ble_eq_true rfl, Nat.le_of_ble_eq_true rfl⟩ [] rfl (Nat.le_of_ble_eq_true rfl) hl.1 ⟨rm_c (by omega), rm_s (by omega)⟩ dL_law_99 (fun H locs hP hW hS => ?_)
            refine lv_if_ne (tgt := 166) hx hb dL_law_102 (by decide) (fun hc => ?_) (fun hc => ?_)
            · have h := ite_f hc h
              refine W.widen (k := 60000 - 5 * (n10 + 1) + 4) (n := 4000000 - 320 * (n10 + 1) + 256) (by omega) (by omega) ?_
              exact J166 v2 r20 r30 r53 g53 _ _ _ _ hd0 hP hS (lv_sub hl [6, 7, 8, 5, 4, 1] rfl) h
            · have h := ite_t hc h
              refine lv_aload_n hx hb dL_law_105 rfl (lv_at hl 7 rfl) ?_
              obtain ⟨r106, g106, hcal, h⟩ := bnd2_s h
              refine y_VI (s := (s.setDrawn d0)) (As := []) hx hb hml hown (dr_words hts d0) hK hP hS hAA hW (ap_c hq_59 (ap_c hq_36 ap_0)) (ct_X6_undo l D a cA cT hI g53 r106 g106 hcal) tF_0 (C := RX6) (F := TX6) (N := 5) rfl (g_V q178 q179 q180 q35 q181) yd_X6_undo ⟨Nat.le_of_ble_eq_true rfl, Nat.le_of_ble_eq_true rfl⟩ [] rfl (Nat.le_of_ble_eq_true rfl) hl.1 ⟨rm_c (by omega), rm_s (by omega)⟩ dL_law_106 (fun H locs hP hW hS => ?_)
              refine lv_istore (lv' := [(9, .int r106), (8, .ref q_59), (7, .int r53), (6, .int r44), (5, .ref q_36), (4, .int r30), (3, .int r20), (0, .ref b), (1, .ref (a 0)), (2, .int v2)]) hx hb dL_law_109 hl (by decide) rfl (fun ls hl => ?_)
              refine lv_aload_n hx hb dL_law_111 rfl (lv_at hl 8 rfl) ?_
              obtain ⟨f112, hcal, h⟩ := bnd_s h
              refine y_T (s := (s.setDrawn d0)) hx hb hml hown (dr_words hts d0) hK hP hS hAA hW (ap_c hq_59 (ap_c hq_36 ap_0)) hA (ct_L_tell l D a cA cT hI g106 f112 hcal) (g_S q303 q304 q34 q305) yd_L_tell ⟨Nat.le_of_ble_eq_true rfl, Nat.le_of_ble_eq_true rfl⟩ [] rfl (Nat.le_of_ble_eq_true rfl) hl.1 ⟨rm_c (by omega), rm_s (by omega)⟩ dL_law_112 (fun q_112 H locs hP hW hS hq_112 => ?_)
              refine lv_aload hx hb dL_law_115 (lv_at hl 4 rfl) ?_
              obtain ⟨r117, hcal, h⟩ := bnd_s h
              refine y_SS (s := (s.setDrawn d0)) hx hb hml hown (dr_words hts d0) hK hP hS hAA hW (ap_c hq_112 (ap_c hq_59 (ap_c hq_36 ap_0))) (va_P.sub hW [0, 2] rfl) (ct_L_same l D cA cT q_112 q_36 f112 f36 r117 hcal) (g_S q322 q323 q34 q324) yd_L_same ⟨Nat.le_of_ble_eq_true rfl, Nat.le_of_ble_eq_true rfl⟩ [] rfl (Nat.le_of_ble_eq_true rfl) hl.1 ⟨rm_c (by omega), rm_s (by omega)⟩ dL_law_117 (fun H locs hP hW hS => ?_)
              refine lv_if_eq (tgt := 164) hx hb dL_law_120 (by decide) (fun hc => ?_) (fun hc => ?_)
              · have h := ite_t hc h
                refine lv_iconst (v := (0 : Int32)) hx hb dL_law_164 (by decide) ?_
                exact absurd (Option.some.inj h) (by decide)
              · have h := ite_f hc h
                refine lv_iload hx hb dL_law_123 (lv_at hl 0 rfl) ?_
                refine lv_iload hx hb dL_law_125 (lv_at hl 3 rfl) ?_
                refine lv_iconst (v := (4 : Int32)) hx hb dL_law_127 (by decide) ?_
                refine lv_icmp_ne (tgt := 135) hx hb dL_law_128 (by decide) (fun hc => ?_) (fun hc => ?_)
                · have h := ite_f hc h
                  refine lv_iload hx hb dL_law_135 (lv_at hl 3 rfl) ?_
                  refine lv_icmp_ne (tgt := 164) hx hb dL_law_137 (by decide) (fun hc => ?_) (fun hc => ?_)
                  · have h := ite_f hc h
                    refine lv_iconst (v := (0 : Int32)) hx hb dL_law_164 (by decide) ?_
                    exact absurd (Option.some.inj h) (by decide)
                  · have h := ite_t hc h
                    refine lv_aload_n hx hb dL_law_140 rfl (lv_at hl 8 rfl) ?_
                    refine lv_iload_n hx hb dL_law_141 rfl (lv_at hl 6 rfl) ?_
                    refine lv_iload hx hb dL_law_142 (lv_at hl 5 rfl) ?_
                    obtain ⟨r144, g144, hcal, h⟩ := bnd2_s h
                    refine y_SI (s := (s.setDrawn d0)) (As := [.ref (a 0), .int r20, .int r30]) hx hb hml hown (dr_words hts d0) hK hP hS hAA hW (ap_c hq_112 (ap_c hq_59 (ap_c hq_36 ap_0))) (ct_L_act l D a cA cT hI g106 r20 r30 r144 g144 hcal) (g_S q402 q403 q34 q404) yd_L_act ⟨Nat.le_of_ble_eq_true rfl, Nat.le_of_ble_eq_true rfl⟩ [] rfl (Nat.le_of_ble_eq_true rfl) hl.1 ⟨rm_c (by omega), rm_s (by omega)⟩ dL_law_144 (fun H locs hP hW hS => ?_)
                    refine lv_iload hx hb dL_law_147 (lv_at hl 2 rfl) ?_
                    refine lv_icmp_ne (tgt := 164) hx hb dL_law_149 (by decide) (fun hc => ?_) (fun hc => ?_)
                    · have h := ite_f hc h
                      refine lv_iconst (v := (0 : Int32)) hx hb dL_law_164 (by decide) ?_
                      exact absurd (Option.some.inj h) (by decide)
                    · have h := ite_t hc h
                      refine lv_aload_n hx hb dL_law_152 rfl (lv_at hl 8 rfl) ?_
                      obtain ⟨f153, hcal, h⟩ := bnd_s h
                      refine y_T (s := (s.setDrawn d0)) hx hb hml hown (dr_words hts d0) hK hP hS hAA hW (ap_c hq_112 (ap_c hq_59 (ap_c hq_36 ap_0))) hA (ct_L_tell l D a cA cT hI g144 f153 hcal) (g_S q303 q304 q34 q305) yd_L_tell ⟨Nat.le_of_ble_eq_true rfl, Nat.le_of_ble_eq_true rfl⟩ [] rfl (Nat.le_of_ble_eq_true rfl) hl.1 ⟨rm_c (by omega), rm_s (by omega)⟩ dL_law_153 (fun q_153 H locs hP hW hS hq_153 => ?_)
                      refine lv_aload hx hb dL_law_156 (lv_at hl 1 rfl) ?_
                      obtain ⟨r158, hcal, h⟩ := bnd_s h
                      refine y_SS (s := (s.setDrawn d0)) hx hb hml hown (dr_words hts d0) hK hP hS hAA hW (ap_c hq_153 (ap_c hq_112 (ap_c hq_59 (ap_c hq_36 ap_0)))) (va_P.sub hW [0, 2] rfl) (ct_L_same l D cA cT q_153 q_59 f153 f59 r158 hcal) (g_S q322 q323 q34 q324) yd_L_same ⟨Nat.le_of_ble_eq_true rfl, Nat.le_of_ble_eq_true rfl⟩ [] rfl (Nat.le_of_ble_eq_true rfl) hl.1 ⟨rm_c (by omega), rm_s (by omega)⟩ dL_law_158 (fun H locs hP hW hS => ?_)
                      refine lv_if_ne (tgt := 166) hx hb dL_law_161 (by decide) (fun hc => ?_) (fun hc => ?_)
                      · have h := ite_f hc h
                        refine W.widen (k := 60000 - 5 * (n10 + 1) + 4) (n := 4000000 - 320 * (n10 + 1) + 256) (by omega) (by omega) ?_
                        exact J166 v2 r20 r30 r53 g144 _ _ _ _ hd0 hP hS (lv_sub hl [7, 8, 9, 6, 5, 2] rfl) h
                      · have h := ite_t hc h
                        refine lv_iconst (v := (0 : Int32)) hx hb dL_law_164 (by decide) ?_
                        exact absurd (Option.some.inj h) (by decide)
                · have h := ite_t hc h
                  refine lv_iconst (v := (3 : Int32)) hx hb dL_law_131 (by decide) ?_
                  refine lv_goto (tgt := 137) hx hb dL_law_132 (by decide) ?_
                  refine lv_icmp_ne (tgt := 164) hx hb dL_law_137 (by decide) (fun hc => ?_) (fun hc => ?_)
                  · have h := ite_f hc h
                    refine lv_iconst (v := (0 : Int32)) hx hb dL_law_164 (by decide) ?_
                    exact absurd (Option.some.inj h) (by decide)
                  · have h := ite_t hc h
                    refine lv_aload_n hx hb dL_law_140 rfl (lv_at hl 8 rfl) ?_
                    refine lv_iload_n hx hb dL_law_141 rfl (lv_at hl 6 rfl) ?_
                    refine lv_iload hx hb dL_law_142 (lv_at hl 5 rfl) ?_
                    obtain ⟨r144, g144, hcal, h⟩ := bnd2_s h
                    refine y_SI (s := (s.setDrawn d0)) (As := [.ref (a 0), .int r20, .int r30]) hx hb hml hown (dr_words hts d0) hK hP hS hAA hW (ap_c hq_112 (ap_c hq_59 (ap_c hq_36 ap_0))) (ct_L_act l D a cA cT hI g106 r20 r30 r144 g144 hcal) (g_S q402 q403 q34 q404) yd_L_act ⟨Nat.le_of_ble_eq_true rfl, Nat.le_of_ble_eq_true rfl⟩ [] rfl (Nat.le_of_ble_eq_true rfl) hl.1 ⟨rm_c (by omega), rm_s (by omega)⟩ dL_law_144 (fun H locs hP hW hS => ?_)
                    refine lv_iload hx hb dL_law_147 (lv_at hl 2 rfl) ?_
                    refine lv_icmp_ne (tgt := 164) hx hb dL_law_149 (by decide) (fun hc => ?_) (fun hc => ?_)
                    · have h := ite_f hc h
                      refine lv_iconst (v := (0 : Int32)) hx hb dL_law_164 (by decide) ?_
                      exact absurd (Option.some.inj h) (by decide)
                    · have h := ite_t hc h
                      refine lv_aload_n hx hb dL_law_152 rfl (lv_at hl 8 rfl) ?_
                      obtain ⟨f153, hcal, h⟩ := bnd_s h
                      refine y_T (s := (s.setDrawn d0)) hx hb hml hown (dr_words hts d0) hK hP hS hAA hW (ap_c hq_112 (ap_c hq_59 (ap_c hq_36 ap_0))) hA (ct_L_tell l D a cA cT hI g144 f153 hcal) (g_S q303 q304 q34 q305) yd_L_tell ⟨Nat.le_of_ble_eq_true rfl, Nat.le_of_ble_eq_true rfl⟩ [] rfl (Nat.le_of_ble_eq_true rfl) hl.1 ⟨rm_c (by omega), rm_s (by omega)⟩ dL_law_153 (fun q_153 H locs hP hW hS hq_153 => ?_)
                      refine lv_aload hx hb dL_law_156 (lv_at hl 1 rfl) ?_
                      obtain ⟨r158, hcal, h⟩ := bnd_s h
                      refine y_SS (s := (s.setDrawn d0)) hx hb hml hown (dr_words hts d0) hK hP hS hAA hW (ap_c hq_153 (ap_c hq_112 (ap_c hq_59 (ap_c hq_36 ap_0)))) (va_P.sub hW [0, 2] rfl) (ct_L_same l D cA cT q_153 q_59 f153 f59 r158 hcal) (g_S q322 q323 q34 q324) yd_L_same ⟨Nat.le_of_ble_eq_true rfl, Nat.le_of_ble_eq_true rfl⟩ [] rfl (Nat.le_of_ble_eq_true rfl) hl.1 ⟨rm_c (by omega), rm_s (by omega)⟩ dL_law_158 (fun H locs hP hW hS => ?_)
                      refine lv_if_ne (tgt := 166) hx hb dL_law_161 (by decide) (fun hc => ?_) (fun hc => ?_)
                      · have h := ite_f hc h
                        refine W.widen (k := 60000 - 5 * (n10 + 1) + 4) (n := 4000000 - 320 * (n10 + 1) + 256) (by omega) (by omega) ?_
                        exact J166 v2 r20 r30 r53 g144 _ _ _ _ hd0 hP hS (lv_sub hl [7, 8, 9, 6, 5, 2] rfl) h
                      · have h := ite_t hc h
                        refine lv_iconst (v := (0 : Int32)) hx hb dL_law_164 (by decide) ?_
                        exact absurd (Option.some.inj h) (by decide)
        · have h := ite_f hc h
          refine lv_aload hx hb dL_law_69 (lv_at hl 3 rfl) ?_
          refine lv_aload hx hb dL_law_71 (lv_at hl 0 rfl) ?_
          obtain ⟨r73, hcal, h⟩ := bnd_s h
          refine y_SS (s := (s.setDrawn d0)) hx hb hml hown (dr_words hts d0) hK hP hS hAA hW (ap_c hq_59 (ap_c hq_36 ap_0)) (va_P.sub hW [1, 0] rfl) (ct_L_same l D cA cT q_36 q_59 f36 f59 r73 hcal) (g_S q322 q323 q34 q324) yd_L_same ⟨Nat.le_of_ble_eq_true rfl, Nat.le_of_ble_eq_true rfl⟩ [] rfl (Nat.le_of_ble_eq_true rfl) hl.1 ⟨rm_c (by omega), rm_s (by omega)⟩ dL_law_73 (fun H locs hP hW hS => ?_)
          refine lv_if_eq (tgt := 90) hx hb dL_law_76 (by decide) (fun hc => ?_) (fun hc => ?_)
          · have h := ite_t hc h
            refine lv_iconst (v := (0 : Int32)) hx hb dL_law_90 (by decide) ?_
            exact absurd (Option.some.inj h) (by decide)
          · have h := ite_f hc h
            refine lv_aload_n hx hb dL_law_79 rfl (lv_at hl 7 rfl) ?_
            refine lv_bipush (v := (11 : Int32)) hx hb dL_law_80 (by decide) ?_
            obtain ⟨r82, hcal, h⟩ := bnd_s h
            refine y_VI (s := (s.setDrawn d0)) (As := [.int (11 : Int32)]) hx hb hml hown (dr_words hts d0) hK hP hS hAA hW (ap_c hq_59 (ap_c hq_36 ap_0)) (ct_X6_count l D a cA cT hI g53 (11 : Int32) r82 hcal) tF_0 (C := RX6) (F := TX6) (N := 5) rfl (g_V q212 q213 q214 q35 q215) yd_X6_count ⟨Nat.le_of_ble_eq_true rfl, Nat.le_of_ble_eq_true rfl⟩ [] rfl (Nat.le_of_ble_eq_true rfl) hl.1 ⟨rm_c (by omega), rm_s (by omega)⟩ dL_law_82 (fun H locs hP hW hS => ?_)
            refine lv_iload hx hb dL_law_85 (lv_at hl 2 rfl) ?_
            refine lv_icmp_eq (tgt := 92) hx hb dL_law_87 (by decide) (fun hc => ?_) (fun hc => ?_)
            · have h := ite_t hc h
              refine lv_iload hx hb dL_law_92 (lv_at hl 1 rfl) ?_
              refine lv_if_lt (tgt := 166) hx hb dL_law_94 (by decide) (fun hc => ?_) (fun hc => ?_)
              · have h := ite_t hc h
                refine W.widen (k := 60000 - 5 * (n10 + 1) + 4) (n := 4000000 - 320 * (n10 + 1) + 256) (by omega) (by omega) ?_
                exact J166 v2 r20 r30 r53 g53 _ _ _ _ hd0 hP hS (lv_sub hl [6, 7, 8, 5, 4, 1] rfl) h
              · have h := ite_f hc h
                refine lv_iload_n hx hb dL_law_97 rfl (lv_at hl 5 rfl) ?_
                refine lv_iconst (v := (4 : Int32)) hx hb dL_law_98 (by decide) ?_
                obtain ⟨r99, hcal, h⟩ := bnd_s h
                refine y_SI (s := (s.setDrawn d0)) (As := [.int r20, .int (4 : Int32)]) hx hb hml hown (dr_words hts d0) hK hP hS hAA hW (ap_c hq_59 (ap_c hq_36 ap_0)) (ct_L_low l D a cA cT hI g53 r20 (4 : Int32) r99 hcal) (g_S q299 q300 q34 q301) yd_L_low ⟨Nat.le_of_ble_eq_true rfl, Nat.le_of_ble_eq_true rfl⟩ [] rfl (Nat.le_of_ble_eq_true rfl) hl.1 ⟨rm_c (by omega), rm_s (by omega)⟩ dL_law_99 (fun H locs hP hW hS => ?_)
                refine lv_if_ne (tgt := 166) hx hb dL_law_102 (by decide) (fun hc => ?_) (fun hc => ?_)
                · have h := ite_f hc h
                  refine W.widen (k := 60000 - 5 * (n10 + 1) + 4) (n := 4000000 - 320 * (n10 + 1) + 256) (by omega) (by omega) ?_
                  exact J166 v2 r20 r30 r53 g53 _ _ _ _ hd0 hP hS (lv_sub hl [6, 7, 8, 5, 4, 1] rfl) h
                · have h := ite_t hc h
                  refine lv_aload_n hx hb dL_law_105 rfl (lv_at hl 7 rfl) ?_
                  obtain ⟨r106, g106, hcal, h⟩ := bnd2_s h
                  refine y_VI (s := (s.setDrawn d0)) (As := []) hx hb hml hown (dr_words hts d0) hK hP hS hAA hW (ap_c hq_59 (ap_c hq_36 ap_0)) (ct_X6_undo l D a cA cT hI g53 r106 g106 hcal) tF_0 (C := RX6) (F := TX6) (N := 5) rfl (g_V q178 q179 q180 q35 q181) yd_X6_undo ⟨Nat.le_of_ble_eq_true rfl, Nat.le_of_ble_eq_true rfl⟩ [] rfl (Nat.le_of_ble_eq_true rfl) hl.1 ⟨rm_c (by omega), rm_s (by omega)⟩ dL_law_106 (fun H locs hP hW hS => ?_)
                  refine lv_istore (lv' := [(9, .int r106), (8, .ref q_59), (7, .int r53), (6, .int r44), (5, .ref q_36), (4, .int r30), (3, .int r20), (0, .ref b), (1, .ref (a 0)), (2, .int v2)]) hx hb dL_law_109 hl (by decide) rfl (fun ls hl => ?_)
                  refine lv_aload_n hx hb dL_law_111 rfl (lv_at hl 8 rfl) ?_
                  obtain ⟨f112, hcal, h⟩ := bnd_s h
                  refine y_T (s := (s.setDrawn d0)) hx hb hml hown (dr_words hts d0) hK hP hS hAA hW (ap_c hq_59 (ap_c hq_36 ap_0)) hA (ct_L_tell l D a cA cT hI g106 f112 hcal) (g_S q303 q304 q34 q305) yd_L_tell ⟨Nat.le_of_ble_eq_true rfl, Nat.le_of_ble_eq_true rfl⟩ [] rfl (Nat.le_of_ble_eq_true rfl) hl.1 ⟨rm_c (by omega), rm_s (by omega)⟩ dL_law_112 (fun q_112 H locs hP hW hS hq_112 => ?_)
                  refine lv_aload hx hb dL_law_115 (lv_at hl 4 rfl) ?_
                  obtain ⟨r117, hcal, h⟩ := bnd_s h
                  refine y_SS (s := (s.setDrawn d0)) hx hb hml hown (dr_words hts d0) hK hP hS hAA hW (ap_c hq_112 (ap_c hq_59 (ap_c hq_36 ap_0))) (va_P.sub hW [0, 2] rfl) (ct_L_same l D cA cT q_112 q_36 f112 f36 r117 hcal) (g_S q322 q323 q34 q324) yd_L_same ⟨Nat.le_of_ble_eq_true rfl, Nat.le_of_ble_eq_true rfl⟩ [] rfl (Nat.le_of_ble_eq_true rfl) hl.1 ⟨rm_c (by omega), rm_s (by omega)⟩ dL_law_117 (fun H locs hP hW hS => ?_)
                  refine lv_if_eq (tgt := 164) hx hb dL_law_120 (by decide) (fun hc => ?_) (fun hc => ?_)
                  · have h := ite_t hc h
                    refine lv_iconst (v := (0 : Int32)) hx hb dL_law_164 (by decide) ?_
                    exact absurd (Option.some.inj h) (by decide)
                  · have h := ite_f hc h
                    refine lv_iload hx hb dL_law_123 (lv_at hl 0 rfl) ?_
                    refine lv_iload hx hb dL_law_125 (lv_at hl 3 rfl) ?_
                    refine lv_iconst (v := (4 : Int32)) hx hb dL_law_127 (by decide) ?_
                    refine lv_icmp_ne (tgt := 135) hx hb dL_law_128 (by decide) (fun hc => ?_) (fun hc => ?_)
                    · have h := ite_f hc h
                      refine lv_iload hx hb dL_law_135 (lv_at hl 3 rfl) ?_
                      refine lv_icmp_ne (tgt := 164) hx hb dL_law_137 (by decide) (fun hc => ?_) (fun hc => ?_)
                      · have h := ite_f hc h
                        refine lv_iconst (v := (0 : Int32)) hx hb dL_law_164 (by decide) ?_
                        exact absurd (Option.some.inj h) (by decide)
                      · have h := ite_t hc h
                        refine lv_aload_n hx hb dL_law_140 rfl (lv_at hl 8 rfl) ?_
                        refine lv_iload_n hx hb dL_law_141 rfl (lv_at hl 6 rfl) ?_
                        refine lv_iload hx hb dL_law_142 (lv_at hl 5 rfl) ?_
                        obtain ⟨r144, g144, hcal, h⟩ := bnd2_s h
                        refine y_SI (s := (s.setDrawn d0)) (As := [.ref (a 0), .int r20, .int r30]) hx hb hml hown (dr_words hts d0) hK hP hS hAA hW (ap_c hq_112 (ap_c hq_59 (ap_c hq_36 ap_0))) (ct_L_act l D a cA cT hI g106 r20 r30 r144 g144 hcal) (g_S q402 q403 q34 q404) yd_L_act ⟨Nat.le_of_ble_eq_true rfl, Nat.le_of_ble_eq_true rfl⟩ [] rfl (Nat.le_of_ble_eq_true rfl) hl.1 ⟨rm_c (by omega), rm_s (by omega)⟩ dL_law_144 (fun H locs hP hW hS => ?_)
                        refine lv_iload hx hb dL_law_147 (lv_at hl 2 rfl) ?_
                        refine lv_icmp_ne (tgt := 164) hx hb dL_law_149 (by decide) (fun hc => ?_) (fun hc => ?_)
                        · have h := ite_f hc h
                          refine lv_iconst (v := (0 : Int32)) hx hb dL_law_164 (by decide) ?_
                          exact absurd (Option.some.inj h) (by decide)
                        · have h := ite_t hc h
                          refine lv_aload_n hx hb dL_law_152 rfl (lv_at hl 8 rfl) ?_
                          obtain ⟨f153, hcal, h⟩ := bnd_s h
                          refine y_T (s := (s.setDrawn d0)) hx hb hml hown (dr_words hts d0) hK hP hS hAA hW (ap_c hq_112 (ap_c hq_59 (ap_c hq_36 ap_0))) hA (ct_L_tell l D a cA cT hI g144 f153 hcal) (g_S q303 q304 q34 q305) yd_L_tell ⟨Nat.le_of_ble_eq_true rfl, Nat.le_of_ble_eq_true rfl⟩ [] rfl (Nat.le_of_ble_eq_true rfl) hl.1 ⟨rm_c (by omega), rm_s (by omega)⟩ dL_law_153 (fun q_153 H locs hP hW hS hq_153 => ?_)
                          refine lv_aload hx hb dL_law_156 (lv_at hl 1 rfl) ?_
                          obtain ⟨r158, hcal, h⟩ := bnd_s h
                          refine y_SS (s := (s.setDrawn d0)) hx hb hml hown (dr_words hts d0) hK hP hS hAA hW (ap_c hq_153 (ap_c hq_112 (ap_c hq_59 (ap_c hq_36 ap_0)))) (va_P.sub hW [0, 2] rfl) (ct_L_same l D cA cT q_153 q_59 f153 f59 r158 hcal) (g_S q322 q323 q34 q324) yd_L_same ⟨Nat.le_of_ble_eq_true rfl, Nat.le_of_ble_eq_true rfl⟩ [] rfl (Nat.le_of_ble_eq_true rfl) hl.1 ⟨rm_c (by omega), rm_s (by omega)⟩ dL_law_158 (fun H locs hP hW hS => ?_)
                          refine lv_if_ne (tgt := 166) hx hb dL_law_161 (by decide) (fun hc => ?_) (fun hc => ?_)
                          · have h := ite_f hc h
                            refine W.widen (k := 60000 - 5 * (n10 + 1) + 4) (n := 4000000 - 320 * (n10 + 1) + 256) (by omega) (by omega) ?_
                            exact J166 v2 r20 r30 r53 g144 _ _ _ _ hd0 hP hS (lv_sub hl [7, 8, 9, 6, 5, 2] rfl) h
                          · have h := ite_t hc h
                            refine lv_iconst (v := (0 : Int32)) hx hb dL_law_164 (by decide) ?_
                            exact absurd (Option.some.inj h) (by decide)
                    · have h := ite_t hc h
                      refine lv_iconst (v := (3 : Int32)) hx hb dL_law_131 (by decide) ?_
                      refine lv_goto (tgt := 137) hx hb dL_law_132 (by decide) ?_
                      refine lv_icmp_ne (tgt := 164) hx hb dL_law_137 (by decide) (fun hc => ?_) (fun hc => ?_)
                      · have h := ite_f hc h
                        refine lv_iconst (v := (0 : Int32)) hx hb dL_law_164 (by decide) ?_
                        exact absurd (Option.some.inj h) (by decide)
                      · have h := ite_t hc h
                        refine lv_aload_n hx hb dL_law_140 rfl (lv_at hl 8 rfl) ?_
                        refine lv_iload_n hx hb dL_law_141 rfl (lv_at hl 6 rfl) ?_
                        refine lv_iload hx hb dL_law_142 (lv_at hl 5 rfl) ?_
                        obtain ⟨r144, g144, hcal, h⟩ := bnd2_s h
                        refine y_SI (s := (s.setDrawn d0)) (As := [.ref (a 0), .int r20, .int r30]) hx hb hml hown (dr_words hts d0) hK hP hS hAA hW (ap_c hq_112 (ap_c hq_59 (ap_c hq_36 ap_0))) (ct_L_act l D a cA cT hI g106 r20 r30 r144 g144 hcal) (g_S q402 q403 q34 q404) yd_L_act ⟨Nat.le_of_ble_eq_true rfl, Nat.le_of_ble_eq_true rfl⟩ [] rfl (Nat.le_of_ble_eq_true rfl) hl.1 ⟨rm_c (by omega), rm_s (by omega)⟩ dL_law_144 (fun H locs hP hW hS => ?_)
                        refine lv_iload hx hb dL_law_147 (lv_at hl 2 rfl) ?_
                        refine lv_icmp_ne (tgt := 164) hx hb dL_law_149 (by decide) (fun hc => ?_) (fun hc => ?_)
                        · have h := ite_f hc h
                          refine lv_iconst (v := (0 : Int32)) hx hb dL_law_164 (by decide) ?_
                          exact absurd (Option.some.inj h) (by decide)
                        · have h := ite_t hc h
                          refine lv_aload_n hx hb dL_law_152 rfl (lv_at hl 8 rfl) ?_
                          obtain ⟨f153, hcal, h⟩ := bnd_s h
                          refine y_T (s := (s.setDrawn d0)) hx hb hml hown (dr_words hts d0) hK hP hS hAA hW (ap_c hq_112 (ap_c hq_59 (ap_c hq_36 ap_0))) hA (ct_L_tell l D a cA cT hI g144 f153 hcal) (g_S q303 q304 q34 q305) yd_L_tell ⟨Nat.le_of_ble_eq_true rfl, Nat.le_of_ble_eq_true rfl⟩ [] rfl (Nat.le_of_ble_eq_true rfl) hl.1 ⟨rm_c (by omega), rm_s (by omega)⟩ dL_law_153 (fun q_153 H locs hP hW hS hq_153 => ?_)
                          refine lv_aload hx hb dL_law_156 (lv_at hl 1 rfl) ?_
                          obtain ⟨r158, hcal, h⟩ := bnd_s h
                          refine y_SS (s := (s.setDrawn d0)) hx hb hml hown (dr_words hts d0) hK hP hS hAA hW (ap_c hq_153 (ap_c hq_112 (ap_c hq_59 (ap_c hq_36 ap_0)))) (va_P.sub hW [0, 2] rfl) (ct_L_same l D cA cT q_153 q_59 f153 f59 r158 hcal) (g_S q322 q323 q34 q324) yd_L_same ⟨Nat.le_of_ble_eq_true rfl, Nat.le_of_ble_eq_true rfl⟩ [] rfl (Nat.le_of_ble_eq_true rfl) hl.1 ⟨rm_c (by omega), rm_s (by omega)⟩ dL_law_158 (fun H locs hP hW hS => ?_)
                          refine lv_if_ne (tgt := 166) hx hb dL_law_161 (by decide) (fun hc => ?_) (fun hc => ?_)
                          · have h := ite_f hc h
                            refine W.widen (k := 60000 - 5 * (n10 + 1) + 4) (n := 4000000 - 320 * (n10 + 1) + 256) (by omega) (by omega) ?_
                            exact J166 v2 r20 r30 r53 g144 _ _ _ _ hd0 hP hS (lv_sub hl [7, 8, 9, 6, 5, 2] rfl) h
                          · have h := ite_t hc h
                            refine lv_iconst (v := (0 : Int32)) hx hb dL_law_164 (by decide) ?_
                            exact absurd (Option.some.inj h) (by decide)
            · have h := ite_f hc h
              refine lv_iconst (v := (0 : Int32)) hx hb dL_law_90 (by decide) ?_
              exact absurd (Option.some.inj h) (by decide)
  refine W.widen (k := 60000 - 5 * fuelN) (n := 4000000 - 320 * fuelN) (by unfold fuelN; omega) (by unfold fuelN; omega) ?_
  exact K10 fuelN (Nat.le_refl _) (0 : Int32) g _ _ _ _ hd0 hP hS (lv_sub hl [2, 1, 0] rfl) h
