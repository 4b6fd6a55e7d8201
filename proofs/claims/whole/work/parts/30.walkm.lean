set_option maxHeartbeats 4000000 in
set_option maxRecDepth 100000 in
theorem ct_X7_slice (l : Launch) (D : va_G) (a : Nat → Nat) (cA cT : ClassId) (hI : WI a TM) (g : MG) (x0 : Int32) (x1 : Int32)  (r : Int32) (h : m_X7_slice g x0 x1 = some r) :
    CtI l D a cA cT TM yX7_slice (Cond.code yX7_slice cX7_slice 10 (some .int) :: lw_all) (rmm 5 110) [.ref (a 0), .int x0, .int x1] g r g := by
  refine CtI.of (by decide +kernel) (Nat.le_of_ble_eq_true rfl) ?_
  intro p e s m args below meth c Q ls hx hb hml hown hts hK hP hS hl hend
  have hl : lv_has ls 10 [(0, .ref (a 0)), (1, .int x0), (2, .int x1)] := hl
  unfold m_X7_slice at h
  refine lv_aload_n hx hb dX7_slice_0 rfl (lv_at hl 0 rfl) ?_
  refine lv_iload_n hx hb dX7_slice_1 rfl (lv_at hl 1 rfl) ?_
  obtain ⟨r2, hcal, h⟩ := bnd_s h
  refine x_VI (As := [.int x0]) hx hb hml hown hts hK hP hS (ct_X7_isPlace l D a cA cT hI g x0 r2 hcal) tM_0 (C := RX7) (F := TX7) (N := 18) rfl (g_V q1011 q1012 q67 q77 q1013) yd_X7_isPlace ⟨Nat.le_of_ble_eq_true rfl, Nat.le_of_ble_eq_true rfl⟩ [] rfl (Nat.le_of_ble_eq_true rfl) hl.1 ⟨Nat.le_refl _, Nat.le_refl _⟩ dX7_slice_2 (fun H locs hP hS => ?_)
  refine lv_if_ne (tgt := 12) hx hb dX7_slice_5 (by decide) (fun hc => ?_) (fun hc => ?_)
  · have h := ite_f hc h
    refine lv_iload_n hx hb dX7_slice_12 rfl (lv_at hl 2 rfl) ?_
    refine lv_iconst (v := (0 : Int32)) hx hb dX7_slice_13 (by decide) ?_
    refine lv_bipush (v := (6 : Int32)) hx hb dX7_slice_14 (by decide) ?_
    obtain ⟨r16, hcal, h⟩ := bnd_s h
    refine x_SI (As := [.int x1, .int (0 : Int32), .int (6 : Int32)]) hx hb hml hown hts hK hP hS (ct_X7_in l D a cA cT hI g x1 (0 : Int32) (6 : Int32) r16 hcal) (g_S q798 q799 q77 q800) yd_X7_in ⟨Nat.le_of_ble_eq_true rfl, Nat.le_of_ble_eq_true rfl⟩ [] rfl (Nat.le_of_ble_eq_true rfl) hl.1 ⟨Nat.le_refl _, Nat.le_refl _⟩ dX7_slice_16 (fun H locs hP hS => ?_)
    refine lv_if_ne (tgt := 26) hx hb dX7_slice_19 (by decide) (fun hc => ?_) (fun hc => ?_)
    · have h := ite_f hc h
      refine lv_iload_n hx hb dX7_slice_26 rfl (lv_at hl 2 rfl) ?_
      refine lv_iconst (v := (2 : Int32)) hx hb dX7_slice_27 (by decide) ?_
      refine lv_icmp_ge (tgt := 64) hx hb dX7_slice_28 (by decide) (fun hc => ?_) (fun hc => ?_)
      · have h := ite_t hc h
        refine lv_iconst (v := (0 : Int32)) hx hb dX7_slice_64 (by decide) ?_
        refine lv_istore_n (lv' := [(3, .int (0 : Int32)), (0, .ref (a 0)), (1, .int x0), (2, .int x1)]) hx hb dX7_slice_65 rfl hl (by decide) rfl (fun ls hl => ?_)
        refine lv_sipush (v := (-1005 : Int32)) hx hb dX7_slice_66 (by decide) ?_
        refine lv_istore (lv' := [(4, .int (-1005 : Int32)), (3, .int (0 : Int32)), (0, .ref (a 0)), (1, .int x0), (2, .int x1)]) hx hb dX7_slice_69 hl (by decide) rfl (fun ls hl => ?_)
        refine lv_sipush (v := (-1005 : Int32)) hx hb dX7_slice_71 (by decide) ?_
        refine lv_istore (lv' := [(5, .int (-1005 : Int32)), (4, .int (-1005 : Int32)), (3, .int (0 : Int32)), (0, .ref (a 0)), (1, .int x0), (2, .int x1)]) hx hb dX7_slice_74 hl (by decide) rfl (fun ls hl => ?_)
        refine lv_iconst (v := (0 : Int32)) hx hb dX7_slice_76 (by decide) ?_
        refine lv_istore (lv' := [(6, .int (0 : Int32)), (5, .int (-1005 : Int32)), (4, .int (-1005 : Int32)), (3, .int (0 : Int32)), (0, .ref (a 0)), (1, .int x0), (2, .int x1)]) hx hb dX7_slice_77 hl (by decide) rfl (fun ls hl => ?_)
        refine lv_iconst (v := (0 : Int32)) hx hb dX7_slice_79 (by decide) ?_
        refine lv_istore (lv' := [(7, .int (0 : Int32)), (6, .int (0 : Int32)), (5, .int (-1005 : Int32)), (4, .int (-1005 : Int32)), (3, .int (0 : Int32)), (0, .ref (a 0)), (1, .int x0), (2, .int x1)]) hx hb dX7_slice_80 hl (by decide) rfl (fun ls hl => ?_)
        refine lv_iconst (v := (0 : Int32)) hx hb dX7_slice_82 (by decide) ?_
        refine lv_istore (lv' := [(8, .int (0 : Int32)), (7, .int (0 : Int32)), (6, .int (0 : Int32)), (5, .int (-1005 : Int32)), (4, .int (-1005 : Int32)), (3, .int (0 : Int32)), (0, .ref (a 0)), (1, .int x0), (2, .int x1)]) hx hb dX7_slice_83 hl (by decide) rfl (fun ls hl => ?_)
        have K85 : ∀ (n85 : Nat) (v3 : Int32) (v4 : Int32) (v5 : Int32) (v6 : Int32) (v7 : Int32) (v8 : Int32) (H : Heap) (locs : List Loc) (ls : Array Slot), WP D a cA cT TM g H → va_S (AA a TM) s.heap H locs → lv_has ls 10 [(0, .ref (a 0)), (1, .int x0), (2, .int x1), (3, .int v3), (4, .int v4), (5, .int v5), (6, .int v6), (7, .int v7), (8, .int v8)] → lpo (b_X7_slice_L85 g x0 x1) n85 (v3, v4, v5, v6, v7, v8) = some r → W p l e (rmm 5 110) s m args below meth c H locs 0 0 Q (F0 m 85 ls []) := by
          intro n85
          induction n85 with
          | zero => intro v3 v4 v5 v6 v7 v8 H locs ls hP hS hl h; exact (lpo_0 h).elim
          | succ n85 ih85 =>
            intro v3 v4 v5 v6 v7 v8 H locs ls hP hS hl h
            have h : m_X7_slice_L85 (lpo (b_X7_slice_L85 g x0 x1) n85) g x0 x1 v3 v4 v5 v6 v7 v8 = some r := h
            unfold m_X7_slice_L85 at h
            have J163 : ∀ (v3 : Int32) (v4 : Int32) (v6 : Int32) (v7 : Int32) (v8 : Int32) (w0 : Int32) (H : Heap) (locs : List Loc) (ls : Array Slot), WP D a cA cT TM g H → va_S (AA a TM) s.heap H locs → lv_has ls 10 [(0, .ref (a 0)), (1, .int x0), (2, .int x1), (3, .int v3), (4, .int v4), (6, .int v6), (7, .int v7), (8, .int v8)] → m_X7_slice_J163 (lpo (b_X7_slice_L85 g x0 x1) n85) x0 x1 g v3 v4 v6 v7 v8 w0 = some r → W p l e (rmm 5 110) s m args below meth c H locs 0 0 Q (F0 m 163 ls [.int w0]) := by
              intro v3 v4 v6 v7 v8 w0 H locs ls hP hS hl h
              unfold m_X7_slice_J163 at h
              refine lv_istore (lv' := [(5, .int w0), (0, .ref (a 0)), (1, .int x0), (2, .int x1), (3, .int v3), (4, .int v4), (6, .int v6), (7, .int v7), (8, .int v8)]) hx hb dX7_slice_163 hl (by decide) rfl (fun ls hl => ?_)
              refine lv_iload hx hb dX7_slice_165 (lv_at hl 6 rfl) ?_
              refine lv_aload_n hx hb dX7_slice_167 rfl (lv_at hl 1 rfl) ?_
              refine x_getr hx hb hts inX7 hown hK hP tM_0 (C := RX7) (F := TX7) (N := 18) rfl 0 (by decide) q758 rfl 1 rfl dX7_slice_168 ?_
              refine lv_sipush (v := (405 : Int32)) hx hb dX7_slice_171 (by decide) ?_
              refine lv_iload hx hb dX7_slice_174 (lv_at hl 8 rfl) ?_
              refine lv_iadd hx hb dX7_slice_176 ?_
              obtain ⟨hz, h⟩ := ite_n h
              refine x_ald hx hb hK hP tM_1 hz dX7_slice_177 ?_
              refine lv_iadd hx hb dX7_slice_178 ?_
              refine lv_istore (lv' := [(6, .int (v6 + (g.1 1 ((405 : Int32) + v8).toNatClampNeg))), (5, .int w0), (0, .ref (a 0)), (1, .int x0), (2, .int x1), (3, .int v3), (4, .int v4), (7, .int v7), (8, .int v8)]) hx hb dX7_slice_179 hl (by decide) rfl (fun ls hl => ?_)
              refine lv_iload hx hb dX7_slice_181 (lv_at hl 7 rfl) ?_
              refine lv_aload_n hx hb dX7_slice_183 rfl (lv_at hl 2 rfl) ?_
              refine lv_iload hx hb dX7_slice_184 (lv_at hl 8 rfl) ?_
              obtain ⟨r186, hcal, h⟩ := bnd_s h
              refine x_VI (As := [.int v8]) hx hb hml hown hts hK hP hS (ct_X7_isStray l D a cA cT hI g v8 r186 hcal) tM_0 (C := RX7) (F := TX7) (N := 18) rfl (g_V q900 q901 q51 q77 q902) yd_X7_isStray ⟨Nat.le_of_ble_eq_true rfl, Nat.le_of_ble_eq_true rfl⟩ [.int v7] rfl (Nat.le_of_ble_eq_true rfl) hl.1 ⟨Nat.le_refl _, Nat.le_refl _⟩ dX7_slice_186 (fun H locs hP hS => ?_)
              refine lv_if_eq (tgt := 196) hx hb dX7_slice_189 (by decide) (fun hc => ?_) (fun hc => ?_)
              · have h := ite_t hc h
                refine lv_iconst (v := (0 : Int32)) hx hb dX7_slice_196 (by decide) ?_
                refine lv_iadd hx hb dX7_slice_197 ?_
                refine lv_istore (lv' := [(7, .int (v7 + (0 : Int32))), (6, .int (v6 + (g.1 1 ((405 : Int32) + v8).toNatClampNeg))), (5, .int w0), (0, .ref (a 0)), (1, .int x0), (2, .int x1), (3, .int v3), (4, .int v4), (8, .int v8)]) hx hb dX7_slice_198 hl (by decide) rfl (fun ls hl => ?_)
                refine lv_iinc (v := (v8 + (1 : Int32))) (lv' := [(8, .int (v8 + (1 : Int32))), (7, .int (v7 + (0 : Int32))), (6, .int (v6 + (g.1 1 ((405 : Int32) + v8).toNatClampNeg))), (5, .int w0), (0, .ref (a 0)), (1, .int x0), (2, .int x1), (3, .int v3), (4, .int v4)]) hx hb dX7_slice_200 hl (k := 8) rfl rfl (by decide) rfl (fun ls hl => ?_)
                refine lv_goto (tgt := 85) hx hb dX7_slice_203 (by decide) ?_
                exact ih85 v3 v4 w0 (v6 + (g.1 1 ((405 : Int32) + v8).toNatClampNeg)) (v7 + (0 : Int32)) (v8 + (1 : Int32)) _ _ _ hP hS (lv_sub hl [4, 5, 6, 7, 8, 3, 2, 1, 0] rfl) h
              · have h := ite_f hc h
                refine lv_iconst (v := (1 : Int32)) hx hb dX7_slice_192 (by decide) ?_
                refine lv_goto (tgt := 197) hx hb dX7_slice_193 (by decide) ?_
                refine lv_iadd hx hb dX7_slice_197 ?_
                refine lv_istore (lv' := [(7, .int (v7 + (1 : Int32))), (6, .int (v6 + (g.1 1 ((405 : Int32) + v8).toNatClampNeg))), (5, .int w0), (0, .ref (a 0)), (1, .int x0), (2, .int x1), (3, .int v3), (4, .int v4), (8, .int v8)]) hx hb dX7_slice_198 hl (by decide) rfl (fun ls hl => ?_)
                refine lv_iinc (v := (v8 + (1 : Int32))) (lv' := [(8, .int (v8 + (1 : Int32))), (7, .int (v7 + (1 : Int32))), (6, .int (v6 + (g.1 1 ((405 : Int32) + v8).toNatClampNeg))), (5, .int w0), (0, .ref (a 0)), (1, .int x0), (2, .int x1), (3, .int v3), (4, .int v4)]) hx hb dX7_slice_200 hl (k := 8) rfl rfl (by decide) rfl (fun ls hl => ?_)
                refine lv_goto (tgt := 85) hx hb dX7_slice_203 (by decide) ?_
                exact ih85 v3 v4 w0 (v6 + (g.1 1 ((405 : Int32) + v8).toNatClampNeg)) (v7 + (1 : Int32)) (v8 + (1 : Int32)) _ _ _ hP hS (lv_sub hl [4, 5, 6, 7, 8, 3, 2, 1, 0] rfl) h
            have J147 : ∀ (v3 : Int32) (v5 : Int32) (v6 : Int32) (v7 : Int32) (v8 : Int32) (v9 : Int32) (w0 : Int32) (H : Heap) (locs : List Loc) (ls : Array Slot), WP D a cA cT TM g H → va_S (AA a TM) s.heap H locs → lv_has ls 10 [(0, .ref (a 0)), (1, .int x0), (2, .int x1), (3, .int v3), (5, .int v5), (6, .int v6), (7, .int v7), (8, .int v8), (9, .int v9)] → m_X7_slice_J147 (lpo (b_X7_slice_L85 g x0 x1) n85) x0 x1 g v3 v5 v6 v7 v8 v9 w0 = some r → W p l e (rmm 5 110) s m args below meth c H locs 0 0 Q (F0 m 147 ls [.int w0]) := by
              intro v3 v5 v6 v7 v8 v9 w0 H locs ls hP hS hl h
              unfold m_X7_slice_J147 at h
              refine lv_istore (lv' := [(4, .int w0), (0, .ref (a 0)), (1, .int x0), (2, .int x1), (3, .int v3), (5, .int v5), (6, .int v6), (7, .int v7), (8, .int v8), (9, .int v9)]) hx hb dX7_slice_147 hl (by decide) rfl (fun ls hl => ?_)
              refine lv_iload hx hb dX7_slice_149 (lv_at hl 9 rfl) ?_
              refine lv_iload hx hb dX7_slice_151 (lv_at hl 5 rfl) ?_
              refine lv_icmp_le (tgt := 161) hx hb dX7_slice_153 (by decide) (fun hc => ?_) (fun hc => ?_)
              · have h := ite_t hc h
                refine lv_iload hx hb dX7_slice_161 (lv_at hl 5 rfl) ?_
                exact J163 v3 w0 v6 v7 v8 v5 _ _ _ hP hS (lv_sub hl [1, 2, 3, 4, 0, 6, 7, 8] rfl) h
              · have h := ite_f hc h
                refine lv_iload hx hb dX7_slice_156 (lv_at hl 9 rfl) ?_
                refine lv_goto (tgt := 163) hx hb dX7_slice_158 (by decide) ?_
                exact J163 v3 w0 v6 v7 v8 v9 _ _ _ hP hS (lv_sub hl [1, 2, 3, 4, 0, 6, 7, 8] rfl) h
            refine lv_iload hx hb dX7_slice_85 (lv_at hl 8 rfl) ?_
            refine lv_aload_n hx hb dX7_slice_87 rfl (lv_at hl 0 rfl) ?_
            refine x_getr hx hb hts inX7 hown hK hP tM_0 (C := RX7) (F := TX7) (N := 18) rfl 0 (by decide) q758 rfl 1 rfl dX7_slice_88 ?_
            refine lv_iconst (v := (0 : Int32)) hx hb dX7_slice_91 (by decide) ?_
            obtain ⟨hz, h⟩ := ite_n h
            refine x_ald hx hb hK hP tM_1 hz dX7_slice_92 ?_
            refine lv_icmp_ge (tgt := 206) hx hb dX7_slice_93 (by decide) (fun hc => ?_) (fun hc => ?_)
            · have h := ite_t hc h
              refine lv_iload_n hx hb dX7_slice_206 rfl (lv_at hl 2 rfl) ?_
              refine lv_iconst (v := (2 : Int32)) hx hb dX7_slice_207 (by decide) ?_
              refine lv_icmp_ne (tgt := 215) hx hb dX7_slice_208 (by decide) (fun hc => ?_) (fun hc => ?_)
              · have h := ite_f hc h
                refine lv_iload_n hx hb dX7_slice_215 rfl (lv_at hl 2 rfl) ?_
                refine lv_iconst (v := (3 : Int32)) hx hb dX7_slice_216 (by decide) ?_
                refine lv_icmp_ne (tgt := 225) hx hb dX7_slice_217 (by decide) (fun hc => ?_) (fun hc => ?_)
                · have h := ite_f hc h
                  refine lv_iload_n hx hb dX7_slice_225 rfl (lv_at hl 2 rfl) ?_
                  refine lv_iconst (v := (4 : Int32)) hx hb dX7_slice_226 (by decide) ?_
                  refine lv_icmp_ne (tgt := 235) hx hb dX7_slice_227 (by decide) (fun hc => ?_) (fun hc => ?_)
                  · have h := ite_f hc h
                    refine lv_iload_n hx hb dX7_slice_235 rfl (lv_at hl 2 rfl) ?_
                    refine lv_iconst (v := (5 : Int32)) hx hb dX7_slice_236 (by decide) ?_
                    refine lv_icmp_ne (tgt := 245) hx hb dX7_slice_237 (by decide) (fun hc => ?_) (fun hc => ?_)
                    · have h := ite_f hc h
                      refine lv_iload hx hb dX7_slice_245 (lv_at hl 7 rfl) ?_
                      obtain rfl := Option.some.inj h
                      exact hend _ _ _ _ dX7_slice_247 rfl hP hS
                    · have h := ite_t hc h
                      refine lv_iload hx hb dX7_slice_240 (lv_at hl 6 rfl) ?_
                      refine lv_goto (tgt := 247) hx hb dX7_slice_242 (by decide) ?_
                      obtain rfl := Option.some.inj h
                      exact hend _ _ _ _ dX7_slice_247 rfl hP hS
                  · have h := ite_t hc h
                    refine lv_iload hx hb dX7_slice_230 (lv_at hl 5 rfl) ?_
                    refine lv_goto (tgt := 247) hx hb dX7_slice_232 (by decide) ?_
                    obtain rfl := Option.some.inj h
                    exact hend _ _ _ _ dX7_slice_247 rfl hP hS
                · have h := ite_t hc h
                  refine lv_iload hx hb dX7_slice_220 (lv_at hl 4 rfl) ?_
                  refine lv_goto (tgt := 247) hx hb dX7_slice_222 (by decide) ?_
                  obtain rfl := Option.some.inj h
                  exact hend _ _ _ _ dX7_slice_247 rfl hP hS
              · have h := ite_t hc h
                refine lv_iload_n hx hb dX7_slice_211 rfl (lv_at hl 3 rfl) ?_
                refine lv_goto (tgt := 247) hx hb dX7_slice_212 (by decide) ?_
                obtain rfl := Option.some.inj h
                exact hend _ _ _ _ dX7_slice_247 rfl hP hS
            · have h := ite_f hc h
              refine lv_aload_n hx hb dX7_slice_96 rfl (lv_at hl 0 rfl) ?_
              refine x_getr hx hb hts inX7 hown hK hP tM_0 (C := RX7) (F := TX7) (N := 18) rfl 0 (by decide) q758 rfl 1 rfl dX7_slice_97 ?_
              refine lv_sipush (v := (805 : Int32)) hx hb dX7_slice_100 (by decide) ?_
              refine lv_iload hx hb dX7_slice_103 (lv_at hl 8 rfl) ?_
              refine lv_iadd hx hb dX7_slice_105 ?_
              obtain ⟨hz, h⟩ := ite_n h
              refine x_ald hx hb hK hP tM_1 hz dX7_slice_106 ?_
              refine lv_iload_n hx hb dX7_slice_107 rfl (lv_at hl 1 rfl) ?_
              refine lv_icmp_ne (tgt := 200) hx hb dX7_slice_108 (by decide) (fun hc => ?_) (fun hc => ?_)
              · have h := ite_f hc h
                refine lv_iinc (v := (v8 + (1 : Int32))) (lv' := [(8, .int (v8 + (1 : Int32))), (0, .ref (a 0)), (1, .int x0), (2, .int x1), (3, .int v3), (4, .int v4), (5, .int v5), (6, .int v6), (7, .int v7)]) hx hb dX7_slice_200 hl (k := 8) rfl rfl (by decide) rfl (fun ls hl => ?_)
                refine lv_goto (tgt := 85) hx hb dX7_slice_203 (by decide) ?_
                exact ih85 v3 v4 v5 v6 v7 (v8 + (1 : Int32)) _ _ _ hP hS (lv_sub hl [1, 2, 3, 4, 5, 6, 7, 8, 0] rfl) h
              · have h := ite_t hc h
                refine lv_aload_n hx hb dX7_slice_111 rfl (lv_at hl 0 rfl) ?_
                refine x_getr hx hb hts inX7 hown hK hP tM_0 (C := RX7) (F := TX7) (N := 18) rfl 0 (by decide) q758 rfl 1 rfl dX7_slice_112 ?_
                refine lv_iconst (v := (5 : Int32)) hx hb dX7_slice_115 (by decide) ?_
                refine lv_iload hx hb dX7_slice_116 (lv_at hl 8 rfl) ?_
                refine lv_iadd hx hb dX7_slice_118 ?_
                obtain ⟨hz, h⟩ := ite_n h
                refine x_ald hx hb hK hP tM_1 hz dX7_slice_119 ?_
                refine lv_istore (lv' := [(9, .int (g.1 1 ((5 : Int32) + v8).toNatClampNeg)), (0, .ref (a 0)), (1, .int x0), (2, .int x1), (3, .int v3), (4, .int v4), (5, .int v5), (6, .int v6), (7, .int v7), (8, .int v8)]) hx hb dX7_slice_120 hl (by decide) rfl (fun ls hl => ?_)
                refine lv_iinc (v := (v3 + (1 : Int32))) (lv' := [(3, .int (v3 + (1 : Int32))), (9, .int (g.1 1 ((5 : Int32) + v8).toNatClampNeg)), (0, .ref (a 0)), (1, .int x0), (2, .int x1), (4, .int v4), (5, .int v5), (6, .int v6), (7, .int v7), (8, .int v8)]) hx hb dX7_slice_122 hl (k := 4) rfl rfl (by decide) rfl (fun ls hl => ?_)
                refine lv_iload hx hb dX7_slice_125 (lv_at hl 5 rfl) ?_
                refine lv_sipush (v := (-1005 : Int32)) hx hb dX7_slice_127 (by decide) ?_
                refine lv_icmp_eq (tgt := 140) hx hb dX7_slice_130 (by decide) (fun hc => ?_) (fun hc => ?_)
                · have h := ite_t hc h
                  refine lv_iload hx hb dX7_slice_140 (lv_at hl 1 rfl) ?_
                  refine lv_goto (tgt := 147) hx hb dX7_slice_142 (by decide) ?_
                  exact J147 (v3 + (1 : Int32)) v5 v6 v7 v8 (g.1 1 ((5 : Int32) + v8).toNatClampNeg) (g.1 1 ((5 : Int32) + v8).toNatClampNeg) _ _ _ hP hS (lv_sub hl [2, 3, 4, 0, 6, 7, 8, 9, 1] rfl) h
                · have h := ite_f hc h
                  refine lv_iload hx hb dX7_slice_133 (lv_at hl 1 rfl) ?_
                  refine lv_iload hx hb dX7_slice_135 (lv_at hl 5 rfl) ?_
                  refine lv_icmp_ge (tgt := 145) hx hb dX7_slice_137 (by decide) (fun hc => ?_) (fun hc => ?_)
                  · have h := ite_t hc h
                    refine lv_iload hx hb dX7_slice_145 (lv_at hl 5 rfl) ?_
                    exact J147 (v3 + (1 : Int32)) v5 v6 v7 v8 (g.1 1 ((5 : Int32) + v8).toNatClampNeg) v4 _ _ _ hP hS (lv_sub hl [2, 3, 4, 0, 6, 7, 8, 9, 1] rfl) h
                  · have h := ite_f hc h
                    refine lv_iload hx hb dX7_slice_140 (lv_at hl 1 rfl) ?_
                    refine lv_goto (tgt := 147) hx hb dX7_slice_142 (by decide) ?_
                    exact J147 (v3 + (1 : Int32)) v5 v6 v7 v8 (g.1 1 ((5 : Int32) + v8).toNatClampNeg) (g.1 1 ((5 : Int32) + v8).toNatClampNeg) _ _ _ hP hS (lv_sub hl [2, 3, 4, 0, 6, 7, 8, 9, 1] rfl) h
        exact K85 fuelN (0 : Int32) (-1005 : Int32) (-1005 : Int32) (0 : Int32) (0 : Int32) (0 : Int32) _ _ _ hP hS (lv_sub hl [6, 7, 8, 5, 4, 3, 2, 1, 0] rfl) h
      · have h := ite_f hc h
        refine lv_iload_n hx hb dX7_slice_31 rfl (lv_at hl 1 rfl) ?_
        refine lv_bipush (v := (60 : Int32)) hx hb dX7_slice_32 (by decide) ?_
        refine lv_icmp_lt (tgt := 43) hx hb dX7_slice_34 (by decide) (fun hc => ?_) (fun hc => ?_)
        · have h := ite_t hc h
          refine lv_aload_n hx hb dX7_slice_43 rfl (lv_at hl 0 rfl) ?_
          refine x_getr hx hb hts inX7 hown hK hP tM_0 (C := RX7) (F := TX7) (N := 18) rfl 0 (by decide) q758 rfl 1 rfl dX7_slice_44 ?_
          refine lv_iload_n hx hb dX7_slice_47 rfl (lv_at hl 2 rfl) ?_
          refine lv_if_ne (tgt := 57) hx hb dX7_slice_48 (by decide) (fun hc => ?_) (fun hc => ?_)
          · have h := ite_f hc h
            refine lv_sipush (v := (1325 : Int32)) hx hb dX7_slice_57 (by decide) ?_
            refine lv_iload_n hx hb dX7_slice_60 rfl (lv_at hl 1 rfl) ?_
            refine lv_iadd hx hb dX7_slice_61 ?_
            obtain ⟨hz, h⟩ := ite_n h
            refine x_ald hx hb hK hP tM_1 hz dX7_slice_62 ?_
            obtain rfl := Option.some.inj h
            exact hend _ _ _ _ dX7_slice_63 rfl hP hS
          · have h := ite_t hc h
            refine lv_sipush (v := (1265 : Int32)) hx hb dX7_slice_51 (by decide) ?_
            refine lv_goto (tgt := 60) hx hb dX7_slice_54 (by decide) ?_
            refine lv_iload_n hx hb dX7_slice_60 rfl (lv_at hl 1 rfl) ?_
            refine lv_iadd hx hb dX7_slice_61 ?_
            obtain ⟨hz, h⟩ := ite_n h
            refine x_ald hx hb hK hP tM_1 hz dX7_slice_62 ?_
            obtain rfl := Option.some.inj h
            exact hend _ _ _ _ dX7_slice_63 rfl hP hS
        · have h := ite_f hc h
          refine lv_sipush (v := (-1005 : Int32)) hx hb dX7_slice_37 (by decide) ?_
          refine lv_goto (tgt := 63) hx hb dX7_slice_40 (by decide) ?_
          obtain rfl := Option.some.inj h
          exact hend _ _ _ _ dX7_slice_63 rfl hP hS
    · have h := ite_t hc h
      refine lv_sipush (v := (-1002 : Int32)) hx hb dX7_slice_22 (by decide) ?_
      obtain rfl := Option.some.inj h
      exact hend _ _ _ _ dX7_slice_25 rfl hP hS
  · have h := ite_t hc h
    refine lv_sipush (v := (-1001 : Int32)) hx hb dX7_slice_8 (by decide) ?_
    obtain rfl := Option.some.inj h
    exact hend _ _ _ _ dX7_slice_11 rfl hP hS
set_option maxHeartbeats 4000000 in
set_option maxRecDepth 100000 in
theorem ct_X7_ordered (l : Launch) (D : va_G) (a : Nat → Nat) (cA cT : ClassId) (hI : WI a TM) (g : MG) (x0 : Int32)  (r : Int32) (h : m_X7_ordered g x0 = some r) :
    CtI l D a cA cT TM yX7_ordered (Cond.code yX7_ordered cX7_ordered 5 (some .int) :: lw_all) (rmm 3 66) [.ref (a 0), .int x0] g r g := by
  refine CtI.of (by decide +kernel) (Nat.le_of_ble_eq_true rfl) ?_
  intro p e s m args below meth c Q ls hx hb hml hown hts hK hP hS hl hend
  have hl : lv_has ls 5 [(0, .ref (a 0)), (1, .int x0)] := hl
  unfold m_X7_ordered at h
  refine lv_iload_n hx hb dX7_ordered_0 rfl (lv_at hl 1 rfl) ?_
  refine lv_if_ge (tgt := 8) hx hb dX7_ordered_1 (by decide) (fun hc => ?_) (fun hc => ?_)
  · have h := ite_t hc h
    refine lv_iload_n hx hb dX7_ordered_8 rfl (lv_at hl 1 rfl) ?_
    refine lv_istore_n (lv' := [(2, .int x0), (0, .ref (a 0)), (1, .int x0)]) hx hb dX7_ordered_9 rfl hl (by decide) rfl (fun ls hl => ?_)
    refine lv_iconst (v := (0 : Int32)) hx hb dX7_ordered_10 (by decide) ?_
    refine lv_istore_n (lv' := [(3, .int (0 : Int32)), (2, .int x0), (0, .ref (a 0)), (1, .int x0)]) hx hb dX7_ordered_11 rfl hl (by decide) rfl (fun ls hl => ?_)
    have K12 : ∀ (n12 : Nat) (v2 : Int32) (v3 : Int32) (H : Heap) (locs : List Loc) (ls : Array Slot), WP D a cA cT TM g H → va_S (AA a TM) s.heap H locs → lv_has ls 5 [(0, .ref (a 0)), (2, .int v2), (3, .int v3)] → lpo (b_X7_ordered_L12 g x0) n12 (v2, v3) = some r → W p l e (rmm 3 66) s m args below meth c H locs 0 0 Q (F0 m 12 ls []) := by
      intro n12
      induction n12 with
      | zero => intro v2 v3 H locs ls hP hS hl h; exact (lpo_0 h).elim
      | succ n12 ih12 =>
        intro v2 v3 H locs ls hP hS hl h
        have h : m_X7_ordered_L12 (lpo (b_X7_ordered_L12 g x0) n12) g x0 v2 v3 = some r := h
        unfold m_X7_ordered_L12 at h
        refine lv_iload_n hx hb dX7_ordered_12 rfl (lv_at hl 2 rfl) ?_
        refine lv_sipush (v := (1000 : Int32)) hx hb dX7_ordered_13 (by decide) ?_
        refine lv_icmp_ge (tgt := 65) hx hb dX7_ordered_16 (by decide) (fun hc => ?_) (fun hc => ?_)
        · have h := ite_t hc h
          refine lv_sipush (v := (-1005 : Int32)) hx hb dX7_ordered_65 (by decide) ?_
          obtain rfl := Option.some.inj h
          exact hend _ _ _ _ dX7_ordered_68 rfl hP hS
        · have h := ite_f hc h
          refine lv_aload_n hx hb dX7_ordered_19 rfl (lv_at hl 0 rfl) ?_
          refine lv_iload_n hx hb dX7_ordered_20 rfl (lv_at hl 2 rfl) ?_
          obtain ⟨r21, hcal, h⟩ := bnd_s h
          refine x_VI (As := [.int v3]) hx hb hml hown hts hK hP hS (ct_X7_owner l D a cA cT hI g v3 r21 hcal) tM_0 (C := RX7) (F := TX7) (N := 18) rfl (g_V q804 q805 q35 q77 q806) yd_X7_owner ⟨Nat.le_of_ble_eq_true rfl, Nat.le_of_ble_eq_true rfl⟩ [] rfl (Nat.le_of_ble_eq_true rfl) hl.1 ⟨Nat.le_refl _, Nat.le_refl _⟩ dX7_ordered_21 (fun H locs hP hS => ?_)
          refine lv_istore (lv' := [(4, .int r21), (0, .ref (a 0)), (2, .int v2), (3, .int v3)]) hx hb dX7_ordered_24 hl (by decide) rfl (fun ls hl => ?_)
          refine lv_iload hx hb dX7_ordered_26 (lv_at hl 0 rfl) ?_
          refine lv_sipush (v := (-1005 : Int32)) hx hb dX7_ordered_28 (by decide) ?_
          refine lv_icmp_eq (tgt := 59) hx hb dX7_ordered_31 (by decide) (fun hc => ?_) (fun hc => ?_)
          · have h := ite_t hc h
            refine lv_iinc (v := (v3 + (1 : Int32))) (lv' := [(3, .int (v3 + (1 : Int32))), (4, .int r21), (0, .ref (a 0)), (2, .int v2)]) hx hb dX7_ordered_59 hl (k := 3) rfl rfl (by decide) rfl (fun ls hl => ?_)
            refine lv_goto (tgt := 12) hx hb dX7_ordered_62 (by decide) ?_
            exact ih12 v2 (v3 + (1 : Int32)) _ _ _ hP hS (lv_sub hl [2, 3, 0] rfl) h
          · have h := ite_f hc h
            refine lv_aload_n hx hb dX7_ordered_34 rfl (lv_at hl 1 rfl) ?_
            refine x_getr hx hb hts inX7 hown hK hP tM_0 (C := RX7) (F := TX7) (N := 18) rfl 0 (by decide) q758 rfl 1 rfl dX7_ordered_35 ?_
            refine lv_sipush (v := (1265 : Int32)) hx hb dX7_ordered_38 (by decide) ?_
            refine lv_iload hx hb dX7_ordered_41 (lv_at hl 0 rfl) ?_
            refine lv_iadd hx hb dX7_ordered_43 ?_
            obtain ⟨hz, h⟩ := ite_n h
            refine x_ald hx hb hK hP tM_1 hz dX7_ordered_44 ?_
            refine lv_iload_n hx hb dX7_ordered_45 rfl (lv_at hl 3 rfl) ?_
            refine lv_icmp_ne (tgt := 59) hx hb dX7_ordered_46 (by decide) (fun hc => ?_) (fun hc => ?_)
            · have h := ite_f hc h
              refine lv_iinc (v := (v3 + (1 : Int32))) (lv' := [(3, .int (v3 + (1 : Int32))), (4, .int r21), (0, .ref (a 0)), (2, .int v2)]) hx hb dX7_ordered_59 hl (k := 3) rfl rfl (by decide) rfl (fun ls hl => ?_)
              refine lv_goto (tgt := 12) hx hb dX7_ordered_62 (by decide) ?_
              exact ih12 v2 (v3 + (1 : Int32)) _ _ _ hP hS (lv_sub hl [2, 3, 0] rfl) h
            · have h := ite_t hc h
              refine lv_iload_n hx hb dX7_ordered_49 rfl (lv_at hl 2 rfl) ?_
              refine lv_if_ne (tgt := 56) hx hb dX7_ordered_50 (by decide) (fun hc => ?_) (fun hc => ?_)
              · have h := ite_f hc h
                refine lv_iinc (v := (v2 + (-1 : Int32))) (lv' := [(2, .int (v2 + (-1 : Int32))), (4, .int r21), (0, .ref (a 0)), (3, .int v3)]) hx hb dX7_ordered_56 hl (k := 2) rfl rfl (by decide) rfl (fun ls hl => ?_)
                refine lv_iinc (v := (v3 + (1 : Int32))) (lv' := [(3, .int (v3 + (1 : Int32))), (2, .int (v2 + (-1 : Int32))), (4, .int r21), (0, .ref (a 0))]) hx hb dX7_ordered_59 hl (k := 3) rfl rfl (by decide) rfl (fun ls hl => ?_)
                refine lv_goto (tgt := 12) hx hb dX7_ordered_62 (by decide) ?_
                exact ih12 (v2 + (-1 : Int32)) (v3 + (1 : Int32)) _ _ _ hP hS (lv_sub hl [3, 1, 0] rfl) h
              · have h := ite_t hc h
                refine lv_iload hx hb dX7_ordered_53 (lv_at hl 0 rfl) ?_
                obtain rfl := Option.some.inj h
                exact hend _ _ _ _ dX7_ordered_55 rfl hP hS
    exact K12 fuelN x0 (0 : Int32) _ _ _ hP hS (lv_sub hl [2, 1, 0] rfl) h
  · have h := ite_f hc h
    refine lv_sipush (v := (-1002 : Int32)) hx hb dX7_ordered_4 (by decide) ?_
    obtain rfl := Option.some.inj h
    exact hend _ _ _ _ dX7_ordered_7 rfl hP hS
set_option maxHeartbeats 4000000 in
set_option maxRecDepth 100000 in
theorem ct_X7_lies (l : Launch) (D : va_G) (a : Nat → Nat) (cA cT : ClassId) (hI : WI a TM) (g : MG) (x0 : Int32) (x1 : Int32)  (r : Int32) (h : m_X7_lies g x0 x1 = some r) :
    CtI l D a cA cT TM yX7_lies (Cond.code yX7_lies cX7_lies 7 (some .int) :: lw_all) (rmm 3 64) [.ref (a 0), .int x0, .int x1] g r g := by
  refine CtI.of (by decide +kernel) (Nat.le_of_ble_eq_true rfl) ?_
  intro p e s m args below meth c Q ls hx hb hml hown hts hK hP hS hl hend
  have hl : lv_has ls 7 [(0, .ref (a 0)), (1, .int x0), (2, .int x1)] := hl
  unfold m_X7_lies at h
  refine lv_aload_n hx hb dX7_lies_0 rfl (lv_at hl 0 rfl) ?_
  refine lv_iload_n hx hb dX7_lies_1 rfl (lv_at hl 1 rfl) ?_
  obtain ⟨r2, hcal, h⟩ := bnd_s h
  refine x_VI (As := [.int x0]) hx hb hml hown hts hK hP hS (ct_X7_isPlace l D a cA cT hI g x0 r2 hcal) tM_0 (C := RX7) (F := TX7) (N := 18) rfl (g_V q1011 q1012 q67 q77 q1013) yd_X7_isPlace ⟨Nat.le_of_ble_eq_true rfl, Nat.le_of_ble_eq_true rfl⟩ [] rfl (Nat.le_of_ble_eq_true rfl) hl.1 ⟨Nat.le_refl _, Nat.le_refl _⟩ dX7_lies_2 (fun H locs hP hS => ?_)
  refine lv_if_ne (tgt := 12) hx hb dX7_lies_5 (by decide) (fun hc => ?_) (fun hc => ?_)
  · have h := ite_f hc h
    refine lv_iload_n hx hb dX7_lies_12 rfl (lv_at hl 2 rfl) ?_
    refine lv_if_ge (tgt := 20) hx hb dX7_lies_13 (by decide) (fun hc => ?_) (fun hc => ?_)
    · have h := ite_t hc h
      refine lv_iconst (v := (0 : Int32)) hx hb dX7_lies_20 (by decide) ?_
      refine lv_istore_n (lv' := [(3, .int (0 : Int32)), (0, .ref (a 0)), (1, .int x0), (2, .int x1)]) hx hb dX7_lies_21 rfl hl (by decide) rfl (fun ls hl => ?_)
      have K22 : ∀ (n22 : Nat) (v3 : Int32) (H : Heap) (locs : List Loc) (ls : Array Slot), WP D a cA cT TM g H → va_S (AA a TM) s.heap H locs → lv_has ls 7 [(0, .ref (a 0)), (1, .int x0), (2, .int x1), (3, .int v3)] → lpo (b_X7_lies_L22 g x0 x1) n22 v3 = some r → W p l e (rmm 3 64) s m args below meth c H locs 0 0 Q (F0 m 22 ls []) := by
        intro n22
        induction n22 with
        | zero => intro v3 H locs ls hP hS hl h; exact (lpo_0 h).elim
        | succ n22 ih22 =>
          intro v3 H locs ls hP hS hl h
          have h : m_X7_lies_L22 (lpo (b_X7_lies_L22 g x0 x1) n22) g x0 x1 v3 = some r := h
          unfold m_X7_lies_L22 at h
          refine lv_iload_n hx hb dX7_lies_22 rfl (lv_at hl 3 rfl) ?_
          refine lv_aload_n hx hb dX7_lies_23 rfl (lv_at hl 0 rfl) ?_
          refine x_getr hx hb hts inX7 hown hK hP tM_0 (C := RX7) (F := TX7) (N := 18) rfl 0 (by decide) q758 rfl 1 rfl dX7_lies_24 ?_
          refine lv_iconst (v := (0 : Int32)) hx hb dX7_lies_27 (by decide) ?_
          obtain ⟨hz, h⟩ := ite_n h
          refine x_ald hx hb hK hP tM_1 hz dX7_lies_28 ?_
          refine lv_icmp_ge (tgt := 166) hx hb dX7_lies_29 (by decide) (fun hc => ?_) (fun hc => ?_)
          · have h := ite_t hc h
            refine lv_sipush (v := (-1005 : Int32)) hx hb dX7_lies_166 (by decide) ?_
            obtain rfl := Option.some.inj h
            exact hend _ _ _ _ dX7_lies_169 rfl hP hS
          · have h := ite_f hc h
            refine lv_aload_n hx hb dX7_lies_32 rfl (lv_at hl 0 rfl) ?_
            refine x_getr hx hb hts inX7 hown hK hP tM_0 (C := RX7) (F := TX7) (N := 18) rfl 0 (by decide) q758 rfl 1 rfl dX7_lies_33 ?_
            refine lv_sipush (v := (805 : Int32)) hx hb dX7_lies_36 (by decide) ?_
            refine lv_iload_n hx hb dX7_lies_39 rfl (lv_at hl 3 rfl) ?_
            refine lv_iadd hx hb dX7_lies_40 ?_
            obtain ⟨hz, h⟩ := ite_n h
            refine x_ald hx hb hK hP tM_1 hz dX7_lies_41 ?_
            refine lv_iload_n hx hb dX7_lies_42 rfl (lv_at hl 1 rfl) ?_
            refine lv_icmp_ne (tgt := 160) hx hb dX7_lies_43 (by decide) (fun hc => ?_) (fun hc => ?_)
            · have h := ite_f hc h
              refine lv_iinc (v := (v3 + (1 : Int32))) (lv' := [(3, .int (v3 + (1 : Int32))), (0, .ref (a 0)), (1, .int x0), (2, .int x1)]) hx hb dX7_lies_160 hl (k := 3) rfl rfl (by decide) rfl (fun ls hl => ?_)
              refine lv_goto (tgt := 22) hx hb dX7_lies_163 (by decide) ?_
              exact ih22 (v3 + (1 : Int32)) _ _ _ hP hS (lv_sub hl [1, 2, 3, 0] rfl) h
            · have h := ite_t hc h
              refine lv_iconst (v := (0 : Int32)) hx hb dX7_lies_46 (by decide) ?_
              refine lv_istore (lv' := [(4, .int (0 : Int32)), (0, .ref (a 0)), (1, .int x0), (2, .int x1), (3, .int v3)]) hx hb dX7_lies_47 hl (by decide) rfl (fun ls hl => ?_)
              refine lv_iconst (v := (0 : Int32)) hx hb dX7_lies_49 (by decide) ?_
              refine lv_istore (lv' := [(5, .int (0 : Int32)), (4, .int (0 : Int32)), (0, .ref (a 0)), (1, .int x0), (2, .int x1), (3, .int v3)]) hx hb dX7_lies_50 hl (by decide) rfl (fun ls hl => ?_)
              have K52 : ∀ (n52 : Nat) (v4 : Int32) (v5 : Int32) (H : Heap) (locs : List Loc) (ls : Array Slot), WP D a cA cT TM g H → va_S (AA a TM) s.heap H locs → lv_has ls 7 [(0, .ref (a 0)), (1, .int x0), (2, .int x1), (3, .int v3), (4, .int v4), (5, .int v5)] → lpo (b_X7_lies_L52 (lpo (b_X7_lies_L22 g x0 x1) n22) g x0 x1 v3) n52 (v4, v5) = some r → W p l e (rmm 3 64) s m args below meth c H locs 0 0 Q (F0 m 52 ls []) := by
                intro n52
                induction n52 with
                | zero => intro v4 v5 H locs ls hP hS hl h; exact (lpo_0 h).elim
                | succ n52 ih52 =>
                  intro v4 v5 H locs ls hP hS hl h
                  have h : m_X7_lies_L52 (lpo (b_X7_lies_L52 (lpo (b_X7_lies_L22 g x0 x1) n22) g x0 x1 v3) n52) (lpo (b_X7_lies_L22 g x0 x1) n22) g x0 x1 v3 v4 v5 = some r := h
                  unfold m_X7_lies_L52 at h
                  have J129 : ∀ (v4 : Int32) (v5 : Int32) (w0 : Int32) (H : Heap) (locs : List Loc) (ls : Array Slot), WP D a cA cT TM g H → va_S (AA a TM) s.heap H locs → lv_has ls 7 [(0, .ref (a 0)), (1, .int x0), (2, .int x1), (3, .int v3), (4, .int v4), (5, .int v5)] → m_X7_lies_J129 (lpo (b_X7_lies_L52 (lpo (b_X7_lies_L22 g x0 x1) n22) g x0 x1 v3) n52) (lpo (b_X7_lies_L22 g x0 x1) n22) x0 x1 g v3 v4 v5 w0 = some r → W p l e (rmm 3 64) s m args below meth c H locs 0 0 Q (F0 m 129 ls [.int w0]) := by
                    intro v4 v5 w0 H locs ls hP hS hl h
                    unfold m_X7_lies_J129 at h
                    refine lv_istore (lv' := [(6, .int w0), (0, .ref (a 0)), (1, .int x0), (2, .int x1), (3, .int v3), (4, .int v4), (5, .int v5)]) hx hb dX7_lies_129 hl (by decide) rfl (fun ls hl => ?_)
                    refine lv_iload hx hb dX7_lies_131 (lv_at hl 5 rfl) ?_
                    refine lv_iload hx hb dX7_lies_133 (lv_at hl 0 rfl) ?_
                    refine lv_if_eq (tgt := 142) hx hb dX7_lies_135 (by decide) (fun hc => ?_) (fun hc => ?_)
                    · have h := ite_t hc h
                      refine lv_iconst (v := (0 : Int32)) hx hb dX7_lies_142 (by decide) ?_
                      refine lv_iadd hx hb dX7_lies_143 ?_
                      refine lv_istore (lv' := [(4, .int (v4 + (0 : Int32))), (6, .int w0), (0, .ref (a 0)), (1, .int x0), (2, .int x1), (3, .int v3), (5, .int v5)]) hx hb dX7_lies_144 hl (by decide) rfl (fun ls hl => ?_)
                      refine lv_iinc (v := (v5 + (1 : Int32))) (lv' := [(5, .int (v5 + (1 : Int32))), (4, .int (v4 + (0 : Int32))), (6, .int w0), (0, .ref (a 0)), (1, .int x0), (2, .int x1), (3, .int v3)]) hx hb dX7_lies_146 hl (k := 6) rfl rfl (by decide) rfl (fun ls hl => ?_)
                      refine lv_goto (tgt := 52) hx hb dX7_lies_149 (by decide) ?_
                      exact ih52 (v4 + (0 : Int32)) (v5 + (1 : Int32)) _ _ _ hP hS (lv_sub hl [3, 4, 5, 6, 1, 0] rfl) h
                    · have h := ite_f hc h
                      refine lv_iconst (v := (1 : Int32)) hx hb dX7_lies_138 (by decide) ?_
                      refine lv_goto (tgt := 143) hx hb dX7_lies_139 (by decide) ?_
                      refine lv_iadd hx hb dX7_lies_143 ?_
                      refine lv_istore (lv' := [(4, .int (v4 + (1 : Int32))), (6, .int w0), (0, .ref (a 0)), (1, .int x0), (2, .int x1), (3, .int v3), (5, .int v5)]) hx hb dX7_lies_144 hl (by decide) rfl (fun ls hl => ?_)
                      refine lv_iinc (v := (v5 + (1 : Int32))) (lv' := [(5, .int (v5 + (1 : Int32))), (4, .int (v4 + (1 : Int32))), (6, .int w0), (0, .ref (a 0)), (1, .int x0), (2, .int x1), (3, .int v3)]) hx hb dX7_lies_146 hl (k := 6) rfl rfl (by decide) rfl (fun ls hl => ?_)
                      refine lv_goto (tgt := 52) hx hb dX7_lies_149 (by decide) ?_
                      exact ih52 (v4 + (1 : Int32)) (v5 + (1 : Int32)) _ _ _ hP hS (lv_sub hl [3, 4, 5, 6, 1, 0] rfl) h
                  refine lv_iload hx hb dX7_lies_52 (lv_at hl 5 rfl) ?_
                  refine lv_aload_n hx hb dX7_lies_54 rfl (lv_at hl 0 rfl) ?_
                  refine x_getr hx hb hts inX7 hown hK hP tM_0 (C := RX7) (F := TX7) (N := 18) rfl 0 (by decide) q758 rfl 1 rfl dX7_lies_55 ?_
                  refine lv_iconst (v := (0 : Int32)) hx hb dX7_lies_58 (by decide) ?_
                  obtain ⟨hz, h⟩ := ite_n h
                  refine x_ald hx hb hK hP tM_1 hz dX7_lies_59 ?_
                  refine lv_icmp_ge (tgt := 152) hx hb dX7_lies_60 (by decide) (fun hc => ?_) (fun hc => ?_)
                  · have h := ite_t hc h
                    refine lv_iload hx hb dX7_lies_152 (lv_at hl 4 rfl) ?_
                    refine lv_iload_n hx hb dX7_lies_154 rfl (lv_at hl 2 rfl) ?_
                    refine lv_icmp_ne (tgt := 160) hx hb dX7_lies_155 (by decide) (fun hc => ?_) (fun hc => ?_)
                    · have h := ite_f hc h
                      refine lv_iinc (v := (v3 + (1 : Int32))) (lv' := [(3, .int (v3 + (1 : Int32))), (0, .ref (a 0)), (1, .int x0), (2, .int x1), (4, .int v4), (5, .int v5)]) hx hb dX7_lies_160 hl (k := 3) rfl rfl (by decide) rfl (fun ls hl => ?_)
                      refine lv_goto (tgt := 22) hx hb dX7_lies_163 (by decide) ?_
                      exact ih22 (v3 + (1 : Int32)) _ _ _ hP hS (lv_sub hl [1, 2, 3, 0] rfl) h
                    · have h := ite_t hc h
                      refine lv_iload_n hx hb dX7_lies_158 rfl (lv_at hl 3 rfl) ?_
                      obtain rfl := Option.some.inj h
                      exact hend _ _ _ _ dX7_lies_159 rfl hP hS
                  · have h := ite_f hc h
                    refine lv_aload_n hx hb dX7_lies_63 rfl (lv_at hl 0 rfl) ?_
                    refine x_getr hx hb hts inX7 hown hK hP tM_0 (C := RX7) (F := TX7) (N := 18) rfl 0 (by decide) q758 rfl 1 rfl dX7_lies_64 ?_
                    refine lv_sipush (v := (805 : Int32)) hx hb dX7_lies_67 (by decide) ?_
                    refine lv_iload hx hb dX7_lies_70 (lv_at hl 5 rfl) ?_
                    refine lv_iadd hx hb dX7_lies_72 ?_
                    obtain ⟨hz, h⟩ := ite_n h
                    refine x_ald hx hb hK hP tM_1 hz dX7_lies_73 ?_
                    refine lv_iload_n hx hb dX7_lies_74 rfl (lv_at hl 1 rfl) ?_
                    refine lv_icmp_ne (tgt := 128) hx hb dX7_lies_75 (by decide) (fun hc => ?_) (fun hc => ?_)
                    · have h := ite_f hc h
                      refine lv_iconst (v := (0 : Int32)) hx hb dX7_lies_128 (by decide) ?_
                      exact J129 v4 v5 (0 : Int32) _ _ _ hP hS (lv_sub hl [0, 1, 2, 3, 4, 5] rfl) h
                    · have h := ite_t hc h
                      refine lv_aload_n hx hb dX7_lies_78 rfl (lv_at hl 0 rfl) ?_
                      refine x_getr hx hb hts inX7 hown hK hP tM_0 (C := RX7) (F := TX7) (N := 18) rfl 0 (by decide) q758 rfl 1 rfl dX7_lies_79 ?_
                      refine lv_iconst (v := (5 : Int32)) hx hb dX7_lies_82 (by decide) ?_
                      refine lv_iload hx hb dX7_lies_83 (lv_at hl 5 rfl) ?_
                      refine lv_iadd hx hb dX7_lies_85 ?_
                      obtain ⟨hz, h⟩ := ite_n h
                      refine x_ald hx hb hK hP tM_1 hz dX7_lies_86 ?_
                      refine lv_aload_n hx hb dX7_lies_87 rfl (lv_at hl 0 rfl) ?_
                      refine x_getr hx hb hts inX7 hown hK hP tM_0 (C := RX7) (F := TX7) (N := 18) rfl 0 (by decide) q758 rfl 1 rfl dX7_lies_88 ?_
                      refine lv_iconst (v := (5 : Int32)) hx hb dX7_lies_91 (by decide) ?_
                      refine lv_iload_n hx hb dX7_lies_92 rfl (lv_at hl 3 rfl) ?_
                      refine lv_iadd hx hb dX7_lies_93 ?_
                      obtain ⟨hz, h⟩ := ite_n h
                      refine x_ald hx hb hK hP tM_1 hz dX7_lies_94 ?_
                      refine lv_icmp_lt (tgt := 124) hx hb dX7_lies_95 (by decide) (fun hc => ?_) (fun hc => ?_)
                      · have h := ite_t hc h
                        refine lv_iconst (v := (1 : Int32)) hx hb dX7_lies_124 (by decide) ?_
                        refine lv_goto (tgt := 129) hx hb dX7_lies_125 (by decide) ?_
                        exact J129 v4 v5 (1 : Int32) _ _ _ hP hS (lv_sub hl [0, 1, 2, 3, 4, 5] rfl) h
                      · have h := ite_f hc h
                        refine lv_aload_n hx hb dX7_lies_98 rfl (lv_at hl 0 rfl) ?_
                        refine x_getr hx hb hts inX7 hown hK hP tM_0 (C := RX7) (F := TX7) (N := 18) rfl 0 (by decide) q758 rfl 1 rfl dX7_lies_99 ?_
                        refine lv_iconst (v := (5 : Int32)) hx hb dX7_lies_102 (by decide) ?_
                        refine lv_iload hx hb dX7_lies_103 (lv_at hl 5 rfl) ?_
                        refine lv_iadd hx hb dX7_lies_105 ?_
                        obtain ⟨hz, h⟩ := ite_n h
                        refine x_ald hx hb hK hP tM_1 hz dX7_lies_106 ?_
                        refine lv_aload_n hx hb dX7_lies_107 rfl (lv_at hl 0 rfl) ?_
                        refine x_getr hx hb hts inX7 hown hK hP tM_0 (C := RX7) (F := TX7) (N := 18) rfl 0 (by decide) q758 rfl 1 rfl dX7_lies_108 ?_
                        refine lv_iconst (v := (5 : Int32)) hx hb dX7_lies_111 (by decide) ?_
                        refine lv_iload_n hx hb dX7_lies_112 rfl (lv_at hl 3 rfl) ?_
                        refine lv_iadd hx hb dX7_lies_113 ?_
                        obtain ⟨hz, h⟩ := ite_n h
                        refine x_ald hx hb hK hP tM_1 hz dX7_lies_114 ?_
                        refine lv_icmp_ne (tgt := 128) hx hb dX7_lies_115 (by decide) (fun hc => ?_) (fun hc => ?_)
                        · have h := ite_f hc h
                          refine lv_iconst (v := (0 : Int32)) hx hb dX7_lies_128 (by decide) ?_
                          exact J129 v4 v5 (0 : Int32) _ _ _ hP hS (lv_sub hl [0, 1, 2, 3, 4, 5] rfl) h
                        · have h := ite_t hc h
                          refine lv_iload hx hb dX7_lies_118 (lv_at hl 5 rfl) ?_
                          refine lv_iload_n hx hb dX7_lies_120 rfl (lv_at hl 3 rfl) ?_
                          refine lv_icmp_ge (tgt := 128) hx hb dX7_lies_121 (by decide) (fun hc => ?_) (fun hc => ?_)
                          · have h := ite_t hc h
                            refine lv_iconst (v := (0 : Int32)) hx hb dX7_lies_128 (by decide) ?_
                            exact J129 v4 v5 (0 : Int32) _ _ _ hP hS (lv_sub hl [0, 1, 2, 3, 4, 5] rfl) h
                          · have h := ite_f hc h
                            refine lv_iconst (v := (1 : Int32)) hx hb dX7_lies_124 (by decide) ?_
                            refine lv_goto (tgt := 129) hx hb dX7_lies_125 (by decide) ?_
                            exact J129 v4 v5 (1 : Int32) _ _ _ hP hS (lv_sub hl [0, 1, 2, 3, 4, 5] rfl) h
              exact K52 fuelN (0 : Int32) (0 : Int32) _ _ _ hP hS (lv_sub hl [2, 3, 4, 5, 1, 0] rfl) h
      exact K22 fuelN (0 : Int32) _ _ _ hP hS (lv_sub hl [1, 2, 3, 0] rfl) h
    · have h := ite_f hc h
      refine lv_sipush (v := (-1002 : Int32)) hx hb dX7_lies_16 (by decide) ?_
      obtain rfl := Option.some.inj h
      exact hend _ _ _ _ dX7_lies_19 rfl hP hS
  · have h := ite_t hc h
    refine lv_sipush (v := (-1001 : Int32)) hx hb dX7_lies_8 (by decide) ?_
    obtain rfl := Option.some.inj h
    exact hend _ _ _ _ dX7_lies_11 rfl hP hS
set_option maxHeartbeats 4000000 in
set_option maxRecDepth 100000 in
theorem ct_X7_belongs (l : Launch) (D : va_G) (a : Nat → Nat) (cA cT : ClassId) (hI : WI a TM) (g : MG) (x0 : Int32)  (r : Int32) (h : m_X7_belongs g x0 = some r) :
    CtI l D a cA cT TM yX7_belongs (Cond.code yX7_belongs cX7_belongs 2 (some .int) :: lw_all) (rmm 4 88) [.ref (a 0), .int x0] g r g := by
  refine CtI.of (by decide +kernel) (Nat.le_of_ble_eq_true rfl) ?_
  intro p e s m args below meth c Q ls hx hb hml hown hts hK hP hS hl hend
  have hl : lv_has ls 2 [(0, .ref (a 0)), (1, .int x0)] := hl
  unfold m_X7_belongs at h
  refine lv_iload_n hx hb dX7_belongs_0 rfl (lv_at hl 1 rfl) ?_
  refine lv_iconst (v := (0 : Int32)) hx hb dX7_belongs_1 (by decide) ?_
  refine lv_sipush (v := (999 : Int32)) hx hb dX7_belongs_2 (by decide) ?_
  obtain ⟨r5, hcal, h⟩ := bnd_s h
  refine x_SI (As := [.int x0, .int (0 : Int32), .int (999 : Int32)]) hx hb hml hown hts hK hP hS (ct_X7_in l D a cA cT hI g x0 (0 : Int32) (999 : Int32) r5 hcal) (g_S q798 q799 q77 q800) yd_X7_in ⟨Nat.le_of_ble_eq_true rfl, Nat.le_of_ble_eq_true rfl⟩ [] rfl (Nat.le_of_ble_eq_true rfl) hl.1 ⟨Nat.le_refl _, Nat.le_refl _⟩ dX7_belongs_5 (fun H locs hP hS => ?_)
  refine lv_if_eq (tgt := 19) hx hb dX7_belongs_8 (by decide) (fun hc => ?_) (fun hc => ?_)
  · have h := ite_t hc h
    refine lv_sipush (v := (-1002 : Int32)) hx hb dX7_belongs_19 (by decide) ?_
    obtain rfl := Option.some.inj h
    exact hend _ _ _ _ dX7_belongs_22 rfl hP hS
  · have h := ite_f hc h
    refine lv_aload_n hx hb dX7_belongs_11 rfl (lv_at hl 0 rfl) ?_
    refine lv_iload_n hx hb dX7_belongs_12 rfl (lv_at hl 1 rfl) ?_
    obtain ⟨r13, hcal, h⟩ := bnd_s h
    refine x_VI (As := [.int x0]) hx hb hml hown hts hK hP hS (ct_X7_belongsTo l D a cA cT hI g x0 r13 hcal) tM_0 (C := RX7) (F := TX7) (N := 18) rfl (g_V q801 q802 q34 q77 q803) yd_X7_belongsTo ⟨Nat.le_of_ble_eq_true rfl, Nat.le_of_ble_eq_true rfl⟩ [] rfl (Nat.le_of_ble_eq_true rfl) hl.1 ⟨Nat.le_refl _, Nat.le_refl _⟩ dX7_belongs_13 (fun H locs hP hS => ?_)
    refine lv_goto (tgt := 22) hx hb dX7_belongs_16 (by decide) ?_
    obtain rfl := Option.some.inj h
    exact hend _ _ _ _ dX7_belongs_22 rfl hP hS
set_option maxHeartbeats 4000000 in
set_option maxRecDepth 100000 in
theorem ct_X7_gap (l : Launch) (D : va_G) (a : Nat → Nat) (cA cT : ClassId) (hI : WI a TM) (g : MG) (x0 : Int32) (x1 : Int32)  (r : Int32) (h : m_X7_gap g x0 x1 = some r) :
    CtI l D a cA cT TM yX7_gap (Cond.code yX7_gap cX7_gap 6 (some .int) :: lw_all) (rmm 3 66) [.ref (a 0), .int x0, .int x1] g r g := by
  refine CtI.of (by decide +kernel) (Nat.le_of_ble_eq_true rfl) ?_
  intro p e s m args below meth c Q ls hx hb hml hown hts hK hP hS hl hend
  have hl : lv_has ls 6 [(0, .ref (a 0)), (1, .int x0), (2, .int x1)] := hl
  unfold m_X7_gap at h
  refine lv_iload_n hx hb dX7_gap_0 rfl (lv_at hl 1 rfl) ?_
  refine lv_if_lt (tgt := 13) hx hb dX7_gap_1 (by decide) (fun hc => ?_) (fun hc => ?_)
  · have h := ite_t hc h
    refine lv_sipush (v := (-1002 : Int32)) hx hb dX7_gap_13 (by decide) ?_
    obtain rfl := Option.some.inj h
    exact hend _ _ _ _ dX7_gap_16 rfl hP hS
  · have h := ite_f hc h
    refine lv_iload_n hx hb dX7_gap_4 rfl (lv_at hl 2 rfl) ?_
    refine lv_iconst (v := (0 : Int32)) hx hb dX7_gap_5 (by decide) ?_
    refine lv_iconst (v := (1 : Int32)) hx hb dX7_gap_6 (by decide) ?_
    obtain ⟨r7, hcal, h⟩ := bnd_s h
    refine x_SI (As := [.int x1, .int (0 : Int32), .int (1 : Int32)]) hx hb hml hown hts hK hP hS (ct_X7_in l D a cA cT hI g x1 (0 : Int32) (1 : Int32) r7 hcal) (g_S q798 q799 q77 q800) yd_X7_in ⟨Nat.le_of_ble_eq_true rfl, Nat.le_of_ble_eq_true rfl⟩ [] rfl (Nat.le_of_ble_eq_true rfl) hl.1 ⟨Nat.le_refl _, Nat.le_refl _⟩ dX7_gap_7 (fun H locs hP hS => ?_)
    refine lv_if_ne (tgt := 17) hx hb dX7_gap_10 (by decide) (fun hc => ?_) (fun hc => ?_)
    · have h := ite_f hc h
      refine lv_iload_n hx hb dX7_gap_17 rfl (lv_at hl 1 rfl) ?_
      refine lv_istore_n (lv' := [(3, .int x0), (0, .ref (a 0)), (1, .int x0), (2, .int x1)]) hx hb dX7_gap_18 rfl hl (by decide) rfl (fun ls hl => ?_)
      refine lv_iconst (v := (0 : Int32)) hx hb dX7_gap_19 (by decide) ?_
      refine lv_istore (lv' := [(4, .int (0 : Int32)), (3, .int x0), (0, .ref (a 0)), (1, .int x0), (2, .int x1)]) hx hb dX7_gap_20 hl (by decide) rfl (fun ls hl => ?_)
      have K22 : ∀ (n22 : Nat) (v3 : Int32) (v4 : Int32) (H : Heap) (locs : List Loc) (ls : Array Slot), WP D a cA cT TM g H → va_S (AA a TM) s.heap H locs → lv_has ls 6 [(0, .ref (a 0)), (2, .int x1), (3, .int v3), (4, .int v4)] → lpo (b_X7_gap_L22 g x0 x1) n22 (v3, v4) = some r → W p l e (rmm 3 66) s m args below meth c H locs 0 0 Q (F0 m 22 ls []) := by
        intro n22
        induction n22 with
        | zero => intro v3 v4 H locs ls hP hS hl h; exact (lpo_0 h).elim
        | succ n22 ih22 =>
          intro v3 v4 H locs ls hP hS hl h
          have h : m_X7_gap_L22 (lpo (b_X7_gap_L22 g x0 x1) n22) g x0 x1 v3 v4 = some r := h
          unfold m_X7_gap_L22 at h
          refine lv_iload hx hb dX7_gap_22 (lv_at hl 3 rfl) ?_
          refine lv_sipush (v := (1000 : Int32)) hx hb dX7_gap_24 (by decide) ?_
          refine lv_icmp_ge (tgt := 120) hx hb dX7_gap_27 (by decide) (fun hc => ?_) (fun hc => ?_)
          · have h := ite_t hc h
            refine lv_sipush (v := (-1005 : Int32)) hx hb dX7_gap_120 (by decide) ?_
            obtain rfl := Option.some.inj h
            exact hend _ _ _ _ dX7_gap_123 rfl hP hS
          · have h := ite_f hc h
            refine lv_aload_n hx hb dX7_gap_30 rfl (lv_at hl 0 rfl) ?_
            refine lv_iload hx hb dX7_gap_31 (lv_at hl 3 rfl) ?_
            obtain ⟨r33, hcal, h⟩ := bnd_s h
            refine x_VI (As := [.int v4]) hx hb hml hown hts hK hP hS (ct_X7_owner l D a cA cT hI g v4 r33 hcal) tM_0 (C := RX7) (F := TX7) (N := 18) rfl (g_V q804 q805 q35 q77 q806) yd_X7_owner ⟨Nat.le_of_ble_eq_true rfl, Nat.le_of_ble_eq_true rfl⟩ [] rfl (Nat.le_of_ble_eq_true rfl) hl.1 ⟨Nat.le_refl _, Nat.le_refl _⟩ dX7_gap_33 (fun H locs hP hS => ?_)
            refine lv_sipush (v := (-1005 : Int32)) hx hb dX7_gap_36 (by decide) ?_
            refine lv_icmp_ne (tgt := 114) hx hb dX7_gap_39 (by decide) (fun hc => ?_) (fun hc => ?_)
            · have h := ite_f hc h
              refine lv_iinc (v := (v4 + (1 : Int32))) (lv' := [(4, .int (v4 + (1 : Int32))), (0, .ref (a 0)), (2, .int x1), (3, .int v3)]) hx hb dX7_gap_114 hl (k := 3) rfl rfl (by decide) rfl (fun ls hl => ?_)
              refine lv_goto (tgt := 22) hx hb dX7_gap_117 (by decide) ?_
              exact ih22 v3 (v4 + (1 : Int32)) _ _ _ hP hS (lv_sub hl [1, 2, 3, 0] rfl) h
            · have h := ite_t hc h
              refine lv_iload hx hb dX7_gap_42 (lv_at hl 3 rfl) ?_
              refine lv_if_eq (tgt := 61) hx hb dX7_gap_44 (by decide) (fun hc => ?_) (fun hc => ?_)
              · have h := ite_t hc h
                refine lv_iload_n hx hb dX7_gap_61 rfl (lv_at hl 2 rfl) ?_
                refine lv_if_ne (tgt := 111) hx hb dX7_gap_62 (by decide) (fun hc => ?_) (fun hc => ?_)
                · have h := ite_f hc h
                  refine lv_iinc (v := (v3 + (-1 : Int32))) (lv' := [(3, .int (v3 + (-1 : Int32))), (0, .ref (a 0)), (2, .int x1), (4, .int v4)]) hx hb dX7_gap_111 hl (k := 2) rfl rfl (by decide) rfl (fun ls hl => ?_)
                  refine lv_iinc (v := (v4 + (1 : Int32))) (lv' := [(4, .int (v4 + (1 : Int32))), (3, .int (v3 + (-1 : Int32))), (0, .ref (a 0)), (2, .int x1)]) hx hb dX7_gap_114 hl (k := 3) rfl rfl (by decide) rfl (fun ls hl => ?_)
                  refine lv_goto (tgt := 22) hx hb dX7_gap_117 (by decide) ?_
                  exact ih22 (v3 + (-1 : Int32)) (v4 + (1 : Int32)) _ _ _ hP hS (lv_sub hl [2, 3, 1, 0] rfl) h
                · have h := ite_t hc h
                  refine lv_iload hx hb dX7_gap_65 (lv_at hl 3 rfl) ?_
                  refine lv_istore (lv' := [(5, .int v4), (0, .ref (a 0)), (2, .int x1), (3, .int v3), (4, .int v4)]) hx hb dX7_gap_67 hl (by decide) rfl (fun ls hl => ?_)
                  have K69 : ∀ (n69 : Nat) (v5 : Int32) (H : Heap) (locs : List Loc) (ls : Array Slot), WP D a cA cT TM g H → va_S (AA a TM) s.heap H locs → lv_has ls 6 [(0, .ref (a 0)), (2, .int x1), (4, .int v4), (5, .int v5)] → lpo (b_X7_gap_L69 g x0 x1 v4) n69 v5 = some r → W p l e (rmm 3 66) s m args below meth c H locs 0 0 Q (F0 m 69 ls []) := by
                    intro n69
                    induction n69 with
                    | zero => intro v5 H locs ls hP hS hl h; exact (lpo_0 h).elim
                    | succ n69 ih69 =>
                      intro v5 H locs ls hP hS hl h
                      have h : m_X7_gap_L69 (lpo (b_X7_gap_L69 g x0 x1 v4) n69) g x0 x1 v4 v5 = some r := h
                      unfold m_X7_gap_L69 at h
                      refine lv_iload hx hb dX7_gap_69 (lv_at hl 3 rfl) ?_
                      refine lv_iconst (v := (1 : Int32)) hx hb dX7_gap_71 (by decide) ?_
                      refine lv_iadd hx hb dX7_gap_72 ?_
                      refine lv_sipush (v := (1000 : Int32)) hx hb dX7_gap_73 (by decide) ?_
                      refine lv_icmp_ge (tgt := 99) hx hb dX7_gap_76 (by decide) (fun hc => ?_) (fun hc => ?_)
                      · have h := ite_t hc h
                        refine lv_iload_n hx hb dX7_gap_99 rfl (lv_at hl 1 rfl) ?_
                        refine lv_if_ne (tgt := 108) hx hb dX7_gap_100 (by decide) (fun hc => ?_) (fun hc => ?_)
                        · have h := ite_f hc h
                          refine lv_iload hx hb dX7_gap_108 (lv_at hl 3 rfl) ?_
                          obtain rfl := Option.some.inj h
                          exact hend _ _ _ _ dX7_gap_110 rfl hP hS
                        · have h := ite_t hc h
                          refine lv_iload hx hb dX7_gap_103 (lv_at hl 2 rfl) ?_
                          refine lv_goto (tgt := 110) hx hb dX7_gap_105 (by decide) ?_
                          obtain rfl := Option.some.inj h
                          exact hend _ _ _ _ dX7_gap_110 rfl hP hS
                      · have h := ite_f hc h
                        refine lv_aload_n hx hb dX7_gap_79 rfl (lv_at hl 0 rfl) ?_
                        refine lv_iload hx hb dX7_gap_80 (lv_at hl 3 rfl) ?_
                        refine lv_iconst (v := (1 : Int32)) hx hb dX7_gap_82 (by decide) ?_
                        refine lv_iadd hx hb dX7_gap_83 ?_
                        obtain ⟨r84, hcal, h⟩ := bnd_s h
                        refine x_VI (As := [.int (v5 + (1 : Int32))]) hx hb hml hown hts hK hP hS (ct_X7_owner l D a cA cT hI g (v5 + (1 : Int32)) r84 hcal) tM_0 (C := RX7) (F := TX7) (N := 18) rfl (g_V q804 q805 q35 q77 q806) yd_X7_owner ⟨Nat.le_of_ble_eq_true rfl, Nat.le_of_ble_eq_true rfl⟩ [] rfl (Nat.le_of_ble_eq_true rfl) hl.1 ⟨Nat.le_refl _, Nat.le_refl _⟩ dX7_gap_84 (fun H locs hP hS => ?_)
                        refine lv_sipush (v := (-1005 : Int32)) hx hb dX7_gap_87 (by decide) ?_
                        refine lv_icmp_ne (tgt := 99) hx hb dX7_gap_90 (by decide) (fun hc => ?_) (fun hc => ?_)
                        · have h := ite_f hc h
                          refine lv_iload_n hx hb dX7_gap_99 rfl (lv_at hl 1 rfl) ?_
                          refine lv_if_ne (tgt := 108) hx hb dX7_gap_100 (by decide) (fun hc => ?_) (fun hc => ?_)
                          · have h := ite_f hc h
                            refine lv_iload hx hb dX7_gap_108 (lv_at hl 3 rfl) ?_
                            obtain rfl := Option.some.inj h
                            exact hend _ _ _ _ dX7_gap_110 rfl hP hS
                          · have h := ite_t hc h
                            refine lv_iload hx hb dX7_gap_103 (lv_at hl 2 rfl) ?_
                            refine lv_goto (tgt := 110) hx hb dX7_gap_105 (by decide) ?_
                            obtain rfl := Option.some.inj h
                            exact hend _ _ _ _ dX7_gap_110 rfl hP hS
                        · have h := ite_t hc h
                          refine lv_iinc (v := (v5 + (1 : Int32))) (lv' := [(5, .int (v5 + (1 : Int32))), (0, .ref (a 0)), (2, .int x1), (4, .int v4)]) hx hb dX7_gap_93 hl (k := 3) rfl rfl (by decide) rfl (fun ls hl => ?_)
                          refine lv_goto (tgt := 69) hx hb dX7_gap_96 (by decide) ?_
                          exact ih69 (v5 + (1 : Int32)) _ _ _ hP hS (lv_sub hl [1, 2, 3, 0] rfl) h
                  exact K69 fuelN v4 _ _ _ hP hS (lv_sub hl [1, 2, 4, 0] rfl) h
              · have h := ite_f hc h
                refine lv_aload_n hx hb dX7_gap_47 rfl (lv_at hl 0 rfl) ?_
                refine lv_iload hx hb dX7_gap_48 (lv_at hl 3 rfl) ?_
                refine lv_iconst (v := (1 : Int32)) hx hb dX7_gap_50 (by decide) ?_
                refine lv_isub hx hb dX7_gap_51 ?_
                obtain ⟨r52, hcal, h⟩ := bnd_s h
                refine x_VI (As := [.int (v4 - (1 : Int32))]) hx hb hml hown hts hK hP hS (ct_X7_owner l D a cA cT hI g (v4 - (1 : Int32)) r52 hcal) tM_0 (C := RX7) (F := TX7) (N := 18) rfl (g_V q804 q805 q35 q77 q806) yd_X7_owner ⟨Nat.le_of_ble_eq_true rfl, Nat.le_of_ble_eq_true rfl⟩ [] rfl (Nat.le_of_ble_eq_true rfl) hl.1 ⟨Nat.le_refl _, Nat.le_refl _⟩ dX7_gap_52 (fun H locs hP hS => ?_)
                refine lv_sipush (v := (-1005 : Int32)) hx hb dX7_gap_55 (by decide) ?_
                refine lv_icmp_eq (tgt := 114) hx hb dX7_gap_58 (by decide) (fun hc => ?_) (fun hc => ?_)
                · have h := ite_t hc h
                  refine lv_iinc (v := (v4 + (1 : Int32))) (lv' := [(4, .int (v4 + (1 : Int32))), (0, .ref (a 0)), (2, .int x1), (3, .int v3)]) hx hb dX7_gap_114 hl (k := 3) rfl rfl (by decide) rfl (fun ls hl => ?_)
                  refine lv_goto (tgt := 22) hx hb dX7_gap_117 (by decide) ?_
                  exact ih22 v3 (v4 + (1 : Int32)) _ _ _ hP hS (lv_sub hl [1, 2, 3, 0] rfl) h
                · have h := ite_f hc h
                  refine lv_iload_n hx hb dX7_gap_61 rfl (lv_at hl 2 rfl) ?_
                  refine lv_if_ne (tgt := 111) hx hb dX7_gap_62 (by decide) (fun hc => ?_) (fun hc => ?_)
                  · have h := ite_f hc h
                    refine lv_iinc (v := (v3 + (-1 : Int32))) (lv' := [(3, .int (v3 + (-1 : Int32))), (0, .ref (a 0)), (2, .int x1), (4, .int v4)]) hx hb dX7_gap_111 hl (k := 2) rfl rfl (by decide) rfl (fun ls hl => ?_)
                    refine lv_iinc (v := (v4 + (1 : Int32))) (lv' := [(4, .int (v4 + (1 : Int32))), (3, .int (v3 + (-1 : Int32))), (0, .ref (a 0)), (2, .int x1)]) hx hb dX7_gap_114 hl (k := 3) rfl rfl (by decide) rfl (fun ls hl => ?_)
                    refine lv_goto (tgt := 22) hx hb dX7_gap_117 (by decide) ?_
                    exact ih22 (v3 + (-1 : Int32)) (v4 + (1 : Int32)) _ _ _ hP hS (lv_sub hl [2, 3, 1, 0] rfl) h
                  · have h := ite_t hc h
                    refine lv_iload hx hb dX7_gap_65 (lv_at hl 3 rfl) ?_
                    refine lv_istore (lv' := [(5, .int v4), (0, .ref (a 0)), (2, .int x1), (3, .int v3), (4, .int v4)]) hx hb dX7_gap_67 hl (by decide) rfl (fun ls hl => ?_)
                    have K69 : ∀ (n69 : Nat) (v5 : Int32) (H : Heap) (locs : List Loc) (ls : Array Slot), WP D a cA cT TM g H → va_S (AA a TM) s.heap H locs → lv_has ls 6 [(0, .ref (a 0)), (2, .int x1), (4, .int v4), (5, .int v5)] → lpo (b_X7_gap_L69_1 g x0 x1 v4) n69 v5 = some r → W p l e (rmm 3 66) s m args below meth c H locs 0 0 Q (F0 m 69 ls []) := by
                      intro n69
                      induction n69 with
                      | zero => intro v5 H locs ls hP hS hl h; exact (lpo_0 h).elim
                      | succ n69 ih69 =>
                        intro v5 H locs ls hP hS hl h
                        have h : m_X7_gap_L69_1 (lpo (b_X7_gap_L69_1 g x0 x1 v4) n69) g x0 x1 v4 v5 = some r := h
                        unfold m_X7_gap_L69_1 at h
                        refine lv_iload hx hb dX7_gap_69 (lv_at hl 3 rfl) ?_
                        refine lv_iconst (v := (1 : Int32)) hx hb dX7_gap_71 (by decide) ?_
                        refine lv_iadd hx hb dX7_gap_72 ?_
                        refine lv_sipush (v := (1000 : Int32)) hx hb dX7_gap_73 (by decide) ?_
                        refine lv_icmp_ge (tgt := 99) hx hb dX7_gap_76 (by decide) (fun hc => ?_) (fun hc => ?_)
                        · have h := ite_t hc h
                          refine lv_iload_n hx hb dX7_gap_99 rfl (lv_at hl 1 rfl) ?_
                          refine lv_if_ne (tgt := 108) hx hb dX7_gap_100 (by decide) (fun hc => ?_) (fun hc => ?_)
                          · have h := ite_f hc h
                            refine lv_iload hx hb dX7_gap_108 (lv_at hl 3 rfl) ?_
                            obtain rfl := Option.some.inj h
                            exact hend _ _ _ _ dX7_gap_110 rfl hP hS
                          · have h := ite_t hc h
                            refine lv_iload hx hb dX7_gap_103 (lv_at hl 2 rfl) ?_
                            refine lv_goto (tgt := 110) hx hb dX7_gap_105 (by decide) ?_
                            obtain rfl := Option.some.inj h
                            exact hend _ _ _ _ dX7_gap_110 rfl hP hS
                        · have h := ite_f hc h
                          refine lv_aload_n hx hb dX7_gap_79 rfl (lv_at hl 0 rfl) ?_
                          refine lv_iload hx hb dX7_gap_80 (lv_at hl 3 rfl) ?_
                          refine lv_iconst (v := (1 : Int32)) hx hb dX7_gap_82 (by decide) ?_
                          refine lv_iadd hx hb dX7_gap_83 ?_
                          obtain ⟨r84, hcal, h⟩ := bnd_s h
                          refine x_VI (As := [.int (v5 + (1 : Int32))]) hx hb hml hown hts hK hP hS (ct_X7_owner l D a cA cT hI g (v5 + (1 : Int32)) r84 hcal) tM_0 (C := RX7) (F := TX7) (N := 18) rfl (g_V q804 q805 q35 q77 q806) yd_X7_owner ⟨Nat.le_of_ble_eq_true rfl, Nat.le_of_ble_eq_true rfl⟩ [] rfl (Nat.le_of_ble_eq_true rfl) hl.1 ⟨Nat.le_refl _, Nat.le_refl _⟩ dX7_gap_84 (fun H locs hP hS => ?_)
                          refine lv_sipush (v := (-1005 : Int32)) hx hb dX7_gap_87 (by decide) ?_
                          refine lv_icmp_ne (tgt := 99) hx hb dX7_gap_90 (by decide) (fun hc => ?_) (fun hc => ?_)
                          · have h := ite_f hc h
                            refine lv_iload_n hx hb dX7_gap_99 rfl (lv_at hl 1 rfl) ?_
                            refine lv_if_ne (tgt := 108) hx hb dX7_gap_100 (by decide) (fun hc => ?_) (fun hc => ?_)
                            · have h := ite_f hc h
                              refine lv_iload hx hb dX7_gap_108 (lv_at hl 3 rfl) ?_
                              obtain rfl := Option.some.inj h
                              exact hend _ _ _ _ dX7_gap_110 rfl hP hS
                            · have h := ite_t hc h
                              refine lv_iload hx hb dX7_gap_103 (lv_at hl 2 rfl) ?_
                              refine lv_goto (tgt := 110) hx hb dX7_gap_105 (by decide) ?_
                              obtain rfl := Option.some.inj h
                              exact hend _ _ _ _ dX7_gap_110 rfl hP hS
                          · have h := ite_t hc h
                            refine lv_iinc (v := (v5 + (1 : Int32))) (lv' := [(5, .int (v5 + (1 : Int32))), (0, .ref (a 0)), (2, .int x1), (4, .int v4)]) hx hb dX7_gap_93 hl (k := 3) rfl rfl (by decide) rfl (fun ls hl => ?_)
                            refine lv_goto (tgt := 69) hx hb dX7_gap_96 (by decide) ?_
                            exact ih69 (v5 + (1 : Int32)) _ _ _ hP hS (lv_sub hl [1, 2, 3, 0] rfl) h
                    exact K69 fuelN v4 _ _ _ hP hS (lv_sub hl [1, 2, 4, 0] rfl) h
      exact K22 fuelN x0 (0 : Int32) _ _ _ hP hS (lv_sub hl [2, 4, 1, 0] rfl) h
    · have h := ite_t hc h
      refine lv_sipush (v := (-1002 : Int32)) hx hb dX7_gap_13 (by decide) ?_
      obtain rfl := Option.some.inj h
      exact hend _ _ _ _ dX7_gap_16 rfl hP hS
set_option maxHeartbeats 4000000 in
set_option maxRecDepth 100000 in
theorem ct_X7_gaps (l : Launch) (D : va_G) (a : Nat → Nat) (cA cT : ClassId) (hI : WI a TM) (g : MG)   (r : Int32) (h : m_X7_gaps g = some r) :
    CtI l D a cA cT TM yX7_gaps (Cond.code yX7_gaps cX7_gaps 3 (some .int) :: lw_all) (rmm 3 66) [.ref (a 0)] g r g := by
  refine CtI.of (by decide +kernel) (Nat.le_of_ble_eq_true rfl) ?_
  intro p e s m args below meth c Q ls hx hb hml hown hts hK hP hS hl hend
  have hl : lv_has ls 3 [(0, .ref (a 0))] := hl
  unfold m_X7_gaps at h
  refine lv_iconst (v := (0 : Int32)) hx hb dX7_gaps_0 (by decide) ?_
  refine lv_istore_n (lv' := [(1, .int (0 : Int32)), (0, .ref (a 0))]) hx hb dX7_gaps_1 rfl hl (by decide) rfl (fun ls hl => ?_)
  refine lv_iconst (v := (0 : Int32)) hx hb dX7_gaps_2 (by decide) ?_
  refine lv_istore_n (lv' := [(2, .int (0 : Int32)), (1, .int (0 : Int32)), (0, .ref (a 0))]) hx hb dX7_gaps_3 rfl hl (by decide) rfl (fun ls hl => ?_)
  have K4 : ∀ (n4 : Nat) (v1 : Int32) (v2 : Int32) (H : Heap) (locs : List Loc) (ls : Array Slot), WP D a cA cT TM g H → va_S (AA a TM) s.heap H locs → lv_has ls 3 [(0, .ref (a 0)), (1, .int v1), (2, .int v2)] → lpo (b_X7_gaps_L4 g) n4 (v1, v2) = some r → W p l e (rmm 3 66) s m args below meth c H locs 0 0 Q (F0 m 4 ls []) := by
    intro n4
    induction n4 with
    | zero => intro v1 v2 H locs ls hP hS hl h; exact (lpo_0 h).elim
    | succ n4 ih4 =>
      intro v1 v2 H locs ls hP hS hl h
      have h : m_X7_gaps_L4 (lpo (b_X7_gaps_L4 g) n4) g v1 v2 = some r := h
      unfold m_X7_gaps_L4 at h
      refine lv_iload_n hx hb dX7_gaps_4 rfl (lv_at hl 2 rfl) ?_
      refine lv_sipush (v := (1000 : Int32)) hx hb dX7_gaps_5 (by decide) ?_
      refine lv_icmp_ge (tgt := 53) hx hb dX7_gaps_8 (by decide) (fun hc => ?_) (fun hc => ?_)
      · have h := ite_t hc h
        refine lv_iload_n hx hb dX7_gaps_53 rfl (lv_at hl 1 rfl) ?_
        obtain rfl := Option.some.inj h
        exact hend _ _ _ _ dX7_gaps_54 rfl hP hS
      · have h := ite_f hc h
        refine lv_iload_n hx hb dX7_gaps_11 rfl (lv_at hl 1 rfl) ?_
        refine lv_aload_n hx hb dX7_gaps_12 rfl (lv_at hl 0 rfl) ?_
        refine lv_iload_n hx hb dX7_gaps_13 rfl (lv_at hl 2 rfl) ?_
        obtain ⟨r14, hcal, h⟩ := bnd_s h
        refine x_VI (As := [.int v2]) hx hb hml hown hts hK hP hS (ct_X7_owner l D a cA cT hI g v2 r14 hcal) tM_0 (C := RX7) (F := TX7) (N := 18) rfl (g_V q804 q805 q35 q77 q806) yd_X7_owner ⟨Nat.le_of_ble_eq_true rfl, Nat.le_of_ble_eq_true rfl⟩ [.int v1] rfl (Nat.le_of_ble_eq_true rfl) hl.1 ⟨Nat.le_refl _, Nat.le_refl _⟩ dX7_gaps_14 (fun H locs hP hS => ?_)
        refine lv_sipush (v := (-1005 : Int32)) hx hb dX7_gaps_17 (by decide) ?_
        refine lv_icmp_ne (tgt := 44) hx hb dX7_gaps_20 (by decide) (fun hc => ?_) (fun hc => ?_)
        · have h := ite_f hc h
          refine lv_iconst (v := (0 : Int32)) hx hb dX7_gaps_44 (by decide) ?_
          refine lv_iadd hx hb dX7_gaps_45 ?_
          refine lv_istore_n (lv' := [(1, .int (v1 + (0 : Int32))), (0, .ref (a 0)), (2, .int v2)]) hx hb dX7_gaps_46 rfl hl (by decide) rfl (fun ls hl => ?_)
          refine lv_iinc (v := (v2 + (1 : Int32))) (lv' := [(2, .int (v2 + (1 : Int32))), (1, .int (v1 + (0 : Int32))), (0, .ref (a 0))]) hx hb dX7_gaps_47 hl (k := 2) rfl rfl (by decide) rfl (fun ls hl => ?_)
          refine lv_goto (tgt := 4) hx hb dX7_gaps_50 (by decide) ?_
          exact ih4 (v1 + (0 : Int32)) (v2 + (1 : Int32)) _ _ _ hP hS (lv_sub hl [2, 1, 0] rfl) h
        · have h := ite_t hc h
          refine lv_iload_n hx hb dX7_gaps_23 rfl (lv_at hl 2 rfl) ?_
          refine lv_if_eq (tgt := 40) hx hb dX7_gaps_24 (by decide) (fun hc => ?_) (fun hc => ?_)
          · have h := ite_t hc h
            refine lv_iconst (v := (1 : Int32)) hx hb dX7_gaps_40 (by decide) ?_
            refine lv_goto (tgt := 45) hx hb dX7_gaps_41 (by decide) ?_
            refine lv_iadd hx hb dX7_gaps_45 ?_
            refine lv_istore_n (lv' := [(1, .int (v1 + (1 : Int32))), (0, .ref (a 0)), (2, .int v2)]) hx hb dX7_gaps_46 rfl hl (by decide) rfl (fun ls hl => ?_)
            refine lv_iinc (v := (v2 + (1 : Int32))) (lv' := [(2, .int (v2 + (1 : Int32))), (1, .int (v1 + (1 : Int32))), (0, .ref (a 0))]) hx hb dX7_gaps_47 hl (k := 2) rfl rfl (by decide) rfl (fun ls hl => ?_)
            refine lv_goto (tgt := 4) hx hb dX7_gaps_50 (by decide) ?_
            exact ih4 (v1 + (1 : Int32)) (v2 + (1 : Int32)) _ _ _ hP hS (lv_sub hl [2, 1, 0] rfl) h
          · have h := ite_f hc h
            refine lv_aload_n hx hb dX7_gaps_27 rfl (lv_at hl 0 rfl) ?_
            refine lv_iload_n hx hb dX7_gaps_28 rfl (lv_at hl 2 rfl) ?_
            refine lv_iconst (v := (1 : Int32)) hx hb dX7_gaps_29 (by decide) ?_
            refine lv_isub hx hb dX7_gaps_30 ?_
            obtain ⟨r31, hcal, h⟩ := bnd_s h
            refine x_VI (As := [.int (v2 - (1 : Int32))]) hx hb hml hown hts hK hP hS (ct_X7_owner l D a cA cT hI g (v2 - (1 : Int32)) r31 hcal) tM_0 (C := RX7) (F := TX7) (N := 18) rfl (g_V q804 q805 q35 q77 q806) yd_X7_owner ⟨Nat.le_of_ble_eq_true rfl, Nat.le_of_ble_eq_true rfl⟩ [.int v1] rfl (Nat.le_of_ble_eq_true rfl) hl.1 ⟨Nat.le_refl _, Nat.le_refl _⟩ dX7_gaps_31 (fun H locs hP hS => ?_)
            refine lv_sipush (v := (-1005 : Int32)) hx hb dX7_gaps_34 (by decide) ?_
            refine lv_icmp_eq (tgt := 44) hx hb dX7_gaps_37 (by decide) (fun hc => ?_) (fun hc => ?_)
            · have h := ite_t hc h
              refine lv_iconst (v := (0 : Int32)) hx hb dX7_gaps_44 (by decide) ?_
              refine lv_iadd hx hb dX7_gaps_45 ?_
              refine lv_istore_n (lv' := [(1, .int (v1 + (0 : Int32))), (0, .ref (a 0)), (2, .int v2)]) hx hb dX7_gaps_46 rfl hl (by decide) rfl (fun ls hl => ?_)
              refine lv_iinc (v := (v2 + (1 : Int32))) (lv' := [(2, .int (v2 + (1 : Int32))), (1, .int (v1 + (0 : Int32))), (0, .ref (a 0))]) hx hb dX7_gaps_47 hl (k := 2) rfl rfl (by decide) rfl (fun ls hl => ?_)
              refine lv_goto (tgt := 4) hx hb dX7_gaps_50 (by decide) ?_
              exact ih4 (v1 + (0 : Int32)) (v2 + (1 : Int32)) _ _ _ hP hS (lv_sub hl [2, 1, 0] rfl) h
            · have h := ite_f hc h
              refine lv_iconst (v := (1 : Int32)) hx hb dX7_gaps_40 (by decide) ?_
              refine lv_goto (tgt := 45) hx hb dX7_gaps_41 (by decide) ?_
              refine lv_iadd hx hb dX7_gaps_45 ?_
              refine lv_istore_n (lv' := [(1, .int (v1 + (1 : Int32))), (0, .ref (a 0)), (2, .int v2)]) hx hb dX7_gaps_46 rfl hl (by decide) rfl (fun ls hl => ?_)
              refine lv_iinc (v := (v2 + (1 : Int32))) (lv' := [(2, .int (v2 + (1 : Int32))), (1, .int (v1 + (1 : Int32))), (0, .ref (a 0))]) hx hb dX7_gaps_47 hl (k := 2) rfl rfl (by decide) rfl (fun ls hl => ?_)
              refine lv_goto (tgt := 4) hx hb dX7_gaps_50 (by decide) ?_
              exact ih4 (v1 + (1 : Int32)) (v2 + (1 : Int32)) _ _ _ hP hS (lv_sub hl [2, 1, 0] rfl) h
  exact K4 fuelN (0 : Int32) (0 : Int32) _ _ _ hP hS (lv_sub hl [2, 1, 0] rfl) h
set_option maxHeartbeats 4000000 in
set_option maxRecDepth 100000 in
theorem ct_X7_stray (l : Launch) (D : va_G) (a : Nat → Nat) (cA cT : ClassId) (hI : WI a TM) (g : MG) (x0 : Int32)  (r : Int32) (h : m_X7_stray g x0 = some r) :
    CtI l D a cA cT TM yX7_stray (Cond.code yX7_stray cX7_stray 4 (some .int) :: lw_all) (rmm 5 110) [.ref (a 0), .int x0] g r g := by
  refine CtI.of (by decide +kernel) (Nat.le_of_ble_eq_true rfl) ?_
  intro p e s m args below meth c Q ls hx hb hml hown hts hK hP hS hl hend
  have hl : lv_has ls 4 [(0, .ref (a 0)), (1, .int x0)] := hl
  unfold m_X7_stray at h
  refine lv_iload_n hx hb dX7_stray_0 rfl (lv_at hl 1 rfl) ?_
  refine lv_if_ge (tgt := 8) hx hb dX7_stray_1 (by decide) (fun hc => ?_) (fun hc => ?_)
  · have h := ite_t hc h
    refine lv_iload_n hx hb dX7_stray_8 rfl (lv_at hl 1 rfl) ?_
    refine lv_istore_n (lv' := [(2, .int x0), (0, .ref (a 0)), (1, .int x0)]) hx hb dX7_stray_9 rfl hl (by decide) rfl (fun ls hl => ?_)
    refine lv_iconst (v := (0 : Int32)) hx hb dX7_stray_10 (by decide) ?_
    refine lv_istore_n (lv' := [(3, .int (0 : Int32)), (2, .int x0), (0, .ref (a 0)), (1, .int x0)]) hx hb dX7_stray_11 rfl hl (by decide) rfl (fun ls hl => ?_)
    have K12 : ∀ (n12 : Nat) (v2 : Int32) (v3 : Int32) (H : Heap) (locs : List Loc) (ls : Array Slot), WP D a cA cT TM g H → va_S (AA a TM) s.heap H locs → lv_has ls 4 [(0, .ref (a 0)), (2, .int v2), (3, .int v3)] → lpo (b_X7_stray_L12 g x0) n12 (v2, v3) = some r → W p l e (rmm 5 110) s m args below meth c H locs 0 0 Q (F0 m 12 ls []) := by
      intro n12
      induction n12 with
      | zero => intro v2 v3 H locs ls hP hS hl h; exact (lpo_0 h).elim
      | succ n12 ih12 =>
        intro v2 v3 H locs ls hP hS hl h
        have h : m_X7_stray_L12 (lpo (b_X7_stray_L12 g x0) n12) g x0 v2 v3 = some r := h
        unfold m_X7_stray_L12 at h
        refine lv_iload_n hx hb dX7_stray_12 rfl (lv_at hl 2 rfl) ?_
        refine lv_aload_n hx hb dX7_stray_13 rfl (lv_at hl 0 rfl) ?_
        refine x_getr hx hb hts inX7 hown hK hP tM_0 (C := RX7) (F := TX7) (N := 18) rfl 0 (by decide) q758 rfl 1 rfl dX7_stray_14 ?_
        refine lv_iconst (v := (0 : Int32)) hx hb dX7_stray_17 (by decide) ?_
        obtain ⟨hz, h⟩ := ite_n h
        refine x_ald hx hb hK hP tM_1 hz dX7_stray_18 ?_
        refine lv_icmp_ge (tgt := 45) hx hb dX7_stray_19 (by decide) (fun hc => ?_) (fun hc => ?_)
        · have h := ite_t hc h
          refine lv_sipush (v := (-1005 : Int32)) hx hb dX7_stray_45 (by decide) ?_
          obtain rfl := Option.some.inj h
          exact hend _ _ _ _ dX7_stray_48 rfl hP hS
        · have h := ite_f hc h
          refine lv_aload_n hx hb dX7_stray_22 rfl (lv_at hl 0 rfl) ?_
          refine lv_iload_n hx hb dX7_stray_23 rfl (lv_at hl 2 rfl) ?_
          obtain ⟨r24, hcal, h⟩ := bnd_s h
          refine x_VI (As := [.int v3]) hx hb hml hown hts hK hP hS (ct_X7_isStray l D a cA cT hI g v3 r24 hcal) tM_0 (C := RX7) (F := TX7) (N := 18) rfl (g_V q900 q901 q51 q77 q902) yd_X7_isStray ⟨Nat.le_of_ble_eq_true rfl, Nat.le_of_ble_eq_true rfl⟩ [] rfl (Nat.le_of_ble_eq_true rfl) hl.1 ⟨Nat.le_refl _, Nat.le_refl _⟩ dX7_stray_24 (fun H locs hP hS => ?_)
          refine lv_if_eq (tgt := 39) hx hb dX7_stray_27 (by decide) (fun hc => ?_) (fun hc => ?_)
          · have h := ite_t hc h
            refine lv_iinc (v := (v3 + (1 : Int32))) (lv' := [(3, .int (v3 + (1 : Int32))), (0, .ref (a 0)), (2, .int v2)]) hx hb dX7_stray_39 hl (k := 2) rfl rfl (by decide) rfl (fun ls hl => ?_)
            refine lv_goto (tgt := 12) hx hb dX7_stray_42 (by decide) ?_
            exact ih12 v2 (v3 + (1 : Int32)) _ _ _ hP hS (lv_sub hl [1, 2, 0] rfl) h
          · have h := ite_f hc h
            refine lv_iload_n hx hb dX7_stray_30 rfl (lv_at hl 1 rfl) ?_
            refine lv_if_ne (tgt := 36) hx hb dX7_stray_31 (by decide) (fun hc => ?_) (fun hc => ?_)
            · have h := ite_f hc h
              refine lv_iinc (v := (v2 + (-1 : Int32))) (lv' := [(2, .int (v2 + (-1 : Int32))), (0, .ref (a 0)), (3, .int v3)]) hx hb dX7_stray_36 hl (k := 1) rfl rfl (by decide) rfl (fun ls hl => ?_)
              refine lv_iinc (v := (v3 + (1 : Int32))) (lv' := [(3, .int (v3 + (1 : Int32))), (2, .int (v2 + (-1 : Int32))), (0, .ref (a 0))]) hx hb dX7_stray_39 hl (k := 2) rfl rfl (by decide) rfl (fun ls hl => ?_)
              refine lv_goto (tgt := 12) hx hb dX7_stray_42 (by decide) ?_
              exact ih12 (v2 + (-1 : Int32)) (v3 + (1 : Int32)) _ _ _ hP hS (lv_sub hl [2, 1, 0] rfl) h
            · have h := ite_t hc h
              refine lv_iload_n hx hb dX7_stray_34 rfl (lv_at hl 2 rfl) ?_
              obtain rfl := Option.some.inj h
              exact hend _ _ _ _ dX7_stray_35 rfl hP hS
    exact K12 fuelN x0 (0 : Int32) _ _ _ hP hS (lv_sub hl [2, 1, 0] rfl) h
  · have h := ite_f hc h
    refine lv_sipush (v := (-1002 : Int32)) hx hb dX7_stray_4 (by decide) ?_
    obtain rfl := Option.some.inj h
    exact hend _ _ _ _ dX7_stray_7 rfl hP hS
set_option maxHeartbeats 4000000 in
set_option maxRecDepth 100000 in
theorem ct_X7_count (l : Launch) (D : va_G) (a : Nat → Nat) (cA cT : ClassId) (hI : WI a TM) (g : MG) (x0 : Int32)  (r : Int32) (h : m_X7_count g x0 = some r) :
    CtI l D a cA cT TM yX7_count (Cond.code yX7_count cX7_count 4 (some .int) :: lw_all) (rmm 6 132) [.ref (a 0), .int x0] g r g := by
  refine CtI.of (by decide +kernel) (Nat.le_of_ble_eq_true rfl) ?_
  intro p e s m args below meth c Q ls hx hb hml hown hts hK hP hS hl hend
  have hl : lv_has ls 4 [(0, .ref (a 0)), (1, .int x0)] := hl
  unfold m_X7_count at h
  refine lv_iconst (v := (0 : Int32)) hx hb dX7_count_0 (by decide) ?_
  refine lv_istore_n (lv' := [(2, .int (0 : Int32)), (0, .ref (a 0)), (1, .int x0)]) hx hb dX7_count_1 rfl hl (by decide) rfl (fun ls hl => ?_)
  refine lv_iconst (v := (0 : Int32)) hx hb dX7_count_2 (by decide) ?_
  refine lv_istore_n (lv' := [(3, .int (0 : Int32)), (2, .int (0 : Int32)), (0, .ref (a 0)), (1, .int x0)]) hx hb dX7_count_3 rfl hl (by decide) rfl (fun ls hl => ?_)
  have K4 : ∀ (n4 : Nat) (v2 : Int32) (v3 : Int32) (H : Heap) (locs : List Loc) (ls : Array Slot), WP D a cA cT TM g H → va_S (AA a TM) s.heap H locs → lv_has ls 4 [(0, .ref (a 0)), (1, .int x0), (2, .int v2), (3, .int v3)] → lpo (b_X7_count_L4 g x0) n4 (v2, v3) = some r → W p l e (rmm 6 132) s m args below meth c H locs 0 0 Q (F0 m 4 ls []) := by
    intro n4
    induction n4 with
    | zero => intro v2 v3 H locs ls hP hS hl h; exact (lpo_0 h).elim
    | succ n4 ih4 =>
      intro v2 v3 H locs ls hP hS hl h
      have h : m_X7_count_L4 (lpo (b_X7_count_L4 g x0) n4) g x0 v2 v3 = some r := h
      unfold m_X7_count_L4 at h
      refine lv_iload_n hx hb dX7_count_4 rfl (lv_at hl 3 rfl) ?_
      refine lv_aload_n hx hb dX7_count_5 rfl (lv_at hl 0 rfl) ?_
      refine x_getr hx hb hts inX7 hown hK hP tM_0 (C := RX7) (F := TX7) (N := 18) rfl 0 (by decide) q758 rfl 1 rfl dX7_count_6 ?_
      refine lv_iconst (v := (0 : Int32)) hx hb dX7_count_9 (by decide) ?_
      obtain ⟨hz, h⟩ := ite_n h
      refine x_ald hx hb hK hP tM_1 hz dX7_count_10 ?_
      refine lv_icmp_ge (tgt := 36) hx hb dX7_count_11 (by decide) (fun hc => ?_) (fun hc => ?_)
      · have h := ite_t hc h
        refine lv_iload_n hx hb dX7_count_36 rfl (lv_at hl 1 rfl) ?_
        by_cases hs0 : x0 = (0 : Int32)
        · have h := ite_t hs0 h
          refine lv_tableIn (off := 67) (tgt := 104) hx hb dX7_count_37 (by rw [hs0]; decide) (by rw [hs0]; decide) (by rw [hs0]; rfl) (by decide) ?_
          refine lv_aload_n hx hb dX7_count_104 rfl (lv_at hl 0 rfl) ?_
          obtain ⟨r105, hcal, h⟩ := bnd_s h
          refine x_VI (As := []) hx hb hml hown hts hK hP hS (ct_X7_slices l D a cA cT hI g r105 hcal) tM_0 (C := RX7) (F := TX7) (N := 18) rfl (g_V q853 q854 q46 q77 q855) yd_X7_slices ⟨Nat.le_of_ble_eq_true rfl, Nat.le_of_ble_eq_true rfl⟩ [] rfl (Nat.le_of_ble_eq_true rfl) hl.1 ⟨Nat.le_refl _, Nat.le_refl _⟩ dX7_count_105 (fun H locs hP hS => ?_)
          obtain rfl := Option.some.inj h
          exact hend _ _ _ _ dX7_count_108 rfl hP hS
        have h := ite_f hs0 h
        by_cases hs1 : x0 = (1 : Int32)
        · have h := ite_t hs1 h
          refine lv_tableIn (off := 72) (tgt := 109) hx hb dX7_count_37 (by rw [hs1]; decide) (by rw [hs1]; decide) (by rw [hs1]; rfl) (by decide) ?_
          refine lv_aload_n hx hb dX7_count_109 rfl (lv_at hl 0 rfl) ?_
          refine x_getr hx hb hts inX7 hown hK hP tM_0 (C := RX7) (F := TX7) (N := 18) rfl 0 (by decide) q758 rfl 1 rfl dX7_count_110 ?_
          refine lv_iconst (v := (1 : Int32)) hx hb dX7_count_113 (by decide) ?_
          obtain ⟨hz, h⟩ := ite_n h
          refine x_ald hx hb hK hP tM_1 hz dX7_count_114 ?_
          obtain rfl := Option.some.inj h
          exact hend _ _ _ _ dX7_count_115 rfl hP hS
        have h := ite_f hs1 h
        by_cases hs2 : x0 = (2 : Int32)
        · have h := ite_t hs2 h
          refine lv_tableIn (off := 79) (tgt := 116) hx hb dX7_count_37 (by rw [hs2]; decide) (by rw [hs2]; decide) (by rw [hs2]; rfl) (by decide) ?_
          refine lv_iload_n hx hb dX7_count_116 rfl (lv_at hl 2 rfl) ?_
          obtain rfl := Option.some.inj h
          exact hend _ _ _ _ dX7_count_117 rfl hP hS
        have h := ite_f hs2 h
        by_cases hs3 : x0 = (3 : Int32)
        · have h := ite_t hs3 h
          refine lv_tableIn (off := 81) (tgt := 118) hx hb dX7_count_37 (by rw [hs3]; decide) (by rw [hs3]; decide) (by rw [hs3]; rfl) (by decide) ?_
          refine lv_aload_n hx hb dX7_count_118 rfl (lv_at hl 0 rfl) ?_
          refine lv_bipush (v := (61 : Int32)) hx hb dX7_count_119 (by decide) ?_
          obtain ⟨r121, hcal, h⟩ := bnd_s h
          refine x_VI (As := [.int (61 : Int32)]) hx hb hml hown hts hK hP hS (ct_X7_rowsIn l D a cA cT hI g (61 : Int32) r121 hcal) tM_0 (C := RX7) (F := TX7) (N := 18) rfl (g_V q813 q814 q38 q77 q815) yd_X7_rowsIn ⟨Nat.le_of_ble_eq_true rfl, Nat.le_of_ble_eq_true rfl⟩ [] rfl (Nat.le_of_ble_eq_true rfl) hl.1 ⟨Nat.le_refl _, Nat.le_refl _⟩ dX7_count_121 (fun H locs hP hS => ?_)
          obtain rfl := Option.some.inj h
          exact hend _ _ _ _ dX7_count_124 rfl hP hS
        have h := ite_f hs3 h
        by_cases hs4 : x0 = (4 : Int32)
        · have h := ite_t hs4 h
          refine lv_tableIn (off := 88) (tgt := 125) hx hb dX7_count_37 (by rw [hs4]; decide) (by rw [hs4]; decide) (by rw [hs4]; rfl) (by decide) ?_
          refine lv_aload_n hx hb dX7_count_125 rfl (lv_at hl 0 rfl) ?_
          refine x_getr hx hb hts inX7 hown hK hP tM_0 (C := RX7) (F := TX7) (N := 18) rfl 0 (by decide) q758 rfl 1 rfl dX7_count_126 ?_
          refine lv_iconst (v := (0 : Int32)) hx hb dX7_count_129 (by decide) ?_
          obtain ⟨hz, h⟩ := ite_n h
          refine x_ald hx hb hK hP tM_1 hz dX7_count_130 ?_
          obtain rfl := Option.some.inj h
          exact hend _ _ _ _ dX7_count_131 rfl hP hS
        have h := ite_f hs4 h
        by_cases hs5 : x0 = (5 : Int32)
        · have h := ite_t hs5 h
          refine lv_tableIn (off := 95) (tgt := 132) hx hb dX7_count_37 (by rw [hs5]; decide) (by rw [hs5]; decide) (by rw [hs5]; rfl) (by decide) ?_
          refine lv_aload_n hx hb dX7_count_132 rfl (lv_at hl 0 rfl) ?_
          obtain ⟨r133, hcal, h⟩ := bnd_s h
          refine x_VI (As := []) hx hb hml hown hts hK hP hS (ct_X7_strays l D a cA cT hI g r133 hcal) tM_0 (C := RX7) (F := TX7) (N := 18) rfl (g_V q897 q898 q50 q77 q899) yd_X7_strays ⟨Nat.le_of_ble_eq_true rfl, Nat.le_of_ble_eq_true rfl⟩ [] rfl (Nat.le_of_ble_eq_true rfl) hl.1 ⟨Nat.le_refl _, Nat.le_refl _⟩ dX7_count_133 (fun H locs hP hS => ?_)
          obtain rfl := Option.some.inj h
          exact hend _ _ _ _ dX7_count_136 rfl hP hS
        have h := ite_f hs5 h
        by_cases hs6 : x0 = (6 : Int32)
        · have h := ite_t hs6 h
          refine lv_tableIn (off := 100) (tgt := 137) hx hb dX7_count_37 (by rw [hs6]; decide) (by rw [hs6]; decide) (by rw [hs6]; rfl) (by decide) ?_
          refine lv_aload_n hx hb dX7_count_137 rfl (lv_at hl 0 rfl) ?_
          refine x_getr hx hb hts inX7 hown hK hP tM_0 (C := RX7) (F := TX7) (N := 18) rfl 0 (by decide) q758 rfl 1 rfl dX7_count_138 ?_
          refine lv_iconst (v := (2 : Int32)) hx hb dX7_count_141 (by decide) ?_
          obtain ⟨hz, h⟩ := ite_n h
          refine x_ald hx hb hK hP tM_1 hz dX7_count_142 ?_
          obtain rfl := Option.some.inj h
          exact hend _ _ _ _ dX7_count_143 rfl hP hS
        have h := ite_f hs6 h
        by_cases hs7 : x0 = (7 : Int32)
        · have h := ite_t hs7 h
          refine lv_tableIn (off := 107) (tgt := 144) hx hb dX7_count_37 (by rw [hs7]; decide) (by rw [hs7]; decide) (by rw [hs7]; rfl) (by decide) ?_
          refine lv_aload_n hx hb dX7_count_144 rfl (lv_at hl 0 rfl) ?_
          obtain ⟨r145, hcal, h⟩ := bnd_s h
          refine x_VI (As := []) hx hb hml hown hts hK hP hS (ct_X7_gaps l D a cA cT hI g r145 hcal) tM_0 (C := RX7) (F := TX7) (N := 18) rfl (g_V q1038 q1039 q68 q77 q1040) yd_X7_gaps ⟨Nat.le_of_ble_eq_true rfl, Nat.le_of_ble_eq_true rfl⟩ [] rfl (Nat.le_of_ble_eq_true rfl) hl.1 ⟨Nat.le_refl _, Nat.le_refl _⟩ dX7_count_145 (fun H locs hP hS => ?_)
          obtain rfl := Option.some.inj h
          exact hend _ _ _ _ dX7_count_148 rfl hP hS
        have h := ite_f hs7 h
        by_cases hs8 : x0 = (8 : Int32)
        · have h := ite_t hs8 h
          refine lv_tableIn (off := 112) (tgt := 149) hx hb dX7_count_37 (by rw [hs8]; decide) (by rw [hs8]; decide) (by rw [hs8]; rfl) (by decide) ?_
          refine lv_aload_n hx hb dX7_count_149 rfl (lv_at hl 0 rfl) ?_
          obtain ⟨r150, hcal, h⟩ := bnd_s h
          refine x_VI (As := []) hx hb hml hown hts hK hP hS (ct_X7_freeKeys l D a cA cT hI g r150 hcal) tM_0 (C := RX7) (F := TX7) (N := 18) rfl (g_V q890 q891 q49 q77 q892) yd_X7_freeKeys ⟨Nat.le_of_ble_eq_true rfl, Nat.le_of_ble_eq_true rfl⟩ [] rfl (Nat.le_of_ble_eq_true rfl) hl.1 ⟨Nat.le_refl _, Nat.le_refl _⟩ dX7_count_150 (fun H locs hP hS => ?_)
          obtain rfl := Option.some.inj h
          exact hend _ _ _ _ dX7_count_153 rfl hP hS
        have h := ite_f hs8 h
        by_cases hs9 : x0 = (9 : Int32)
        · have h := ite_t hs9 h
          refine lv_tableIn (off := 117) (tgt := 154) hx hb dX7_count_37 (by rw [hs9]; decide) (by rw [hs9]; decide) (by rw [hs9]; rfl) (by decide) ?_
          refine lv_aload_n hx hb dX7_count_154 rfl (lv_at hl 0 rfl) ?_
          refine x_getr hx hb hts inX7 hown hK hP tM_0 (C := RX7) (F := TX7) (N := 18) rfl 0 (by decide) q758 rfl 1 rfl dX7_count_155 ?_
          refine lv_iconst (v := (3 : Int32)) hx hb dX7_count_158 (by decide) ?_
          refine lv_iload_n hx hb dX7_count_159 rfl (lv_at hl 1 rfl) ?_
          refine lv_iadd hx hb dX7_count_160 ?_
          refine lv_bipush (v := (9 : Int32)) hx hb dX7_count_161 (by decide) ?_
          refine lv_isub hx hb dX7_count_163 ?_
          obtain ⟨hz, h⟩ := ite_n h
          refine x_ald hx hb hK hP tM_1 hz dX7_count_164 ?_
          obtain rfl := Option.some.inj h
          exact hend _ _ _ _ dX7_count_165 rfl hP hS
        have h := ite_f hs9 h
        by_cases hs10 : x0 = (10 : Int32)
        · have h := ite_t hs10 h
          refine lv_tableIn (off := 117) (tgt := 154) hx hb dX7_count_37 (by rw [hs10]; decide) (by rw [hs10]; decide) (by rw [hs10]; rfl) (by decide) ?_
          refine lv_aload_n hx hb dX7_count_154 rfl (lv_at hl 0 rfl) ?_
          refine x_getr hx hb hts inX7 hown hK hP tM_0 (C := RX7) (F := TX7) (N := 18) rfl 0 (by decide) q758 rfl 1 rfl dX7_count_155 ?_
          refine lv_iconst (v := (3 : Int32)) hx hb dX7_count_158 (by decide) ?_
          refine lv_iload_n hx hb dX7_count_159 rfl (lv_at hl 1 rfl) ?_
          refine lv_iadd hx hb dX7_count_160 ?_
          refine lv_bipush (v := (9 : Int32)) hx hb dX7_count_161 (by decide) ?_
          refine lv_isub hx hb dX7_count_163 ?_
          obtain ⟨hz, h⟩ := ite_n h
          refine x_ald hx hb hK hP tM_1 hz dX7_count_164 ?_
          obtain rfl := Option.some.inj h
          exact hend _ _ _ _ dX7_count_165 rfl hP hS
        have h := ite_f hs10 h
        by_cases hs11 : x0 = (11 : Int32)
        · have h := ite_t hs11 h
          refine lv_tableIn (off := 129) (tgt := 166) hx hb dX7_count_37 (by rw [hs11]; decide) (by rw [hs11]; decide) (by rw [hs11]; rfl) (by decide) ?_
          refine lv_aload_n hx hb dX7_count_166 rfl (lv_at hl 0 rfl) ?_
          refine x_get hx hb hts inX7 hown hK hP tM_0 (C := RX7) (F := TX7) (N := 18) rfl 15 (by decide) q773 rfl rfl dX7_count_167 ?_
          obtain rfl := Option.some.inj h
          exact hend _ _ _ _ dX7_count_170 rfl hP hS
        have h := ite_f hs11 h
        by_cases hs12 : x0 = (12 : Int32)
        · have h := ite_t hs12 h
          refine lv_tableIn (off := 134) (tgt := 171) hx hb dX7_count_37 (by rw [hs12]; decide) (by rw [hs12]; decide) (by rw [hs12]; rfl) (by decide) ?_
          refine lv_aload_n hx hb dX7_count_171 rfl (lv_at hl 0 rfl) ?_
          refine x_get hx hb hts inX7 hown hK hP tM_0 (C := RX7) (F := TX7) (N := 18) rfl 16 (by decide) q774 rfl rfl dX7_count_172 ?_
          obtain rfl := Option.some.inj h
          exact hend _ _ _ _ dX7_count_175 rfl hP hS
        have h := ite_f hs12 h
        have hq : x0.toInt ≠ 0 ∧ x0.toInt ≠ 1 ∧ x0.toInt ≠ 2 ∧ x0.toInt ≠ 3 ∧ x0.toInt ≠ 4 ∧ x0.toInt ≠ 5 ∧ x0.toInt ≠ 6 ∧ x0.toInt ≠ 7 ∧ x0.toInt ≠ 8 ∧ x0.toInt ≠ 9 ∧ x0.toInt ≠ 10 ∧ x0.toInt ≠ 11 ∧ x0.toInt ≠ 12 := ⟨sw_ne hs0 rfl, sw_ne hs1 rfl, sw_ne hs2 rfl, sw_ne hs3 rfl, sw_ne hs4 rfl, sw_ne hs5 rfl, sw_ne hs6 rfl, sw_ne hs7 rfl, sw_ne hs8 rfl, sw_ne hs9 rfl, sw_ne hs10 rfl, sw_ne hs11 rfl, sw_ne hs12 rfl⟩
        refine lv_tableOut (tgt := 176) hx hb dX7_count_37 (by omega) (by decide) ?_
        refine lv_sipush (v := (-1002 : Int32)) hx hb dX7_count_176 (by decide) ?_
        obtain rfl := Option.some.inj h
        exact hend _ _ _ _ dX7_count_179 rfl hP hS
      · have h := ite_f hc h
        refine lv_iload_n hx hb dX7_count_14 rfl (lv_at hl 2 rfl) ?_
        refine lv_aload_n hx hb dX7_count_15 rfl (lv_at hl 0 rfl) ?_
        refine lv_iload_n hx hb dX7_count_16 rfl (lv_at hl 3 rfl) ?_
        obtain ⟨r17, hcal, h⟩ := bnd_s h
        refine x_VI (As := [.int v3]) hx hb hml hown hts hK hP hS (ct_X7_isInTable l D a cA cT hI g v3 r17 hcal) tM_0 (C := RX7) (F := TX7) (N := 18) rfl (g_V q977 q978 q64 q77 q979) yd_X7_isInTable ⟨Nat.le_of_ble_eq_true rfl, Nat.le_of_ble_eq_true rfl⟩ [.int v2] rfl (Nat.le_of_ble_eq_true rfl) hl.1 ⟨Nat.le_refl _, Nat.le_refl _⟩ dX7_count_17 (fun H locs hP hS => ?_)
        refine lv_if_eq (tgt := 27) hx hb dX7_count_20 (by decide) (fun hc => ?_) (fun hc => ?_)
        · have h := ite_t hc h
          refine lv_iconst (v := (0 : Int32)) hx hb dX7_count_27 (by decide) ?_
          refine lv_iadd hx hb dX7_count_28 ?_
          refine lv_istore_n (lv' := [(2, .int (v2 + (0 : Int32))), (0, .ref (a 0)), (1, .int x0), (3, .int v3)]) hx hb dX7_count_29 rfl hl (by decide) rfl (fun ls hl => ?_)
          refine lv_iinc (v := (v3 + (1 : Int32))) (lv' := [(3, .int (v3 + (1 : Int32))), (2, .int (v2 + (0 : Int32))), (0, .ref (a 0)), (1, .int x0)]) hx hb dX7_count_30 hl (k := 3) rfl rfl (by decide) rfl (fun ls hl => ?_)
          refine lv_goto (tgt := 4) hx hb dX7_count_33 (by decide) ?_
          exact ih4 (v2 + (0 : Int32)) (v3 + (1 : Int32)) _ _ _ hP hS (lv_sub hl [2, 3, 1, 0] rfl) h
        · have h := ite_f hc h
          refine lv_iconst (v := (1 : Int32)) hx hb dX7_count_23 (by decide) ?_
          refine lv_goto (tgt := 28) hx hb dX7_count_24 (by decide) ?_
          refine lv_iadd hx hb dX7_count_28 ?_
          refine lv_istore_n (lv' := [(2, .int (v2 + (1 : Int32))), (0, .ref (a 0)), (1, .int x0), (3, .int v3)]) hx hb dX7_count_29 rfl hl (by decide) rfl (fun ls hl => ?_)
          refine lv_iinc (v := (v3 + (1 : Int32))) (lv' := [(3, .int (v3 + (1 : Int32))), (2, .int (v2 + (1 : Int32))), (0, .ref (a 0)), (1, .int x0)]) hx hb dX7_count_30 hl (k := 3) rfl rfl (by decide) rfl (fun ls hl => ?_)
          refine lv_goto (tgt := 4) hx hb dX7_count_33 (by decide) ?_
          exact ih4 (v2 + (1 : Int32)) (v3 + (1 : Int32)) _ _ _ hP hS (lv_sub hl [2, 3, 1, 0] rfl) h
  exact K4 fuelN (0 : Int32) (0 : Int32) _ _ _ hP hS (lv_sub hl [2, 3, 1, 0] rfl) h
set_option maxHeartbeats 4000000 in
set_option maxRecDepth 100000 in
theorem ct_X7_unfit (l : Launch) (D : va_G) (a : Nat → Nat) (cA cT : ClassId) (hI : WI a TM) (g : MG) (x0 : Int32)  (r : Int32) (h : m_X7_unfit g x0 = some r) :
    CtI l D a cA cT TM yX7_unfit (Cond.code yX7_unfit cX7_unfit 2 (some .int) :: lw_all) (rmm 2 47) [.ref (a 0), .int x0] g r g := by
  refine CtI.of (by decide +kernel) (Nat.le_of_ble_eq_true rfl) ?_
  intro p e s m args below meth c Q ls hx hb hml hown hts hK hP hS hl hend
  have hl : lv_has ls 2 [(0, .ref (a 0)), (1, .int x0)] := hl
  unfold m_X7_unfit at h
  refine lv_aload_n hx hb dX7_unfit_0 rfl (lv_at hl 0 rfl) ?_
  refine lv_iload_n hx hb dX7_unfit_1 rfl (lv_at hl 1 rfl) ?_
  obtain ⟨r2, hcal, h⟩ := bnd_s h
  refine x_VI (As := [.int x0]) hx hb hml hown hts hK hP hS (ct_X7_isSlice l D a cA cT hI g x0 r2 hcal) tM_0 (C := RX7) (F := TX7) (N := 18) rfl (g_V q807 q808 q36 q77 q809) yd_X7_isSlice ⟨Nat.le_of_ble_eq_true rfl, Nat.le_of_ble_eq_true rfl⟩ [] rfl (Nat.le_of_ble_eq_true rfl) hl.1 ⟨Nat.le_refl _, Nat.le_refl _⟩ dX7_unfit_2 (fun H locs hP hS => ?_)
  refine lv_if_eq (tgt := 44) hx hb dX7_unfit_5 (by decide) (fun hc => ?_) (fun hc => ?_)
  · have h := ite_t hc h
    refine lv_sipush (v := (-1001 : Int32)) hx hb dX7_unfit_44 (by decide) ?_
    obtain rfl := Option.some.inj h
    exact hend _ _ _ _ dX7_unfit_47 rfl hP hS
  · have h := ite_f hc h
    refine lv_aload_n hx hb dX7_unfit_8 rfl (lv_at hl 0 rfl) ?_
    refine lv_bipush (v := (61 : Int32)) hx hb dX7_unfit_9 (by decide) ?_
    obtain ⟨r11, hcal, h⟩ := bnd_s h
    refine x_VI (As := [.int (61 : Int32)]) hx hb hml hown hts hK hP hS (ct_X7_rowsIn l D a cA cT hI g (61 : Int32) r11 hcal) tM_0 (C := RX7) (F := TX7) (N := 18) rfl (g_V q813 q814 q38 q77 q815) yd_X7_rowsIn ⟨Nat.le_of_ble_eq_true rfl, Nat.le_of_ble_eq_true rfl⟩ [] rfl (Nat.le_of_ble_eq_true rfl) hl.1 ⟨Nat.le_refl _, Nat.le_refl _⟩ dX7_unfit_11 (fun H locs hP hS => ?_)
    refine lv_aload_n hx hb dX7_unfit_14 rfl (lv_at hl 0 rfl) ?_
    refine lv_bipush (v := (61 : Int32)) hx hb dX7_unfit_15 (by decide) ?_
    refine lv_aload_n hx hb dX7_unfit_17 rfl (lv_at hl 0 rfl) ?_
    refine x_getr hx hb hts inX7 hown hK hP tM_0 (C := RX7) (F := TX7) (N := 18) rfl 0 (by decide) q758 rfl 1 rfl dX7_unfit_18 ?_
    refine lv_sipush (v := (1265 : Int32)) hx hb dX7_unfit_21 (by decide) ?_
    refine lv_iload_n hx hb dX7_unfit_24 rfl (lv_at hl 1 rfl) ?_
    refine lv_iadd hx hb dX7_unfit_25 ?_
    obtain ⟨hz, h⟩ := ite_n h
    refine x_ald hx hb hK hP tM_1 hz dX7_unfit_26 ?_
    refine lv_aload_n hx hb dX7_unfit_27 rfl (lv_at hl 0 rfl) ?_
    refine x_getr hx hb hts inX7 hown hK hP tM_0 (C := RX7) (F := TX7) (N := 18) rfl 0 (by decide) q758 rfl 1 rfl dX7_unfit_28 ?_
    refine lv_sipush (v := (1325 : Int32)) hx hb dX7_unfit_31 (by decide) ?_
    refine lv_iload_n hx hb dX7_unfit_34 rfl (lv_at hl 1 rfl) ?_
    refine lv_iadd hx hb dX7_unfit_35 ?_
    obtain ⟨hz, h⟩ := ite_n h
    refine x_ald hx hb hK hP tM_1 hz dX7_unfit_36 ?_
    obtain ⟨r37, hcal, h⟩ := bnd_s h
    refine x_VI (As := [.int (61 : Int32), .int (g.1 1 ((1265 : Int32) + x0).toNatClampNeg), .int (g.1 1 ((1325 : Int32) + x0).toNatClampNeg)]) hx hb hml hown hts hK hP hS (ct_X7_rowsBetween l D a cA cT hI g (61 : Int32) (g.1 1 ((1265 : Int32) + x0).toNatClampNeg) (g.1 1 ((1325 : Int32) + x0).toNatClampNeg) r37 hcal) tM_0 (C := RX7) (F := TX7) (N := 18) rfl (g_V q847 q848 q44 q77 q849) yd_X7_rowsBetween ⟨Nat.le_of_ble_eq_true rfl, Nat.le_of_ble_eq_true rfl⟩ [.int r11] rfl (Nat.le_of_ble_eq_true rfl) hl.1 ⟨Nat.le_refl _, Nat.le_refl _⟩ dX7_unfit_37 (fun H locs hP hS => ?_)
    refine lv_isub hx hb dX7_unfit_40 ?_
    refine lv_goto (tgt := 47) hx hb dX7_unfit_41 (by decide) ?_
    obtain rfl := Option.some.inj h
    exact hend _ _ _ _ dX7_unfit_47 rfl hP hS
set_option maxHeartbeats 4000000 in
set_option maxRecDepth 100000 in
theorem ct_X7_bestSplit (l : Launch) (D : va_G) (a : Nat → Nat) (cA cT : ClassId) (hI : WI a TM) (g : MG) (x0 : Int32)  (r : Int32) (h : m_X7_bestSplit g x0 = some r) :
    CtI l D a cA cT TM yX7_bestSplit (Cond.code yX7_bestSplit cX7_bestSplit 7 (some .int) :: lw_all) (rmm 2 47) [.ref (a 0), .int x0] g r g := by
  refine CtI.of (by decide +kernel) (Nat.le_of_ble_eq_true rfl) ?_
  intro p e s m args below meth c Q ls hx hb hml hown hts hK hP hS hl hend
  have hl : lv_has ls 7 [(0, .ref (a 0)), (1, .int x0)] := hl
  unfold m_X7_bestSplit at h
  refine lv_aload_n hx hb dX7_bestSplit_0 rfl (lv_at hl 0 rfl) ?_
  refine lv_iload_n hx hb dX7_bestSplit_1 rfl (lv_at hl 1 rfl) ?_
  obtain ⟨r2, hcal, h⟩ := bnd_s h
  refine x_VI (As := [.int x0]) hx hb hml hown hts hK hP hS (ct_X7_isSlice l D a cA cT hI g x0 r2 hcal) tM_0 (C := RX7) (F := TX7) (N := 18) rfl (g_V q807 q808 q36 q77 q809) yd_X7_isSlice ⟨Nat.le_of_ble_eq_true rfl, Nat.le_of_ble_eq_true rfl⟩ [] rfl (Nat.le_of_ble_eq_true rfl) hl.1 ⟨Nat.le_refl _, Nat.le_refl _⟩ dX7_bestSplit_2 (fun H locs hP hS => ?_)
  refine lv_if_ne (tgt := 12) hx hb dX7_bestSplit_5 (by decide) (fun hc => ?_) (fun hc => ?_)
  · have h := ite_f hc h
    refine lv_sipush (v := (-1005 : Int32)) hx hb dX7_bestSplit_12 (by decide) ?_
    refine lv_istore_n (lv' := [(2, .int (-1005 : Int32)), (0, .ref (a 0)), (1, .int x0)]) hx hb dX7_bestSplit_15 rfl hl (by decide) rfl (fun ls hl => ?_)
    refine lv_iconst (v := (0 : Int32)) hx hb dX7_bestSplit_16 (by decide) ?_
    refine lv_istore_n (lv' := [(3, .int (0 : Int32)), (2, .int (-1005 : Int32)), (0, .ref (a 0)), (1, .int x0)]) hx hb dX7_bestSplit_17 rfl hl (by decide) rfl (fun ls hl => ?_)
    refine lv_aload_n hx hb dX7_bestSplit_18 rfl (lv_at hl 2 rfl) ?_
    refine lv_iload_n hx hb dX7_bestSplit_19 rfl (lv_at hl 3 rfl) ?_
    obtain ⟨r20, hcal, h⟩ := bnd_s h
    refine x_VI (As := [.int x0]) hx hb hml hown hts hK hP hS (ct_X7_rowsIn l D a cA cT hI g x0 r20 hcal) tM_0 (C := RX7) (F := TX7) (N := 18) rfl (g_V q813 q814 q38 q77 q815) yd_X7_rowsIn ⟨Nat.le_of_ble_eq_true rfl, Nat.le_of_ble_eq_true rfl⟩ [] rfl (Nat.le_of_ble_eq_true rfl) hl.1 ⟨Nat.le_refl _, Nat.le_refl _⟩ dX7_bestSplit_20 (fun H locs hP hS => ?_)
    refine lv_istore (lv' := [(4, .int r20), (3, .int (0 : Int32)), (2, .int (-1005 : Int32)), (0, .ref (a 0)), (1, .int x0)]) hx hb dX7_bestSplit_23 hl (by decide) rfl (fun ls hl => ?_)
    refine lv_aload_n hx hb dX7_bestSplit_25 rfl (lv_at hl 3 rfl) ?_
    refine x_getr hx hb hts inX7 hown hK hP tM_0 (C := RX7) (F := TX7) (N := 18) rfl 0 (by decide) q758 rfl 1 rfl dX7_bestSplit_26 ?_
    refine lv_sipush (v := (1265 : Int32)) hx hb dX7_bestSplit_29 (by decide) ?_
    refine lv_iload_n hx hb dX7_bestSplit_32 rfl (lv_at hl 4 rfl) ?_
    refine lv_iadd hx hb dX7_bestSplit_33 ?_
    obtain ⟨hz, h⟩ := ite_n h
    refine x_ald hx hb hK hP tM_1 hz dX7_bestSplit_34 ?_
    refine lv_iconst (v := (1 : Int32)) hx hb dX7_bestSplit_35 (by decide) ?_
    refine lv_iadd hx hb dX7_bestSplit_36 ?_
    refine lv_istore (lv' := [(5, .int ((g.1 1 ((1265 : Int32) + x0).toNatClampNeg) + (1 : Int32))), (4, .int r20), (3, .int (0 : Int32)), (2, .int (-1005 : Int32)), (0, .ref (a 0)), (1, .int x0)]) hx hb dX7_bestSplit_37 hl (by decide) rfl (fun ls hl => ?_)
    have K39 : ∀ (n39 : Nat) (v2 : Int32) (v3 : Int32) (v5 : Int32) (H : Heap) (locs : List Loc) (ls : Array Slot), WP D a cA cT TM g H → va_S (AA a TM) s.heap H locs → lv_has ls 7 [(0, .ref (a 0)), (1, .int x0), (2, .int v2), (3, .int v3), (4, .int r20), (5, .int v5)] → lpo (b_X7_bestSplit_L39 g x0 r20) n39 (v2, v3, v5) = some r → W p l e (rmm 2 47) s m args below meth c H locs 0 0 Q (F0 m 39 ls []) := by
      intro n39
      induction n39 with
      | zero => intro v2 v3 v5 H locs ls hP hS hl h; exact (lpo_0 h).elim
      | succ n39 ih39 =>
        intro v2 v3 v5 H locs ls hP hS hl h
        have h : m_X7_bestSplit_L39 (lpo (b_X7_bestSplit_L39 g x0 r20) n39) g x0 r20 v2 v3 v5 = some r := h
        unfold m_X7_bestSplit_L39 at h
        refine lv_iload hx hb dX7_bestSplit_39 (lv_at hl 5 rfl) ?_
        refine lv_aload_n hx hb dX7_bestSplit_41 rfl (lv_at hl 0 rfl) ?_
        refine x_getr hx hb hts inX7 hown hK hP tM_0 (C := RX7) (F := TX7) (N := 18) rfl 0 (by decide) q758 rfl 1 rfl dX7_bestSplit_42 ?_
        refine lv_sipush (v := (1325 : Int32)) hx hb dX7_bestSplit_45 (by decide) ?_
        refine lv_iload_n hx hb dX7_bestSplit_48 rfl (lv_at hl 1 rfl) ?_
        refine lv_iadd hx hb dX7_bestSplit_49 ?_
        obtain ⟨hz, h⟩ := ite_n h
        refine x_ald hx hb hK hP tM_1 hz dX7_bestSplit_50 ?_
        refine lv_icmp_ge (tgt := 97) hx hb dX7_bestSplit_51 (by decide) (fun hc => ?_) (fun hc => ?_)
        · have h := ite_t hc h
          refine lv_iload_n hx hb dX7_bestSplit_97 rfl (lv_at hl 2 rfl) ?_
          obtain rfl := Option.some.inj h
          exact hend _ _ _ _ dX7_bestSplit_98 rfl hP hS
        · have h := ite_f hc h
          refine lv_iload hx hb dX7_bestSplit_54 (lv_at hl 4 rfl) ?_
          refine lv_iconst (v := (2 : Int32)) hx hb dX7_bestSplit_56 (by decide) ?_
          refine lv_aload_n hx hb dX7_bestSplit_57 rfl (lv_at hl 0 rfl) ?_
          refine lv_iload_n hx hb dX7_bestSplit_58 rfl (lv_at hl 1 rfl) ?_
          refine lv_iconst (v := (0 : Int32)) hx hb dX7_bestSplit_59 (by decide) ?_
          refine lv_iload hx hb dX7_bestSplit_60 (lv_at hl 5 rfl) ?_
          obtain ⟨r62, hcal, h⟩ := bnd_s h
          refine x_VI (As := [.int x0, .int (0 : Int32), .int v5]) hx hb hml hown hts hK hP hS (ct_X7_rowsBetween l D a cA cT hI g x0 (0 : Int32) v5 r62 hcal) tM_0 (C := RX7) (F := TX7) (N := 18) rfl (g_V q847 q848 q44 q77 q849) yd_X7_rowsBetween ⟨Nat.le_of_ble_eq_true rfl, Nat.le_of_ble_eq_true rfl⟩ [.int (2 : Int32), .int r20] rfl (Nat.le_of_ble_eq_true rfl) hl.1 ⟨Nat.le_refl _, Nat.le_refl _⟩ dX7_bestSplit_62 (fun H locs hP hS => ?_)
          refine lv_imul hx hb dX7_bestSplit_65 ?_
          refine lv_isub hx hb dX7_bestSplit_66 ?_
          obtain ⟨r67, hcal, h⟩ := bnd_s h
          refine x_SI (As := [.int (r20 - ((2 : Int32) * r62))]) hx hb hml hown hts hK hP hS (ct_X7_abs l D a cA cT hI g (r20 - ((2 : Int32) * r62)) r67 hcal) (g_S q1049 q1050 q77 q1051) yd_X7_abs ⟨Nat.le_of_ble_eq_true rfl, Nat.le_of_ble_eq_true rfl⟩ [] rfl (Nat.le_of_ble_eq_true rfl) hl.1 ⟨Nat.le_refl _, Nat.le_refl _⟩ dX7_bestSplit_67 (fun H locs hP hS => ?_)
          refine lv_istore (lv' := [(6, .int r67), (0, .ref (a 0)), (1, .int x0), (2, .int v2), (3, .int v3), (4, .int r20), (5, .int v5)]) hx hb dX7_bestSplit_70 hl (by decide) rfl (fun ls hl => ?_)
          refine lv_iload_n hx hb dX7_bestSplit_72 rfl (lv_at hl 3 rfl) ?_
          refine lv_sipush (v := (-1005 : Int32)) hx hb dX7_bestSplit_73 (by decide) ?_
          refine lv_icmp_eq (tgt := 85) hx hb dX7_bestSplit_76 (by decide) (fun hc => ?_) (fun hc => ?_)
          · have h := ite_t hc h
            refine lv_iload hx hb dX7_bestSplit_85 (lv_at hl 6 rfl) ?_
            refine lv_istore_n (lv' := [(2, .int v5), (6, .int r67), (0, .ref (a 0)), (1, .int x0), (3, .int v3), (4, .int r20), (5, .int v5)]) hx hb dX7_bestSplit_87 rfl hl (by decide) rfl (fun ls hl => ?_)
            refine lv_iload hx hb dX7_bestSplit_88 (lv_at hl 1 rfl) ?_
            refine lv_istore_n (lv' := [(3, .int r67), (2, .int v5), (6, .int r67), (0, .ref (a 0)), (1, .int x0), (4, .int r20), (5, .int v5)]) hx hb dX7_bestSplit_90 rfl hl (by decide) rfl (fun ls hl => ?_)
            refine lv_iinc (v := (v5 + (1 : Int32))) (lv' := [(5, .int (v5 + (1 : Int32))), (3, .int r67), (2, .int v5), (6, .int r67), (0, .ref (a 0)), (1, .int x0), (4, .int r20)]) hx hb dX7_bestSplit_91 hl (k := 6) rfl rfl (by decide) rfl (fun ls hl => ?_)
            refine lv_goto (tgt := 39) hx hb dX7_bestSplit_94 (by decide) ?_
            exact ih39 v5 r67 (v5 + (1 : Int32)) _ _ _ hP hS (lv_sub hl [4, 5, 2, 1, 6, 0] rfl) h
          · have h := ite_f hc h
            refine lv_iload hx hb dX7_bestSplit_79 (lv_at hl 0 rfl) ?_
            refine lv_iload_n hx hb dX7_bestSplit_81 rfl (lv_at hl 4 rfl) ?_
            refine lv_icmp_ge (tgt := 91) hx hb dX7_bestSplit_82 (by decide) (fun hc => ?_) (fun hc => ?_)
            · have h := ite_t hc h
              refine lv_iinc (v := (v5 + (1 : Int32))) (lv' := [(5, .int (v5 + (1 : Int32))), (6, .int r67), (0, .ref (a 0)), (1, .int x0), (2, .int v2), (3, .int v3), (4, .int r20)]) hx hb dX7_bestSplit_91 hl (k := 6) rfl rfl (by decide) rfl (fun ls hl => ?_)
              refine lv_goto (tgt := 39) hx hb dX7_bestSplit_94 (by decide) ?_
              exact ih39 v2 v3 (v5 + (1 : Int32)) _ _ _ hP hS (lv_sub hl [2, 3, 4, 5, 6, 0] rfl) h
            · have h := ite_f hc h
              refine lv_iload hx hb dX7_bestSplit_85 (lv_at hl 6 rfl) ?_
              refine lv_istore_n (lv' := [(2, .int v5), (6, .int r67), (0, .ref (a 0)), (1, .int x0), (3, .int v3), (4, .int r20), (5, .int v5)]) hx hb dX7_bestSplit_87 rfl hl (by decide) rfl (fun ls hl => ?_)
              refine lv_iload hx hb dX7_bestSplit_88 (lv_at hl 1 rfl) ?_
              refine lv_istore_n (lv' := [(3, .int r67), (2, .int v5), (6, .int r67), (0, .ref (a 0)), (1, .int x0), (4, .int r20), (5, .int v5)]) hx hb dX7_bestSplit_90 rfl hl (by decide) rfl (fun ls hl => ?_)
              refine lv_iinc (v := (v5 + (1 : Int32))) (lv' := [(5, .int (v5 + (1 : Int32))), (3, .int r67), (2, .int v5), (6, .int r67), (0, .ref (a 0)), (1, .int x0), (4, .int r20)]) hx hb dX7_bestSplit_91 hl (k := 6) rfl rfl (by decide) rfl (fun ls hl => ?_)
              refine lv_goto (tgt := 39) hx hb dX7_bestSplit_94 (by decide) ?_
              exact ih39 v5 r67 (v5 + (1 : Int32)) _ _ _ hP hS (lv_sub hl [4, 5, 2, 1, 6, 0] rfl) h
    exact K39 fuelN (-1005 : Int32) (0 : Int32) ((g.1 1 ((1265 : Int32) + x0).toNatClampNeg) + (1 : Int32)) _ _ _ hP hS (lv_sub hl [4, 5, 3, 2, 1, 0] rfl) h
  · have h := ite_t hc h
    refine lv_sipush (v := (-1001 : Int32)) hx hb dX7_bestSplit_8 (by decide) ?_
    obtain rfl := Option.some.inj h
    exact hend _ _ _ _ dX7_bestSplit_11 rfl hP hS
set_option maxHeartbeats 4000000 in
set_option maxRecDepth 100000 in
theorem ct_X7_heaviest (l : Launch) (D : va_G) (a : Nat → Nat) (cA cT : ClassId) (hI : WI a TM) (g : MG)   (r : Int32) (h : m_X7_heaviest g = some r) :
    CtI l D a cA cT TM yX7_heaviest (Cond.code yX7_heaviest cX7_heaviest 3 (some .int) :: lw_all) (rmm 2 43) [.ref (a 0)] g r g := by
  refine CtI.of (by decide +kernel) (Nat.le_of_ble_eq_true rfl) ?_
  intro p e s m args below meth c Q ls hx hb hml hown hts hK hP hS hl hend
  have hl : lv_has ls 3 [(0, .ref (a 0))] := hl
  unfold m_X7_heaviest at h
  refine lv_sipush (v := (-1005 : Int32)) hx hb dX7_heaviest_0 (by decide) ?_
  refine lv_istore_n (lv' := [(1, .int (-1005 : Int32)), (0, .ref (a 0))]) hx hb dX7_heaviest_3 rfl hl (by decide) rfl (fun ls hl => ?_)
  refine lv_iconst (v := (0 : Int32)) hx hb dX7_heaviest_4 (by decide) ?_
  refine lv_istore_n (lv' := [(2, .int (0 : Int32)), (1, .int (-1005 : Int32)), (0, .ref (a 0))]) hx hb dX7_heaviest_5 rfl hl (by decide) rfl (fun ls hl => ?_)
  have K6 : ∀ (n6 : Nat) (v1 : Int32) (v2 : Int32) (H : Heap) (locs : List Loc) (ls : Array Slot), WP D a cA cT TM g H → va_S (AA a TM) s.heap H locs → lv_has ls 3 [(0, .ref (a 0)), (1, .int v1), (2, .int v2)] → lpo (b_X7_heaviest_L6 g) n6 (v1, v2) = some r → W p l e (rmm 2 43) s m args below meth c H locs 0 0 Q (F0 m 6 ls []) := by
    intro n6
    induction n6 with
    | zero => intro v1 v2 H locs ls hP hS hl h; exact (lpo_0 h).elim
    | succ n6 ih6 =>
      intro v1 v2 H locs ls hP hS hl h
      have h : m_X7_heaviest_L6 (lpo (b_X7_heaviest_L6 g) n6) g v1 v2 = some r := h
      unfold m_X7_heaviest_L6 at h
      refine lv_iload_n hx hb dX7_heaviest_6 rfl (lv_at hl 2 rfl) ?_
      refine lv_aload_n hx hb dX7_heaviest_7 rfl (lv_at hl 0 rfl) ?_
      refine x_getr hx hb hts inX7 hown hK hP tM_0 (C := RX7) (F := TX7) (N := 18) rfl 0 (by decide) q758 rfl 1 rfl dX7_heaviest_8 ?_
      refine lv_iconst (v := (1 : Int32)) hx hb dX7_heaviest_11 (by decide) ?_
      obtain ⟨hz, h⟩ := ite_n h
      refine x_ald hx hb hK hP tM_1 hz dX7_heaviest_12 ?_
      refine lv_icmp_ge (tgt := 52) hx hb dX7_heaviest_13 (by decide) (fun hc => ?_) (fun hc => ?_)
      · have h := ite_t hc h
        refine lv_iload_n hx hb dX7_heaviest_52 rfl (lv_at hl 1 rfl) ?_
        obtain rfl := Option.some.inj h
        exact hend _ _ _ _ dX7_heaviest_53 rfl hP hS
      · have h := ite_f hc h
        refine lv_aload_n hx hb dX7_heaviest_16 rfl (lv_at hl 0 rfl) ?_
        refine lv_iload_n hx hb dX7_heaviest_17 rfl (lv_at hl 2 rfl) ?_
        obtain ⟨r18, hcal, h⟩ := bnd_s h
        refine x_VI (As := [.int v2]) hx hb hml hown hts hK hP hS (ct_X7_isSlice l D a cA cT hI g v2 r18 hcal) tM_0 (C := RX7) (F := TX7) (N := 18) rfl (g_V q807 q808 q36 q77 q809) yd_X7_isSlice ⟨Nat.le_of_ble_eq_true rfl, Nat.le_of_ble_eq_true rfl⟩ [] rfl (Nat.le_of_ble_eq_true rfl) hl.1 ⟨Nat.le_refl _, Nat.le_refl _⟩ dX7_heaviest_18 (fun H locs hP hS => ?_)
        refine lv_if_eq (tgt := 46) hx hb dX7_heaviest_21 (by decide) (fun hc => ?_) (fun hc => ?_)
        · have h := ite_t hc h
          refine lv_iinc (v := (v2 + (1 : Int32))) (lv' := [(2, .int (v2 + (1 : Int32))), (0, .ref (a 0)), (1, .int v1)]) hx hb dX7_heaviest_46 hl (k := 2) rfl rfl (by decide) rfl (fun ls hl => ?_)
          refine lv_goto (tgt := 6) hx hb dX7_heaviest_49 (by decide) ?_
          exact ih6 v1 (v2 + (1 : Int32)) _ _ _ hP hS (lv_sub hl [1, 2, 0] rfl) h
        · have h := ite_f hc h
          refine lv_iload_n hx hb dX7_heaviest_24 rfl (lv_at hl 1 rfl) ?_
          refine lv_sipush (v := (-1005 : Int32)) hx hb dX7_heaviest_25 (by decide) ?_
          refine lv_icmp_eq (tgt := 44) hx hb dX7_heaviest_28 (by decide) (fun hc => ?_) (fun hc => ?_)
          · have h := ite_t hc h
            refine lv_iload_n hx hb dX7_heaviest_44 rfl (lv_at hl 2 rfl) ?_
            refine lv_istore_n (lv' := [(1, .int v2), (0, .ref (a 0)), (2, .int v2)]) hx hb dX7_heaviest_45 rfl hl (by decide) rfl (fun ls hl => ?_)
            refine lv_iinc (v := (v2 + (1 : Int32))) (lv' := [(2, .int (v2 + (1 : Int32))), (1, .int v2), (0, .ref (a 0))]) hx hb dX7_heaviest_46 hl (k := 2) rfl rfl (by decide) rfl (fun ls hl => ?_)
            refine lv_goto (tgt := 6) hx hb dX7_heaviest_49 (by decide) ?_
            exact ih6 v2 (v2 + (1 : Int32)) _ _ _ hP hS (lv_sub hl [2, 1, 0] rfl) h
          · have h := ite_f hc h
            refine lv_aload_n hx hb dX7_heaviest_31 rfl (lv_at hl 0 rfl) ?_
            refine lv_iload_n hx hb dX7_heaviest_32 rfl (lv_at hl 2 rfl) ?_
            obtain ⟨r33, hcal, h⟩ := bnd_s h
            refine x_VI (As := [.int v2]) hx hb hml hown hts hK hP hS (ct_X7_rowsIn l D a cA cT hI g v2 r33 hcal) tM_0 (C := RX7) (F := TX7) (N := 18) rfl (g_V q813 q814 q38 q77 q815) yd_X7_rowsIn ⟨Nat.le_of_ble_eq_true rfl, Nat.le_of_ble_eq_true rfl⟩ [] rfl (Nat.le_of_ble_eq_true rfl) hl.1 ⟨Nat.le_refl _, Nat.le_refl _⟩ dX7_heaviest_33 (fun H locs hP hS => ?_)
            refine lv_aload_n hx hb dX7_heaviest_36 rfl (lv_at hl 0 rfl) ?_
            refine lv_iload_n hx hb dX7_heaviest_37 rfl (lv_at hl 1 rfl) ?_
            obtain ⟨r38, hcal, h⟩ := bnd_s h
            refine x_VI (As := [.int v1]) hx hb hml hown hts hK hP hS (ct_X7_rowsIn l D a cA cT hI g v1 r38 hcal) tM_0 (C := RX7) (F := TX7) (N := 18) rfl (g_V q813 q814 q38 q77 q815) yd_X7_rowsIn ⟨Nat.le_of_ble_eq_true rfl, Nat.le_of_ble_eq_true rfl⟩ [.int r33] rfl (Nat.le_of_ble_eq_true rfl) hl.1 ⟨Nat.le_refl _, Nat.le_refl _⟩ dX7_heaviest_38 (fun H locs hP hS => ?_)
            refine lv_icmp_le (tgt := 46) hx hb dX7_heaviest_41 (by decide) (fun hc => ?_) (fun hc => ?_)
            · have h := ite_t hc h
              refine lv_iinc (v := (v2 + (1 : Int32))) (lv' := [(2, .int (v2 + (1 : Int32))), (0, .ref (a 0)), (1, .int v1)]) hx hb dX7_heaviest_46 hl (k := 2) rfl rfl (by decide) rfl (fun ls hl => ?_)
              refine lv_goto (tgt := 6) hx hb dX7_heaviest_49 (by decide) ?_
              exact ih6 v1 (v2 + (1 : Int32)) _ _ _ hP hS (lv_sub hl [1, 2, 0] rfl) h
            · have h := ite_f hc h
              refine lv_iload_n hx hb dX7_heaviest_44 rfl (lv_at hl 2 rfl) ?_
              refine lv_istore_n (lv' := [(1, .int v2), (0, .ref (a 0)), (2, .int v2)]) hx hb dX7_heaviest_45 rfl hl (by decide) rfl (fun ls hl => ?_)
              refine lv_iinc (v := (v2 + (1 : Int32))) (lv' := [(2, .int (v2 + (1 : Int32))), (1, .int v2), (0, .ref (a 0))]) hx hb dX7_heaviest_46 hl (k := 2) rfl rfl (by decide) rfl (fun ls hl => ?_)
              refine lv_goto (tgt := 6) hx hb dX7_heaviest_49 (by decide) ?_
              exact ih6 v2 (v2 + (1 : Int32)) _ _ _ hP hS (lv_sub hl [2, 1, 0] rfl) h
  exact K6 fuelN (-1005 : Int32) (0 : Int32) _ _ _ hP hS (lv_sub hl [2, 1, 0] rfl) h
