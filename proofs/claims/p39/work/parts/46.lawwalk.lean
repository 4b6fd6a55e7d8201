set_option maxHeartbeats 4000000 in
set_option maxRecDepth 100000 in
theorem ct_L_cell (l : Launch) (b L : Nat) (xs : Nat → Int32) (k r : Int32) (h : m_L_cell L xs k = some r) : CtX l yL_cell (Cond.code yL_cell cL_cell 2 (some .int) :: lw_all) 0 0 b L xs k r := by
  refine Met.ofW (cc := cL_cell) (maxL := 2) (ret := some .int) (by decide +kernel) rfl ?_
  intro p e s m args below meth c s₁ B hml hv
  obtain ⟨rfl, hbl, hX⟩ := hv
  have hx := B.exec
  have hb := B.bytes
  have hr := B.returns
  have hlocks := B.notSynchronized
  have hts : ∀ w ∈ lw_all, w.before _ s = true := fun w hw => atoms_spec B.pre w (List.mem_cons_of_mem _ hw)
  have hown : s.vm.findClass RL = some m.cls := findClass_of_methodNamed B.named
  have hS : va_S (fun _ : Nat => False) s.heap s.heap [] := va_S.rf
  have hl := lv_entry ([.ref b, .int k]) (n := 2) (Nat.le_of_ble_eq_true rfl)
  rw [lg_entry_eq]
  generalize (lg_sl ([.ref b, .int k]) ++ List.replicate (2 - (lg_sl ([.ref b, .int k])).length) Slot.unset).toArray = ls at hl ⊢
  have hl : lv_has ls 2 [(0, .ref b), (1, .int k)] := hl
  unfold m_L_cell at h
  refine lv_iload_n hx hb dL_cell_0 rfl (lv_at hl 1 rfl) ?_
  refine lv_aload_n hx hb dL_cell_1 rfl (lv_at hl 0 rfl) ?_
  refine va_slen hx hb hX hbl (fun h => h) hS dL_cell_2 ?_
  refine lv_icmp_ge (tgt := 12) hx hb dL_cell_3 (by decide) (fun hc => ?_) (fun hc => ?_)
  · have h := ite_t hc h
    refine lv_ldc hx hb hown (hts _ q298) dL_cell_12 ?_
    refine lv_iload_n hx hb dL_cell_14 rfl (lv_at hl 1 rfl) ?_
    refine lv_imul hx hb dL_cell_15 ?_
    refine lv_sipush (v := (1889 : Int32)) hx hb dL_cell_16 (by decide) ?_
    refine lv_iadd hx hb dL_cell_19 ?_
    obtain rfl := Option.some.inj h
    exact W.iret hx hb hr (fun t ht hW => ⟨⟨_, (), rfl, rfl, trivial⟩, (va_S.rf (A := fun _ => False) (H0 := s.heap)).F ht⟩) (fun q hq => absurd hq List.not_mem_nil) dL_cell_20
  · have h := ite_f hc h
    obtain ⟨hz, h⟩ := ite_n h
    refine lv_aload_n hx hb dL_cell_6 rfl (lv_at hl 0 rfl) ?_
    refine lv_iload_n hx hb dL_cell_7 rfl (lv_at hl 1 rfl) ?_
    refine va_sld hx hb hX hbl (fun h => h) hS hz dL_cell_8 ?_
    refine lv_goto (tgt := 20) hx hb dL_cell_9 (by decide) ?_
    obtain rfl := Option.some.inj h
    exact W.iret hx hb hr (fun t ht hW => ⟨⟨_, (), rfl, rfl, trivial⟩, (va_S.rf (A := fun _ => False) (H0 := s.heap)).F ht⟩) (fun q hq => absurd hq List.not_mem_nil) dL_cell_20
set_option maxHeartbeats 4000000 in
set_option maxRecDepth 100000 in
theorem ct_L_same (l : Launch) (D : va_G) (cA cT : ClassId) (q1 q2 : Nat) (f1 f2 : Nat → Int32) (r : Int32) (h : m_L_same f1 f2 = some r) : CtS l D cA cT yL_same (Cond.code yL_same cL_same 3 (some .boolean) :: lw_all) 0 0 q1 q2 f1 f2 r := by
  refine Met.ofW (cc := cL_same) (maxL := 3) (ret := some .boolean) (by decide +kernel) rfl ?_
  intro p e s m args below meth c s₁ B hml hv
  obtain ⟨rfl, hW, hK⟩ := hv
  have hx := B.exec
  have hb := B.bytes
  have hr := B.returns
  have hlocks := B.notSynchronized
  have hl := lv_entry ([.ref q1, .ref q2]) (n := 3) (Nat.le_of_ble_eq_true rfl)
  rw [lg_entry_eq]
  generalize (lg_sl ([.ref q1, .ref q2]) ++ List.replicate (3 - (lg_sl ([.ref q1, .ref q2])).length) Slot.unset).toArray = ls at hl ⊢
  have hl : lv_has ls 3 [(0, .ref q1), (1, .ref q2)] := hl
  unfold m_L_same at h
  refine lv_iconst (v := (0 : Int32)) hx hb dL_same_0 (by decide) ?_
  refine lv_istore_n (lv' := [(2, .int (0 : Int32)), (0, .ref q1), (1, .ref q2)]) hx hb dL_same_1 rfl hl (by decide) rfl (fun ls hl => ?_)
  have K : ∀ (n2 : Nat) (v2 : Int32) (ls : Array Slot), lv_has ls 3 [(2, .int v2), (0, .ref q1), (1, .ref q2)] → lpo (b_L_same_L2 f1 f2) n2 v2 = some r → W p l e (rmm 0 0) s m #[Value.ref q1, Value.ref q2] below meth c s.heap [] 0 0 (MQ below (va_Qi (fun (x : Int32) (_ : Unit) => x = r) (fun _ _ => True) (fun _ => False)) #[Value.ref q1, Value.ref q2] s 0 0 (fun _ => False)) (F0 m 2 ls []) := by
    intro n2
    induction n2 with
    | zero => intro v2 ls hl h; exact (lpo_0 h).elim
    | succ n2 ih2 =>
      intro v2 ls hl h
      have h : m_L_same_L2 (lpo (b_L_same_L2 f1 f2) n2) f1 f2 v2 = some r := h
      unfold m_L_same_L2 at h
      refine lv_iload_n hx hb dL_same_2 rfl (lv_at hl 0 rfl) ?_
      refine lv_bipush (v := (64 : Int32)) hx hb dL_same_3 (by decide) ?_
      refine lv_icmp_ge (tgt := 25) hx hb dL_same_5 (by decide) (fun hc => ?_) (fun hc => ?_)
      · have h := ite_t hc h
        refine lv_iconst (v := (1 : Int32)) hx hb dL_same_25 (by decide) ?_
        obtain rfl := Option.some.inj h
        exact W.zret hx hb hr rfl (fun t ht hW => ⟨⟨_, (), rfl, rfl, trivial⟩, (va_S.rf (A := fun _ => False) (H0 := s.heap)).F ht⟩) (fun q hq => absurd hq List.not_mem_nil) dL_same_26
      · have h := ite_f hc h
        obtain ⟨hz, h⟩ := ite_n h
        refine lv_aload_n hx hb dL_same_8 rfl (lv_at hl 1 rfl) ?_
        refine lv_iload_n hx hb dL_same_9 rfl (lv_at hl 0 rfl) ?_
        refine va_iald hx hb hK hW 0 0 rfl rfl hz dL_same_10 ?_
        refine lv_aload_n hx hb dL_same_11 rfl (lv_at hl 2 rfl) ?_
        refine lv_iload_n hx hb dL_same_12 rfl (lv_at hl 0 rfl) ?_
        refine va_iald hx hb hK hW 1 0 rfl rfl hz dL_same_13 ?_
        refine lv_icmp_eq (tgt := 19) hx hb dL_same_14 (by decide) (fun hc => ?_) (fun hc => ?_)
        · have h := ite_t hc h
          refine lv_iinc (v := (v2 + (1 : Int32))) (lv' := [(2, .int (v2 + (1 : Int32))), (0, .ref q1), (1, .ref q2)]) hx hb dL_same_19 hl (k := 0) rfl rfl (by decide) rfl (fun ls hl => ?_)
          refine lv_goto (tgt := 2) hx hb dL_same_22 (by decide) ?_
          exact ih2 _ _ hl h
        · have h := ite_f hc h
          refine lv_iconst (v := (0 : Int32)) hx hb dL_same_17 (by decide) ?_
          obtain rfl := Option.some.inj h
          exact W.zret hx hb hr rfl (fun t ht hW => ⟨⟨_, (), rfl, rfl, trivial⟩, (va_S.rf (A := fun _ => False) (H0 := s.heap)).F ht⟩) (fun q hq => absurd hq List.not_mem_nil) dL_same_18
  exact K fuelN _ _ hl h
set_option maxHeartbeats 4000000 in
set_option maxRecDepth 100000 in
theorem ct_L_low (l : Launch) (D : va_G) (a : Nat → Nat) (cA cT : ClassId) (hI : WI a TC) (g : MG) (x0 : Int32) (x1 : Int32)  (r : Int32) (h : m_L_low g x0 x1 = some r) :
    CtI l D a cA cT TC yL_low (Cond.code yL_low cL_low 2 (some .int) :: lw_all) (rmm 0 0) [.int x0, .int x1] g r g := by
  refine CtI.of (by decide +kernel) (Nat.le_of_ble_eq_true rfl) ?_
  intro p e s m args below meth c Q ls hx hb hml hown hts hK hP hS hl hend
  have hl : lv_has ls 2 [(0, .int x0), (1, .int x1)] := hl
  unfold m_L_low at h
  refine lv_iload_n hx hb dL_low_0 rfl (lv_at hl 0 rfl) ?_
  refine lv_ldc hx hb hown (hts _ q302) dL_low_1 ?_
  refine lv_iand hx hb dL_low_3 ?_
  refine lv_iload_n hx hb dL_low_4 rfl (lv_at hl 1 rfl) ?_
  obtain ⟨hz, h⟩ := ite_n h
  refine lv_irem hx hb dL_low_5 hz ?_
  obtain rfl := Option.some.inj h
  exact hend _ _ _ _ dL_low_6 rfl hP hS
set_option maxHeartbeats 4000000 in
set_option maxRecDepth 100000 in
theorem ct_L_tell (l : Launch) (D : va_G) (a : Nat → Nat) (cA cT : ClassId) (hI : WI a TC) (g : MG) (r : Nat → Int32) (h : m_L_tell g = some r) :
    CtA l D a cA cT yL_tell (Cond.code yL_tell cL_tell 3 (some (.array .int)) :: lw_all) 7 150 [.ref (a 0)] g r := by
  refine CtA.of (by decide +kernel) (Nat.le_of_ble_eq_true rfl) ?_
  intro p e s m args below meth c Q ls hx hb hml hown hts hK hP hS hAA hA hl hend
  have hl : lv_has ls 3 [(0, .ref (a 0))] := hl
  unfold m_L_tell at h
  refine lv_bipush (v := (64 : Int32)) hx hb dL_tell_0 (by decide) ?_
  refine y_newa hx hb hts q70 hK hI hP hS hAA hA (by decide) rfl (Nat.le_refl _) (Nat.le_refl _) dL_tell_2 (fun qa H hP hW hS hqa hqA hqn => ?_)
  refine lv_astore_n (lv' := [(1, .ref qa), (0, .ref (a 0))]) hx hb dL_tell_4 rfl hl (by decide) rfl (fun ls hl => ?_)
  refine lv_iconst (v := (0 : Int32)) hx hb dL_tell_5 (by decide) ?_
  refine lv_istore_n (lv' := [(2, .int (0 : Int32)), (1, .ref qa), (0, .ref (a 0))]) hx hb dL_tell_6 rfl hl (by decide) rfl (fun ls hl => ?_)
  have K7 : ∀ (n7 : Nat) (v2 : Int32) (f7 : Nat → Int32) (H : Heap) (locs : List Loc) (ls : Array Slot), WP D a cA cT TC g H → va_P D vwCl [ar cA qa f7] H → va_S (An2 a s.heap.size) s.heap H locs → lv_has ls 3 [(0, .ref (a 0)), (1, .ref qa), (2, .int v2)] → lpo (b_L_tell_L7 g) n7 (v2, f7) = some r → W p l e (rma 7 150) s m args below meth c H locs 1 64 Q (F0 m 7 ls []) := by
    intro n7
    induction n7 with
    | zero => intro v2 f7 H locs ls hP hW hS hl h; exact (lpo_0 h).elim
    | succ n7 ih7 =>
      intro v2 f7 H locs ls hP hW hS hl h
      have h : m_L_tell_L7 (lpo (b_L_tell_L7 g) n7) g v2 f7 = some r := h
      unfold m_L_tell_L7 at h
      refine lv_iload_n hx hb dL_tell_7 rfl (lv_at hl 2 rfl) ?_
      refine lv_bipush (v := (11 : Int32)) hx hb dL_tell_8 (by decide) ?_
      refine lv_icmp_ge (tgt := 27) hx hb dL_tell_10 (by decide) (fun hc => ?_) (fun hc => ?_)
      · have h := ite_t hc h
        refine lv_iconst (v := (0 : Int32)) hx hb dL_tell_27 (by decide) ?_
        refine lv_istore_n (lv' := [(2, .int (0 : Int32)), (0, .ref (a 0)), (1, .ref qa)]) hx hb dL_tell_28 rfl hl (by decide) rfl (fun ls hl => ?_)
        have K29 : ∀ (n29 : Nat) (v2 : Int32) (f29 : Nat → Int32) (H : Heap) (locs : List Loc) (ls : Array Slot), WP D a cA cT TC g H → va_P D vwCl [ar cA qa f29] H → va_S (An2 a s.heap.size) s.heap H locs → lv_has ls 3 [(0, .ref (a 0)), (1, .ref qa), (2, .int v2)] → lpo (b_L_tell_L29 g) n29 (v2, f29) = some r → W p l e (rma 7 150) s m args below meth c H locs 1 64 Q (F0 m 29 ls []) := by
          intro n29
          induction n29 with
          | zero => intro v2 f29 H locs ls hP hW hS hl h; exact (lpo_0 h).elim
          | succ n29 ih29 =>
            intro v2 f29 H locs ls hP hW hS hl h
            have h : m_L_tell_L29 (lpo (b_L_tell_L29 g) n29) g v2 f29 = some r := h
            unfold m_L_tell_L29 at h
            refine lv_iload_n hx hb dL_tell_29 rfl (lv_at hl 2 rfl) ?_
            refine lv_bipush (v := (50 : Int32)) hx hb dL_tell_30 (by decide) ?_
            refine lv_icmp_ge (tgt := 63) hx hb dL_tell_32 (by decide) (fun hc => ?_) (fun hc => ?_)
            · have h := ite_t hc h
              refine lv_aload_n hx hb dL_tell_63 rfl (lv_at hl 1 rfl) ?_
              obtain rfl := Option.some.inj h
              exact hend _ _ _ _ _ dL_tell_64 hP hW hqn hS
            · have h := ite_f hc h
              refine lv_aload_n hx hb dL_tell_35 rfl (lv_at hl 1 rfl) ?_
              refine lv_bipush (v := (11 : Int32)) hx hb dL_tell_36 (by decide) ?_
              refine lv_iload_n hx hb dL_tell_38 rfl (lv_at hl 2 rfl) ?_
              refine lv_iadd hx hb dL_tell_39 ?_
              refine lv_bipush (v := (100 : Int32)) hx hb dL_tell_40 (by decide) ?_
              refine lv_aload_n hx hb dL_tell_42 rfl (lv_at hl 0 rfl) ?_
              refine lv_iload_n hx hb dL_tell_43 rfl (lv_at hl 2 rfl) ?_
              refine lv_iconst (v := (0 : Int32)) hx hb dL_tell_44 (by decide) ?_
              obtain ⟨r45, hcal, h⟩ := bnd_s h
              refine y_VI (s := s) (As := [.int v2, .int (0 : Int32)]) hx hb hml hown hts hK hP hS hAA hW (ap_c hqa ap_0) (ct_X6_row l D a cA cT hI g v2 (0 : Int32) r45 hcal) tF_0 (C := RX6) (F := TX6) (N := 5) rfl (g_V q306 q307 q308 q35 q309) yd_X6_row ⟨Nat.le_of_ble_eq_true rfl, Nat.le_of_ble_eq_true rfl⟩ [.int (100 : Int32), .int ((11 : Int32) + v2), .ref qa] rfl (Nat.le_of_ble_eq_true rfl) hl.1 ⟨Nat.le_refl _, Nat.le_refl _⟩ dL_tell_45 (fun H locs hP hW hS => ?_)
              refine lv_imul hx hb dL_tell_48 ?_
              refine lv_aload_n hx hb dL_tell_49 rfl (lv_at hl 0 rfl) ?_
              refine lv_iload_n hx hb dL_tell_50 rfl (lv_at hl 2 rfl) ?_
              refine lv_iconst (v := (2 : Int32)) hx hb dL_tell_51 (by decide) ?_
              obtain ⟨r52, hcal, h⟩ := bnd_s h
              refine y_VI (s := s) (As := [.int v2, .int (2 : Int32)]) hx hb hml hown hts hK hP hS hAA hW (ap_c hqa ap_0) (ct_X6_row l D a cA cT hI g v2 (2 : Int32) r52 hcal) tF_0 (C := RX6) (F := TX6) (N := 5) rfl (g_V q306 q307 q308 q35 q309) yd_X6_row ⟨Nat.le_of_ble_eq_true rfl, Nat.le_of_ble_eq_true rfl⟩ [.int ((100 : Int32) * r45), .int ((11 : Int32) + v2), .ref qa] rfl (Nat.le_of_ble_eq_true rfl) hl.1 ⟨Nat.le_refl _, Nat.le_refl _⟩ dL_tell_52 (fun H locs hP hW hS => ?_)
              refine lv_iadd hx hb dL_tell_55 ?_
              obtain ⟨hz, h⟩ := ite_n h
              refine y_ast hx hb hK hI hP hS hAA hW hqa hqA hz dL_tell_56 (fun H locs hP hW hS => ?_)
              refine lv_iinc (v := (v2 + (1 : Int32))) (lv' := [(2, .int (v2 + (1 : Int32))), (0, .ref (a 0)), (1, .ref qa)]) hx hb dL_tell_57 hl (k := 2) rfl rfl (by decide) rfl (fun ls hl => ?_)
              refine lv_goto (tgt := 29) hx hb dL_tell_60 (by decide) ?_
              exact ih29 (v2 + (1 : Int32)) (upd f29 ((11 : Int32) + v2).toNatClampNeg (((100 : Int32) * r45) + r52)) _ _ _ hP hW hS (lv_sub hl [1, 2, 0] rfl) h
        exact K29 fuelN (0 : Int32) f7 _ _ _ hP hW hS (lv_sub hl [1, 2, 0] rfl) h
      · have h := ite_f hc h
        refine lv_aload_n hx hb dL_tell_13 rfl (lv_at hl 1 rfl) ?_
        refine lv_iload_n hx hb dL_tell_14 rfl (lv_at hl 2 rfl) ?_
        refine lv_aload_n hx hb dL_tell_15 rfl (lv_at hl 0 rfl) ?_
        refine lv_iload_n hx hb dL_tell_16 rfl (lv_at hl 2 rfl) ?_
        obtain ⟨r17, hcal, h⟩ := bnd_s h
        refine y_VI (s := s) (As := [.int v2]) hx hb hml hown hts hK hP hS hAA hW (ap_c hqa ap_0) (ct_X6_count l D a cA cT hI g v2 r17 hcal) tF_0 (C := RX6) (F := TX6) (N := 5) rfl (g_V q212 q213 q214 q35 q215) yd_X6_count ⟨Nat.le_of_ble_eq_true rfl, Nat.le_of_ble_eq_true rfl⟩ [.int v2, .ref qa] rfl (Nat.le_of_ble_eq_true rfl) hl.1 ⟨Nat.le_refl _, Nat.le_refl _⟩ dL_tell_17 (fun H locs hP hW hS => ?_)
        obtain ⟨hz, h⟩ := ite_n h
        refine y_ast hx hb hK hI hP hS hAA hW hqa hqA hz dL_tell_20 (fun H locs hP hW hS => ?_)
        refine lv_iinc (v := (v2 + (1 : Int32))) (lv' := [(2, .int (v2 + (1 : Int32))), (0, .ref (a 0)), (1, .ref qa)]) hx hb dL_tell_21 hl (k := 2) rfl rfl (by decide) rfl (fun ls hl => ?_)
        refine lv_goto (tgt := 7) hx hb dL_tell_24 (by decide) ?_
        exact ih7 (v2 + (1 : Int32)) (upd f7 v2.toNatClampNeg r17) _ _ _ hP hW hS (lv_sub hl [1, 2, 0] rfl) h
  exact K7 fuelN (0 : Int32) (fun _ => 0) _ _ _ hP hW hS (lv_sub hl [2, 1, 0] rfl) h
set_option maxHeartbeats 4000000 in
set_option maxRecDepth 100000 in
theorem ct_L_place (l : Launch) (D : va_G) (a : Nat → Nat) (cA cT : ClassId) (hI : WI a TC) (g : MG) (x1 : Int32)  (r : Int32) (h : m_L_place g x1 = some r) :
    CtI l D a cA cT TC yL_place (Cond.code yL_place cL_place 11 (some .boolean) :: lw_all) (rmm 7 153) [.ref (a 0), .int x1] g r g := by
  refine CtI.of (by decide +kernel) (Nat.le_of_ble_eq_true rfl) ?_
  intro p e s m args below meth c Q ls hx hb hml hown hts hK hP hS hl hend
  have hl : lv_has ls 11 [(0, .ref (a 0)), (1, .int x1)] := hl
  unfold m_L_place at h
  have J242 : ∀ (v5 : Int32) (v6 : Int32) (w0 : Int32) (w1 : Int32) (H : Heap) (locs : List Loc) (ls : Array Slot), WP D a cA cT TC g H → va_S (AA a TC) s.heap H locs → lv_has ls 11 [(0, .ref (a 0)), (1, .int x1), (5, .int v5), (6, .int v6)] → m_L_place_J242 x1 g v5 v6 w0 w1 = some r → W p l e (rmm 7 153) s m args below meth c H locs 0 0 Q (F0 m 242 ls [.int w1, .int w0]) := by
    intro v5 v6 w0 w1 H locs ls hP hS hl h
    unfold m_L_place_J242 at h
    refine lv_icmp_ne (tgt := 272) hx hb dL_place_242 (by decide) (fun hc => ?_) (fun hc => ?_)
    · have h := ite_f hc h
      refine lv_iconst (v := (0 : Int32)) hx hb dL_place_272 (by decide) ?_
      obtain rfl := Option.some.inj h
      exact hend _ _ _ _ dL_place_273 rfl hP hS
    · have h := ite_t hc h
      refine lv_aload_n hx hb dL_place_245 rfl (lv_at hl 0 rfl) ?_
      refine lv_iload_n hx hb dL_place_246 rfl (lv_at hl 1 rfl) ?_
      refine lv_iconst (v := (5 : Int32)) hx hb dL_place_247 (by decide) ?_
      obtain ⟨r248, hcal, h⟩ := bnd_s h
      refine x_VI (As := [.int x1, .int (5 : Int32)]) hx hb hml hown hts hK hP hS (ct_X6_slice l D a cA cT hI g x1 (5 : Int32) r248 hcal) tF_0 (C := RX6) (F := TX6) (N := 5) rfl (g_V q328 q329 q330 q35 q331) yd_X6_slice ⟨Nat.le_of_ble_eq_true rfl, Nat.le_of_ble_eq_true rfl⟩ [] rfl (Nat.le_of_ble_eq_true rfl) hl.1 ⟨Nat.le_refl _, Nat.le_refl _⟩ dL_place_248 (fun H locs hP hS => ?_)
      refine lv_iload hx hb dL_place_251 (lv_at hl 2 rfl) ?_
      refine lv_icmp_ne (tgt := 272) hx hb dL_place_253 (by decide) (fun hc => ?_) (fun hc => ?_)
      · have h := ite_f hc h
        refine lv_iconst (v := (0 : Int32)) hx hb dL_place_272 (by decide) ?_
        obtain rfl := Option.some.inj h
        exact hend _ _ _ _ dL_place_273 rfl hP hS
      · have h := ite_t hc h
        refine lv_aload_n hx hb dL_place_256 rfl (lv_at hl 0 rfl) ?_
        refine lv_iload_n hx hb dL_place_257 rfl (lv_at hl 1 rfl) ?_
        refine lv_bipush (v := (6 : Int32)) hx hb dL_place_258 (by decide) ?_
        obtain ⟨r260, hcal, h⟩ := bnd_s h
        refine x_VI (As := [.int x1, .int (6 : Int32)]) hx hb hml hown hts hK hP hS (ct_X6_slice l D a cA cT hI g x1 (6 : Int32) r260 hcal) tF_0 (C := RX6) (F := TX6) (N := 5) rfl (g_V q328 q329 q330 q35 q331) yd_X6_slice ⟨Nat.le_of_ble_eq_true rfl, Nat.le_of_ble_eq_true rfl⟩ [] rfl (Nat.le_of_ble_eq_true rfl) hl.1 ⟨Nat.le_refl _, Nat.le_refl _⟩ dL_place_260 (fun H locs hP hS => ?_)
        refine lv_iload hx hb dL_place_263 (lv_at hl 3 rfl) ?_
        refine lv_icmp_ne (tgt := 272) hx hb dL_place_265 (by decide) (fun hc => ?_) (fun hc => ?_)
        · have h := ite_f hc h
          refine lv_iconst (v := (0 : Int32)) hx hb dL_place_272 (by decide) ?_
          obtain rfl := Option.some.inj h
          exact hend _ _ _ _ dL_place_273 rfl hP hS
        · have h := ite_t hc h
          refine lv_iconst (v := (1 : Int32)) hx hb dL_place_268 (by decide) ?_
          refine lv_goto (tgt := 273) hx hb dL_place_269 (by decide) ?_
          obtain rfl := Option.some.inj h
          exact hend _ _ _ _ dL_place_273 rfl hP hS
  have J200 : ∀ (v2 : Int32) (v3 : Int32) (v5 : Int32) (v6 : Int32) (w0 : Int32) (H : Heap) (locs : List Loc) (ls : Array Slot), WP D a cA cT TC g H → va_S (AA a TC) s.heap H locs → lv_has ls 11 [(0, .ref (a 0)), (1, .int x1), (2, .int v2), (3, .int v3), (5, .int v5), (6, .int v6)] → m_L_place_J200 x1 g v2 v3 v5 v6 w0 = some r → W p l e (rmm 7 153) s m args below meth c H locs 0 0 Q (F0 m 200 ls [.int w0]) := by
    intro v2 v3 v5 v6 w0 H locs ls hP hS hl h
    unfold m_L_place_J200 at h
    refine lv_istore (lv' := [(7, .int w0), (0, .ref (a 0)), (1, .int x1), (2, .int v2), (3, .int v3), (5, .int v5), (6, .int v6)]) hx hb dL_place_200 hl (by decide) rfl (fun ls hl => ?_)
    refine lv_aload_n hx hb dL_place_202 rfl (lv_at hl 1 rfl) ?_
    refine lv_iload_n hx hb dL_place_203 rfl (lv_at hl 2 rfl) ?_
    refine lv_iload_n hx hb dL_place_204 rfl (lv_at hl 3 rfl) ?_
    obtain ⟨r205, hcal, h⟩ := bnd_s h
    refine x_VI (As := [.int x1, .int v2]) hx hb hml hown hts hK hP hS (ct_X6_lies l D a cA cT hI g x1 v2 r205 hcal) tF_0 (C := RX6) (F := TX6) (N := 5) rfl (g_V q373 q374 q375 q35 q376) yd_X6_lies ⟨Nat.le_of_ble_eq_true rfl, Nat.le_of_ble_eq_true rfl⟩ [] rfl (Nat.le_of_ble_eq_true rfl) hl.1 ⟨Nat.le_refl _, Nat.le_refl _⟩ dL_place_205 (fun H locs hP hS => ?_)
    refine lv_sipush (v := (-1005 : Int32)) hx hb dL_place_208 (by decide) ?_
    refine lv_icmp_ne (tgt := 272) hx hb dL_place_211 (by decide) (fun hc => ?_) (fun hc => ?_)
    · have h := ite_f hc h
      refine lv_iconst (v := (0 : Int32)) hx hb dL_place_272 (by decide) ?_
      obtain rfl := Option.some.inj h
      exact hend _ _ _ _ dL_place_273 rfl hP hS
    · have h := ite_t hc h
      refine lv_aload_n hx hb dL_place_214 rfl (lv_at hl 1 rfl) ?_
      refine lv_iload_n hx hb dL_place_215 rfl (lv_at hl 2 rfl) ?_
      refine lv_iconst (v := (3 : Int32)) hx hb dL_place_216 (by decide) ?_
      obtain ⟨r217, hcal, h⟩ := bnd_s h
      refine x_VI (As := [.int x1, .int (3 : Int32)]) hx hb hml hown hts hK hP hS (ct_X6_slice l D a cA cT hI g x1 (3 : Int32) r217 hcal) tF_0 (C := RX6) (F := TX6) (N := 5) rfl (g_V q328 q329 q330 q35 q331) yd_X6_slice ⟨Nat.le_of_ble_eq_true rfl, Nat.le_of_ble_eq_true rfl⟩ [] rfl (Nat.le_of_ble_eq_true rfl) hl.1 ⟨Nat.le_refl _, Nat.le_refl _⟩ dL_place_217 (fun H locs hP hS => ?_)
      refine lv_iload hx hb dL_place_220 (lv_at hl 0 rfl) ?_
      refine lv_icmp_ne (tgt := 272) hx hb dL_place_222 (by decide) (fun hc => ?_) (fun hc => ?_)
      · have h := ite_f hc h
        refine lv_iconst (v := (0 : Int32)) hx hb dL_place_272 (by decide) ?_
        obtain rfl := Option.some.inj h
        exact hend _ _ _ _ dL_place_273 rfl hP hS
      · have h := ite_t hc h
        refine lv_aload_n hx hb dL_place_225 rfl (lv_at hl 1 rfl) ?_
        refine lv_iload_n hx hb dL_place_226 rfl (lv_at hl 2 rfl) ?_
        refine lv_iconst (v := (4 : Int32)) hx hb dL_place_227 (by decide) ?_
        obtain ⟨r228, hcal, h⟩ := bnd_s h
        refine x_VI (As := [.int x1, .int (4 : Int32)]) hx hb hml hown hts hK hP hS (ct_X6_slice l D a cA cT hI g x1 (4 : Int32) r228 hcal) tF_0 (C := RX6) (F := TX6) (N := 5) rfl (g_V q328 q329 q330 q35 q331) yd_X6_slice ⟨Nat.le_of_ble_eq_true rfl, Nat.le_of_ble_eq_true rfl⟩ [] rfl (Nat.le_of_ble_eq_true rfl) hl.1 ⟨Nat.le_refl _, Nat.le_refl _⟩ dL_place_228 (fun H locs hP hS => ?_)
        refine lv_iload_n hx hb dL_place_231 rfl (lv_at hl 3 rfl) ?_
        refine lv_if_ne (tgt := 241) hx hb dL_place_232 (by decide) (fun hc => ?_) (fun hc => ?_)
        · have h := ite_f hc h
          refine lv_iload_n hx hb dL_place_241 rfl (lv_at hl 4 rfl) ?_
          exact J242 v5 v6 r228 v3 _ _ _ hP hS (lv_sub hl [1, 2, 5, 6] rfl) h
        · have h := ite_t hc h
          refine lv_sipush (v := (-1005 : Int32)) hx hb dL_place_235 (by decide) ?_
          refine lv_goto (tgt := 242) hx hb dL_place_238 (by decide) ?_
          exact J242 v5 v6 r228 (-1005 : Int32) _ _ _ hP hS (lv_sub hl [1, 2, 5, 6] rfl) h
  refine lv_aload_n hx hb dL_place_0 rfl (lv_at hl 0 rfl) ?_
  refine lv_iload_n hx hb dL_place_1 rfl (lv_at hl 1 rfl) ?_
  refine lv_iconst (v := (2 : Int32)) hx hb dL_place_2 (by decide) ?_
  obtain ⟨r3, hcal, h⟩ := bnd_s h
  refine x_VI (As := [.int x1, .int (2 : Int32)]) hx hb hml hown hts hK hP hS (ct_X6_slice l D a cA cT hI g x1 (2 : Int32) r3 hcal) tF_0 (C := RX6) (F := TX6) (N := 5) rfl (g_V q328 q329 q330 q35 q331) yd_X6_slice ⟨Nat.le_of_ble_eq_true rfl, Nat.le_of_ble_eq_true rfl⟩ [] rfl (Nat.le_of_ble_eq_true rfl) hl.1 ⟨Nat.le_refl _, Nat.le_refl _⟩ dL_place_3 (fun H locs hP hS => ?_)
  refine lv_istore_n (lv' := [(2, .int r3), (0, .ref (a 0)), (1, .int x1)]) hx hb dL_place_6 rfl hl (by decide) rfl (fun ls hl => ?_)
  refine lv_iconst (v := (-1 : Int32)) hx hb dL_place_7 (by decide) ?_
  refine lv_istore_n (lv' := [(3, .int (-1 : Int32)), (2, .int r3), (0, .ref (a 0)), (1, .int x1)]) hx hb dL_place_8 rfl hl (by decide) rfl (fun ls hl => ?_)
  refine lv_iconst (v := (-1 : Int32)) hx hb dL_place_9 (by decide) ?_
  refine lv_istore (lv' := [(4, .int (-1 : Int32)), (3, .int (-1 : Int32)), (2, .int r3), (0, .ref (a 0)), (1, .int x1)]) hx hb dL_place_10 hl (by decide) rfl (fun ls hl => ?_)
  refine lv_iconst (v := (0 : Int32)) hx hb dL_place_12 (by decide) ?_
  refine lv_istore (lv' := [(5, .int (0 : Int32)), (4, .int (-1 : Int32)), (3, .int (-1 : Int32)), (2, .int r3), (0, .ref (a 0)), (1, .int x1)]) hx hb dL_place_13 hl (by decide) rfl (fun ls hl => ?_)
  refine lv_iconst (v := (0 : Int32)) hx hb dL_place_15 (by decide) ?_
  refine lv_istore (lv' := [(6, .int (0 : Int32)), (5, .int (0 : Int32)), (4, .int (-1 : Int32)), (3, .int (-1 : Int32)), (2, .int r3), (0, .ref (a 0)), (1, .int x1)]) hx hb dL_place_16 hl (by decide) rfl (fun ls hl => ?_)
  refine lv_iconst (v := (0 : Int32)) hx hb dL_place_18 (by decide) ?_
  refine lv_istore (lv' := [(7, .int (0 : Int32)), (6, .int (0 : Int32)), (5, .int (0 : Int32)), (4, .int (-1 : Int32)), (3, .int (-1 : Int32)), (2, .int r3), (0, .ref (a 0)), (1, .int x1)]) hx hb dL_place_19 hl (by decide) rfl (fun ls hl => ?_)
  have K21 : ∀ (n21 : Nat) (v3 : Int32) (v4 : Int32) (v5 : Int32) (v6 : Int32) (v7 : Int32) (H : Heap) (locs : List Loc) (ls : Array Slot), WP D a cA cT TC g H → va_S (AA a TC) s.heap H locs → lv_has ls 11 [(0, .ref (a 0)), (1, .int x1), (2, .int r3), (3, .int v3), (4, .int v4), (5, .int v5), (6, .int v6), (7, .int v7)] → lpo (b_L_place_L21 g x1 r3) n21 (v3, v4, v5, v6, v7) = some r → W p l e (rmm 7 153) s m args below meth c H locs 0 0 Q (F0 m 21 ls []) := by
    intro n21
    induction n21 with
    | zero => intro v3 v4 v5 v6 v7 H locs ls hP hS hl h; exact (lpo_0 h).elim
    | succ n21 ih21 =>
      intro v3 v4 v5 v6 v7 H locs ls hP hS hl h
      have h : m_L_place_L21 (lpo (b_L_place_L21 g x1 r3) n21) g x1 r3 v3 v4 v5 v6 v7 = some r := h
      unfold m_L_place_L21 at h
      have J151 : ∀ (v5 : Int32) (v7 : Int32) (v8 : Int32) (v9 : Int32) (w0 : Int32) (w1 : Int32) (H : Heap) (locs : List Loc) (ls : Array Slot), WP D a cA cT TC g H → va_S (AA a TC) s.heap H locs → lv_has ls 11 [(0, .ref (a 0)), (1, .int x1), (2, .int r3), (5, .int v5), (7, .int v7), (8, .int v8), (9, .int v9)] → m_L_place_J151 (lpo (b_L_place_L21 g x1 r3) n21) x1 g r3 v5 v7 v8 v9 w0 w1 = some r → W p l e (rmm 7 153) s m args below meth c H locs 0 0 Q (F0 m 151 ls [.int w1, .int w0]) := by
        intro v5 v7 v8 v9 w0 w1 H locs ls hP hS hl h
        unfold m_L_place_J151 at h
        refine lv_iadd hx hb dL_place_151 ?_
        refine lv_istore (lv' := [(6, .int (w0 + w1)), (0, .ref (a 0)), (1, .int x1), (2, .int r3), (5, .int v5), (7, .int v7), (8, .int v8), (9, .int v9)]) hx hb dL_place_152 hl (by decide) rfl (fun ls hl => ?_)
        refine lv_iload hx hb dL_place_154 (lv_at hl 4 rfl) ?_
        refine lv_aload_n hx hb dL_place_156 rfl (lv_at hl 1 rfl) ?_
        refine lv_iload hx hb dL_place_157 (lv_at hl 6 rfl) ?_
        refine lv_iconst (v := (1 : Int32)) hx hb dL_place_159 (by decide) ?_
        obtain ⟨r160, hcal, h⟩ := bnd_s h
        refine x_VI (As := [.int v8, .int (1 : Int32)]) hx hb hml hown hts hK hP hS (ct_X6_row l D a cA cT hI g v8 (1 : Int32) r160 hcal) tF_0 (C := RX6) (F := TX6) (N := 5) rfl (g_V q306 q307 q308 q35 q309) yd_X6_row ⟨Nat.le_of_ble_eq_true rfl, Nat.le_of_ble_eq_true rfl⟩ [.int v5] rfl (Nat.le_of_ble_eq_true rfl) hl.1 ⟨Nat.le_refl _, Nat.le_refl _⟩ dL_place_160 (fun H locs hP hS => ?_)
        refine lv_iadd hx hb dL_place_163 ?_
        refine lv_istore (lv' := [(5, .int (v5 + r160)), (6, .int (w0 + w1)), (0, .ref (a 0)), (1, .int x1), (2, .int r3), (7, .int v7), (8, .int v8), (9, .int v9)]) hx hb dL_place_164 hl (by decide) rfl (fun ls hl => ?_)
        refine lv_iload hx hb dL_place_166 (lv_at hl 7 rfl) ?_
        refine lv_istore_n (lv' := [(3, .int v9), (5, .int (v5 + r160)), (6, .int (w0 + w1)), (0, .ref (a 0)), (1, .int x1), (2, .int r3), (7, .int v7), (8, .int v8), (9, .int v9)]) hx hb dL_place_168 rfl hl (by decide) rfl (fun ls hl => ?_)
        refine lv_iload hx hb dL_place_169 (lv_at hl 7 rfl) ?_
        refine lv_istore (lv' := [(4, .int v8), (3, .int v9), (5, .int (v5 + r160)), (6, .int (w0 + w1)), (0, .ref (a 0)), (1, .int x1), (2, .int r3), (7, .int v7), (8, .int v8), (9, .int v9)]) hx hb dL_place_171 hl (by decide) rfl (fun ls hl => ?_)
        refine lv_iinc (v := (v7 + (1 : Int32))) (lv' := [(7, .int (v7 + (1 : Int32))), (4, .int v8), (3, .int v9), (5, .int (v5 + r160)), (6, .int (w0 + w1)), (0, .ref (a 0)), (1, .int x1), (2, .int r3), (8, .int v8), (9, .int v9)]) hx hb dL_place_173 hl (k := 7) rfl rfl (by decide) rfl (fun ls hl => ?_)
        refine lv_goto (tgt := 21) hx hb dL_place_176 (by decide) ?_
        exact ih21 v9 v8 (v5 + r160) (w0 + w1) (v7 + (1 : Int32)) _ _ _ hP hS (lv_sub hl [5, 6, 7, 2, 1, 3, 4, 0] rfl) h
      have J118 : ∀ (v5 : Int32) (v6 : Int32) (v7 : Int32) (v8 : Int32) (v9 : Int32) (v10 : Int32) (w0 : Int32) (w1 : Int32) (H : Heap) (locs : List Loc) (ls : Array Slot), WP D a cA cT TC g H → va_S (AA a TC) s.heap H locs → lv_has ls 11 [(0, .ref (a 0)), (1, .int x1), (2, .int r3), (5, .int v5), (6, .int v6), (7, .int v7), (8, .int v8), (9, .int v9), (10, .int v10)] → m_L_place_J118 (lpo (b_L_place_L21 g x1 r3) n21) x1 g r3 v5 v6 v7 v8 v9 v10 w0 w1 = some r → W p l e (rmm 7 153) s m args below meth c H locs 0 0 Q (F0 m 118 ls [.int w1, .int w0]) := by
        intro v5 v6 v7 v8 v9 v10 w0 w1 H locs ls hP hS hl h
        unfold m_L_place_J118 at h
        refine lv_icmp_ne (tgt := 137) hx hb dL_place_118 (by decide) (fun hc => ?_) (fun hc => ?_)
        · have h := ite_f hc h
          refine lv_iconst (v := (0 : Int32)) hx hb dL_place_137 (by decide) ?_
          obtain rfl := Option.some.inj h
          exact hend _ _ _ _ dL_place_138 rfl hP hS
        · have h := ite_t hc h
          refine lv_aload_n hx hb dL_place_121 rfl (lv_at hl 0 rfl) ?_
          refine lv_iload hx hb dL_place_122 (lv_at hl 6 rfl) ?_
          refine lv_iconst (v := (3 : Int32)) hx hb dL_place_124 (by decide) ?_
          obtain ⟨r125, hcal, h⟩ := bnd_s h
          refine x_VI (As := [.int v8, .int (3 : Int32)]) hx hb hml hown hts hK hP hS (ct_X6_row l D a cA cT hI g v8 (3 : Int32) r125 hcal) tF_0 (C := RX6) (F := TX6) (N := 5) rfl (g_V q306 q307 q308 q35 q309) yd_X6_row ⟨Nat.le_of_ble_eq_true rfl, Nat.le_of_ble_eq_true rfl⟩ [] rfl (Nat.le_of_ble_eq_true rfl) hl.1 ⟨Nat.le_refl _, Nat.le_refl _⟩ dL_place_125 (fun H locs hP hS => ?_)
          refine lv_aload_n hx hb dL_place_128 rfl (lv_at hl 0 rfl) ?_
          refine lv_iload hx hb dL_place_129 (lv_at hl 7 rfl) ?_
          obtain ⟨r131, hcal, h⟩ := bnd_s h
          refine x_VI (As := [.int v9]) hx hb hml hown hts hK hP hS (ct_X6_belongs l D a cA cT hI g v9 r131 hcal) tF_0 (C := RX6) (F := TX6) (N := 5) rfl (g_V q377 q378 q379 q35 q380) yd_X6_belongs ⟨Nat.le_of_ble_eq_true rfl, Nat.le_of_ble_eq_true rfl⟩ [.int r125] rfl (Nat.le_of_ble_eq_true rfl) hl.1 ⟨Nat.le_refl _, Nat.le_refl _⟩ dL_place_131 (fun H locs hP hS => ?_)
          refine lv_icmp_eq (tgt := 139) hx hb dL_place_134 (by decide) (fun hc => ?_) (fun hc => ?_)
          · have h := ite_t hc h
            refine lv_iload hx hb dL_place_139 (lv_at hl 4 rfl) ?_
            refine lv_iload hx hb dL_place_141 (lv_at hl 8 rfl) ?_
            refine lv_if_eq (tgt := 150) hx hb dL_place_143 (by decide) (fun hc => ?_) (fun hc => ?_)
            · have h := ite_t hc h
              refine lv_iconst (v := (0 : Int32)) hx hb dL_place_150 (by decide) ?_
              exact J151 v5 v7 v8 v9 v6 (0 : Int32) _ _ _ hP hS (lv_sub hl [0, 1, 2, 3, 5, 6, 7] rfl) h
            · have h := ite_f hc h
              refine lv_iconst (v := (1 : Int32)) hx hb dL_place_146 (by decide) ?_
              refine lv_goto (tgt := 151) hx hb dL_place_147 (by decide) ?_
              exact J151 v5 v7 v8 v9 v6 (1 : Int32) _ _ _ hP hS (lv_sub hl [0, 1, 2, 3, 5, 6, 7] rfl) h
          · have h := ite_f hc h
            refine lv_iconst (v := (0 : Int32)) hx hb dL_place_137 (by decide) ?_
            obtain rfl := Option.some.inj h
            exact hend _ _ _ _ dL_place_138 rfl hP hS
      have J99 : ∀ (v5 : Int32) (v6 : Int32) (v7 : Int32) (v8 : Int32) (v9 : Int32) (w0 : Int32) (H : Heap) (locs : List Loc) (ls : Array Slot), WP D a cA cT TC g H → va_S (AA a TC) s.heap H locs → lv_has ls 11 [(0, .ref (a 0)), (1, .int x1), (2, .int r3), (5, .int v5), (6, .int v6), (7, .int v7), (8, .int v8), (9, .int v9)] → m_L_place_J99 (lpo (b_L_place_L21 g x1 r3) n21) x1 g r3 v5 v6 v7 v8 v9 w0 = some r → W p l e (rmm 7 153) s m args below meth c H locs 0 0 Q (F0 m 99 ls [.int w0]) := by
        intro v5 v6 v7 v8 v9 w0 H locs ls hP hS hl h
        unfold m_L_place_J99 at h
        refine lv_istore (lv' := [(10, .int w0), (0, .ref (a 0)), (1, .int x1), (2, .int r3), (5, .int v5), (6, .int v6), (7, .int v7), (8, .int v8), (9, .int v9)]) hx hb dL_place_99 hl (by decide) rfl (fun ls hl => ?_)
        refine lv_aload_n hx hb dL_place_101 rfl (lv_at hl 1 rfl) ?_
        refine lv_iload hx hb dL_place_102 (lv_at hl 7 rfl) ?_
        refine lv_iconst (v := (4 : Int32)) hx hb dL_place_104 (by decide) ?_
        obtain ⟨r105, hcal, h⟩ := bnd_s h
        refine x_VI (As := [.int v8, .int (4 : Int32)]) hx hb hml hown hts hK hP hS (ct_X6_row l D a cA cT hI g v8 (4 : Int32) r105 hcal) tF_0 (C := RX6) (F := TX6) (N := 5) rfl (g_V q306 q307 q308 q35 q309) yd_X6_row ⟨Nat.le_of_ble_eq_true rfl, Nat.le_of_ble_eq_true rfl⟩ [] rfl (Nat.le_of_ble_eq_true rfl) hl.1 ⟨Nat.le_refl _, Nat.le_refl _⟩ dL_place_105 (fun H locs hP hS => ?_)
        refine lv_iload hx hb dL_place_108 (lv_at hl 0 rfl) ?_
        refine lv_if_eq (tgt := 117) hx hb dL_place_110 (by decide) (fun hc => ?_) (fun hc => ?_)
        · have h := ite_t hc h
          refine lv_iconst (v := (0 : Int32)) hx hb dL_place_117 (by decide) ?_
          exact J118 v5 v6 v7 v8 v9 w0 r105 (0 : Int32) _ _ _ hP hS (lv_sub hl [1, 2, 3, 4, 5, 6, 7, 8, 0] rfl) h
        · have h := ite_f hc h
          refine lv_iconst (v := (1 : Int32)) hx hb dL_place_113 (by decide) ?_
          refine lv_goto (tgt := 118) hx hb dL_place_114 (by decide) ?_
          exact J118 v5 v6 v7 v8 v9 w0 r105 (1 : Int32) _ _ _ hP hS (lv_sub hl [1, 2, 3, 4, 5, 6, 7, 8, 0] rfl) h
      have J77 : ∀ (v5 : Int32) (v6 : Int32) (v7 : Int32) (v8 : Int32) (v9 : Int32) (H : Heap) (locs : List Loc) (ls : Array Slot), WP D a cA cT TC g H → va_S (AA a TC) s.heap H locs → lv_has ls 11 [(0, .ref (a 0)), (1, .int x1), (2, .int r3), (5, .int v5), (6, .int v6), (7, .int v7), (8, .int v8), (9, .int v9)] → m_L_place_J77 (lpo (b_L_place_L21 g x1 r3) n21) x1 g r3 v5 v6 v7 v8 v9 = some r → W p l e (rmm 7 153) s m args below meth c H locs 0 0 Q (F0 m 77 ls []) := by
        intro v5 v6 v7 v8 v9 H locs ls hP hS hl h
        unfold m_L_place_J77 at h
        refine lv_iload_n hx hb dL_place_77 rfl (lv_at hl 1 rfl) ?_
        refine lv_bipush (v := (61 : Int32)) hx hb dL_place_78 (by decide) ?_
        refine lv_icmp_ge (tgt := 98) hx hb dL_place_80 (by decide) (fun hc => ?_) (fun hc => ?_)
        · have h := ite_t hc h
          refine lv_iconst (v := (0 : Int32)) hx hb dL_place_98 (by decide) ?_
          exact J99 v5 v6 v7 v8 v9 (0 : Int32) _ _ _ hP hS (lv_sub hl [0, 1, 2, 3, 4, 5, 6, 7] rfl) h
        · have h := ite_f hc h
          refine lv_aload_n hx hb dL_place_83 rfl (lv_at hl 0 rfl) ?_
          refine lv_iload hx hb dL_place_84 (lv_at hl 6 rfl) ?_
          refine lv_iconst (v := (3 : Int32)) hx hb dL_place_86 (by decide) ?_
          obtain ⟨r87, hcal, h⟩ := bnd_s h
          refine x_VI (As := [.int v8, .int (3 : Int32)]) hx hb hml hown hts hK hP hS (ct_X6_row l D a cA cT hI g v8 (3 : Int32) r87 hcal) tF_0 (C := RX6) (F := TX6) (N := 5) rfl (g_V q306 q307 q308 q35 q309) yd_X6_row ⟨Nat.le_of_ble_eq_true rfl, Nat.le_of_ble_eq_true rfl⟩ [] rfl (Nat.le_of_ble_eq_true rfl) hl.1 ⟨Nat.le_refl _, Nat.le_refl _⟩ dL_place_87 (fun H locs hP hS => ?_)
          refine lv_iload_n hx hb dL_place_90 rfl (lv_at hl 1 rfl) ?_
          refine lv_icmp_eq (tgt := 98) hx hb dL_place_91 (by decide) (fun hc => ?_) (fun hc => ?_)
          · have h := ite_t hc h
            refine lv_iconst (v := (0 : Int32)) hx hb dL_place_98 (by decide) ?_
            exact J99 v5 v6 v7 v8 v9 (0 : Int32) _ _ _ hP hS (lv_sub hl [0, 1, 2, 3, 4, 5, 6, 7] rfl) h
          · have h := ite_f hc h
            refine lv_iconst (v := (1 : Int32)) hx hb dL_place_94 (by decide) ?_
            refine lv_goto (tgt := 99) hx hb dL_place_95 (by decide) ?_
            exact J99 v5 v6 v7 v8 v9 (1 : Int32) _ _ _ hP hS (lv_sub hl [0, 1, 2, 3, 4, 5, 6, 7] rfl) h
      refine lv_iload hx hb dL_place_21 (lv_at hl 7 rfl) ?_
      refine lv_iload_n hx hb dL_place_23 rfl (lv_at hl 2 rfl) ?_
      refine lv_icmp_ge (tgt := 179) hx hb dL_place_24 (by decide) (fun hc => ?_) (fun hc => ?_)
      · have h := ite_t hc h
        refine lv_iload_n hx hb dL_place_179 rfl (lv_at hl 2 rfl) ?_
        refine lv_if_ne (tgt := 189) hx hb dL_place_180 (by decide) (fun hc => ?_) (fun hc => ?_)
        · have h := ite_f hc h
          refine lv_aload_n hx hb dL_place_189 rfl (lv_at hl 0 rfl) ?_
          refine lv_aload_n hx hb dL_place_190 rfl (lv_at hl 0 rfl) ?_
          refine lv_iload_n hx hb dL_place_191 rfl (lv_at hl 1 rfl) ?_
          refine lv_iconst (v := (0 : Int32)) hx hb dL_place_192 (by decide) ?_
          obtain ⟨r193, hcal, h⟩ := bnd_s h
          refine x_VI (As := [.int x1, .int (0 : Int32)]) hx hb hml hown hts hK hP hS (ct_X6_lies l D a cA cT hI g x1 (0 : Int32) r193 hcal) tF_0 (C := RX6) (F := TX6) (N := 5) rfl (g_V q373 q374 q375 q35 q376) yd_X6_lies ⟨Nat.le_of_ble_eq_true rfl, Nat.le_of_ble_eq_true rfl⟩ [.ref (a 0)] rfl (Nat.le_of_ble_eq_true rfl) hl.1 ⟨Nat.le_refl _, Nat.le_refl _⟩ dL_place_193 (fun H locs hP hS => ?_)
          refine lv_iconst (v := (0 : Int32)) hx hb dL_place_196 (by decide) ?_
          obtain ⟨r197, hcal, h⟩ := bnd_s h
          refine x_VI (As := [.int r193, .int (0 : Int32)]) hx hb hml hown hts hK hP hS (ct_X6_row l D a cA cT hI g r193 (0 : Int32) r197 hcal) tF_0 (C := RX6) (F := TX6) (N := 5) rfl (g_V q306 q307 q308 q35 q309) yd_X6_row ⟨Nat.le_of_ble_eq_true rfl, Nat.le_of_ble_eq_true rfl⟩ [] rfl (Nat.le_of_ble_eq_true rfl) hl.1 ⟨Nat.le_refl _, Nat.le_refl _⟩ dL_place_197 (fun H locs hP hS => ?_)
          exact J200 r3 v3 v5 v6 r197 _ _ _ hP hS (lv_sub hl [0, 1, 2, 3, 5, 6] rfl) h
        · have h := ite_t hc h
          refine lv_sipush (v := (-1005 : Int32)) hx hb dL_place_183 (by decide) ?_
          refine lv_goto (tgt := 200) hx hb dL_place_186 (by decide) ?_
          exact J200 r3 v3 v5 v6 (-1005 : Int32) _ _ _ hP hS (lv_sub hl [0, 1, 2, 3, 5, 6] rfl) h
      · have h := ite_f hc h
        refine lv_aload_n hx hb dL_place_27 rfl (lv_at hl 0 rfl) ?_
        refine lv_iload_n hx hb dL_place_28 rfl (lv_at hl 1 rfl) ?_
        refine lv_iload hx hb dL_place_29 (lv_at hl 7 rfl) ?_
        obtain ⟨r31, hcal, h⟩ := bnd_s h
        refine x_VI (As := [.int x1, .int v7]) hx hb hml hown hts hK hP hS (ct_X6_lies l D a cA cT hI g x1 v7 r31 hcal) tF_0 (C := RX6) (F := TX6) (N := 5) rfl (g_V q373 q374 q375 q35 q376) yd_X6_lies ⟨Nat.le_of_ble_eq_true rfl, Nat.le_of_ble_eq_true rfl⟩ [] rfl (Nat.le_of_ble_eq_true rfl) hl.1 ⟨Nat.le_refl _, Nat.le_refl _⟩ dL_place_31 (fun H locs hP hS => ?_)
        refine lv_istore (lv' := [(8, .int r31), (0, .ref (a 0)), (1, .int x1), (2, .int r3), (3, .int v3), (4, .int v4), (5, .int v5), (6, .int v6), (7, .int v7)]) hx hb dL_place_34 hl (by decide) rfl (fun ls hl => ?_)
        refine lv_aload_n hx hb dL_place_36 rfl (lv_at hl 1 rfl) ?_
        refine lv_iload hx hb dL_place_37 (lv_at hl 0 rfl) ?_
        refine lv_iconst (v := (0 : Int32)) hx hb dL_place_39 (by decide) ?_
        obtain ⟨r40, hcal, h⟩ := bnd_s h
        refine x_VI (As := [.int r31, .int (0 : Int32)]) hx hb hml hown hts hK hP hS (ct_X6_row l D a cA cT hI g r31 (0 : Int32) r40 hcal) tF_0 (C := RX6) (F := TX6) (N := 5) rfl (g_V q306 q307 q308 q35 q309) yd_X6_row ⟨Nat.le_of_ble_eq_true rfl, Nat.le_of_ble_eq_true rfl⟩ [] rfl (Nat.le_of_ble_eq_true rfl) hl.1 ⟨Nat.le_refl _, Nat.le_refl _⟩ dL_place_40 (fun H locs hP hS => ?_)
        refine lv_istore (lv' := [(9, .int r40), (8, .int r31), (0, .ref (a 0)), (1, .int x1), (2, .int r3), (3, .int v3), (4, .int v4), (5, .int v5), (6, .int v6), (7, .int v7)]) hx hb dL_place_43 hl (by decide) rfl (fun ls hl => ?_)
        refine lv_aload_n hx hb dL_place_45 rfl (lv_at hl 2 rfl) ?_
        refine lv_iload hx hb dL_place_46 (lv_at hl 1 rfl) ?_
        refine lv_iconst (v := (2 : Int32)) hx hb dL_place_48 (by decide) ?_
        obtain ⟨r49, hcal, h⟩ := bnd_s h
        refine x_VI (As := [.int r31, .int (2 : Int32)]) hx hb hml hown hts hK hP hS (ct_X6_row l D a cA cT hI g r31 (2 : Int32) r49 hcal) tF_0 (C := RX6) (F := TX6) (N := 5) rfl (g_V q306 q307 q308 q35 q309) yd_X6_row ⟨Nat.le_of_ble_eq_true rfl, Nat.le_of_ble_eq_true rfl⟩ [] rfl (Nat.le_of_ble_eq_true rfl) hl.1 ⟨Nat.le_refl _, Nat.le_refl _⟩ dL_place_49 (fun H locs hP hS => ?_)
        refine lv_iload_n hx hb dL_place_52 rfl (lv_at hl 3 rfl) ?_
        refine lv_icmp_ne (tgt := 75) hx hb dL_place_53 (by decide) (fun hc => ?_) (fun hc => ?_)
        · have h := ite_f hc h
          refine lv_iconst (v := (0 : Int32)) hx hb dL_place_75 (by decide) ?_
          obtain rfl := Option.some.inj h
          exact hend _ _ _ _ dL_place_76 rfl hP hS
        · have h := ite_t hc h
          refine lv_iload hx hb dL_place_56 (lv_at hl 0 rfl) ?_
          refine lv_iload_n hx hb dL_place_58 rfl (lv_at hl 5 rfl) ?_
          refine lv_icmp_lt (tgt := 75) hx hb dL_place_59 (by decide) (fun hc => ?_) (fun hc => ?_)
          · have h := ite_t hc h
            refine lv_iconst (v := (0 : Int32)) hx hb dL_place_75 (by decide) ?_
            obtain rfl := Option.some.inj h
            exact hend _ _ _ _ dL_place_76 rfl hP hS
          · have h := ite_f hc h
            refine lv_iload hx hb dL_place_62 (lv_at hl 0 rfl) ?_
            refine lv_iload_n hx hb dL_place_64 rfl (lv_at hl 5 rfl) ?_
            refine lv_icmp_ne (tgt := 77) hx hb dL_place_65 (by decide) (fun hc => ?_) (fun hc => ?_)
            · have h := ite_f hc h
              exact J77 v5 v6 v7 r31 r40 _ _ _ hP hS (lv_sub hl [2, 3, 4, 7, 8, 9, 1, 0] rfl) h
            · have h := ite_t hc h
              refine lv_iload hx hb dL_place_68 (lv_at hl 1 rfl) ?_
              refine lv_iload hx hb dL_place_70 (lv_at hl 6 rfl) ?_
              refine lv_icmp_ge (tgt := 77) hx hb dL_place_72 (by decide) (fun hc => ?_) (fun hc => ?_)
              · have h := ite_t hc h
                exact J77 v5 v6 v7 r31 r40 _ _ _ hP hS (lv_sub hl [2, 3, 4, 7, 8, 9, 1, 0] rfl) h
              · have h := ite_f hc h
                refine lv_iconst (v := (0 : Int32)) hx hb dL_place_75 (by decide) ?_
                obtain rfl := Option.some.inj h
                exact hend _ _ _ _ dL_place_76 rfl hP hS
  exact K21 fuelN (-1 : Int32) (-1 : Int32) (0 : Int32) (0 : Int32) (0 : Int32) _ _ _ hP hS (lv_sub hl [6, 7, 5, 4, 3, 2, 1, 0] rfl) h
set_option maxHeartbeats 4000000 in
set_option maxRecDepth 100000 in
theorem ct_L_act (l : Launch) (D : va_G) (a : Nat → Nat) (cA cT : ClassId) (hI : WI a TC) (g : MG) (x1 : Int32) (x2 : Int32)  (r : Int32) (g' : MG) (h : m_L_act g x1 x2 = some (r, g')) :
    CtI l D a cA cT TC yL_act (Cond.code yL_act cL_act 6 (some .int) :: lw_all) (rmm 7 157) [.ref (a 0), .int x1, .int x2] g r g' := by
  refine CtI.of (by decide +kernel) (Nat.le_of_ble_eq_true rfl) ?_
  intro p e s m args below meth c Q ls hx hb hml hown hts hK hP hS hl hend
  have hl : lv_has ls 6 [(0, .ref (a 0)), (1, .int x1), (2, .int x2)] := hl
  unfold m_L_act at h
  refine lv_iload_n hx hb dL_act_0 rfl (lv_at hl 1 rfl) ?_
  refine lv_iconst (v := (3 : Int32)) hx hb dL_act_1 (by decide) ?_
  refine lv_ishr hx hb dL_act_2 ?_
  refine lv_bipush (v := (16 : Int32)) hx hb dL_act_3 (by decide) ?_
  obtain ⟨r5, hcal, h⟩ := bnd_s h
  refine x_SI (As := [.int (x1 >>> ((3 : Int32) &&& 31)), .int (16 : Int32)]) hx hb hml hown hts hK hP hS (ct_L_low l D a cA cT hI g (x1 >>> ((3 : Int32) &&& 31)) (16 : Int32) r5 hcal) (g_S q299 q300 q34 q301) yd_L_low ⟨Nat.le_of_ble_eq_true rfl, Nat.le_of_ble_eq_true rfl⟩ [] rfl (Nat.le_of_ble_eq_true rfl) hl.1 ⟨Nat.le_refl _, Nat.le_refl _⟩ dL_act_5 (fun H locs hP hS => ?_)
  refine lv_istore_n (lv' := [(3, .int r5), (0, .ref (a 0)), (1, .int x1), (2, .int x2)]) hx hb dL_act_8 rfl hl (by decide) rfl (fun ls hl => ?_)
  refine lv_iload_n hx hb dL_act_9 rfl (lv_at hl 2 rfl) ?_
  refine lv_bipush (v := (8 : Int32)) hx hb dL_act_10 (by decide) ?_
  refine lv_ishr hx hb dL_act_12 ?_
  refine lv_aload_n hx hb dL_act_13 rfl (lv_at hl 1 rfl) ?_
  refine lv_iconst (v := (1 : Int32)) hx hb dL_act_14 (by decide) ?_
  obtain ⟨r15, hcal, h⟩ := bnd_s h
  refine x_VI (As := [.int (1 : Int32)]) hx hb hml hown hts hK hP hS (ct_X6_count l D a cA cT hI g (1 : Int32) r15 hcal) tF_0 (C := RX6) (F := TX6) (N := 5) rfl (g_V q212 q213 q214 q35 q215) yd_X6_count ⟨Nat.le_of_ble_eq_true rfl, Nat.le_of_ble_eq_true rfl⟩ [.int (x1 >>> ((8 : Int32) &&& 31))] rfl (Nat.le_of_ble_eq_true rfl) hl.1 ⟨Nat.le_refl _, Nat.le_refl _⟩ dL_act_15 (fun H locs hP hS => ?_)
  refine lv_iconst (v := (1 : Int32)) hx hb dL_act_18 (by decide) ?_
  refine lv_iadd hx hb dL_act_19 ?_
  obtain ⟨r20, hcal, h⟩ := bnd_s h
  refine x_SI (As := [.int (x1 >>> ((8 : Int32) &&& 31)), .int (r15 + (1 : Int32))]) hx hb hml hown hts hK hP hS (ct_L_low l D a cA cT hI g (x1 >>> ((8 : Int32) &&& 31)) (r15 + (1 : Int32)) r20 hcal) (g_S q299 q300 q34 q301) yd_L_low ⟨Nat.le_of_ble_eq_true rfl, Nat.le_of_ble_eq_true rfl⟩ [] rfl (Nat.le_of_ble_eq_true rfl) hl.1 ⟨Nat.le_refl _, Nat.le_refl _⟩ dL_act_20 (fun H locs hP hS => ?_)
  refine lv_istore (lv' := [(4, .int r20), (3, .int r5), (0, .ref (a 0)), (1, .int x1), (2, .int x2)]) hx hb dL_act_23 hl (by decide) rfl (fun ls hl => ?_)
  refine lv_iload_n hx hb dL_act_25 rfl (lv_at hl 4 rfl) ?_
  refine lv_sipush (v := (990 : Int32)) hx hb dL_act_26 (by decide) ?_
  obtain ⟨r29, hcal, h⟩ := bnd_s h
  refine x_SI (As := [.int x2, .int (990 : Int32)]) hx hb hml hown hts hK hP hS (ct_L_low l D a cA cT hI g x2 (990 : Int32) r29 hcal) (g_S q299 q300 q34 q301) yd_L_low ⟨Nat.le_of_ble_eq_true rfl, Nat.le_of_ble_eq_true rfl⟩ [] rfl (Nat.le_of_ble_eq_true rfl) hl.1 ⟨Nat.le_refl _, Nat.le_refl _⟩ dL_act_29 (fun H locs hP hS => ?_)
  refine lv_istore (lv' := [(5, .int r29), (4, .int r20), (3, .int r5), (0, .ref (a 0)), (1, .int x1), (2, .int x2)]) hx hb dL_act_32 hl (by decide) rfl (fun ls hl => ?_)
  refine lv_iload_n hx hb dL_act_34 rfl (lv_at hl 2 rfl) ?_
  refine lv_iconst (v := (5 : Int32)) hx hb dL_act_35 (by decide) ?_
  refine lv_icmp_ge (tgt := 60) hx hb dL_act_36 (by decide) (fun hc => ?_) (fun hc => ?_)
  · have h := ite_t hc h
    refine lv_iload_n hx hb dL_act_60 rfl (lv_at hl 2 rfl) ?_
    refine lv_iconst (v := (5 : Int32)) hx hb dL_act_61 (by decide) ?_
    refine lv_icmp_ne (tgt := 86) hx hb dL_act_62 (by decide) (fun hc => ?_) (fun hc => ?_)
    · have h := ite_f hc h
      refine lv_iload_n hx hb dL_act_86 rfl (lv_at hl 2 rfl) ?_
      refine lv_bipush (v := (8 : Int32)) hx hb dL_act_87 (by decide) ?_
      refine lv_icmp_ge (tgt := 122) hx hb dL_act_89 (by decide) (fun hc => ?_) (fun hc => ?_)
      · have h := ite_t hc h
        refine lv_iload_n hx hb dL_act_122 rfl (lv_at hl 2 rfl) ?_
        refine lv_bipush (v := (8 : Int32)) hx hb dL_act_123 (by decide) ?_
        refine lv_icmp_ne (tgt := 184) hx hb dL_act_125 (by decide) (fun hc => ?_) (fun hc => ?_)
        · have h := ite_f hc h
          refine lv_iload_n hx hb dL_act_184 rfl (lv_at hl 2 rfl) ?_
          refine lv_bipush (v := (9 : Int32)) hx hb dL_act_185 (by decide) ?_
          refine lv_icmp_ne (tgt := 211) hx hb dL_act_187 (by decide) (fun hc => ?_) (fun hc => ?_)
          · have h := ite_f hc h
            refine lv_iload_n hx hb dL_act_211 rfl (lv_at hl 2 rfl) ?_
            refine lv_bipush (v := (10 : Int32)) hx hb dL_act_212 (by decide) ?_
            refine lv_icmp_ne (tgt := 235) hx hb dL_act_214 (by decide) (fun hc => ?_) (fun hc => ?_)
            · have h := ite_f hc h
              refine lv_iload_n hx hb dL_act_235 rfl (lv_at hl 2 rfl) ?_
              refine lv_bipush (v := (11 : Int32)) hx hb dL_act_236 (by decide) ?_
              refine lv_icmp_ne (tgt := 287) hx hb dL_act_238 (by decide) (fun hc => ?_) (fun hc => ?_)
              · have h := ite_f hc h
                refine lv_iload_n hx hb dL_act_287 rfl (lv_at hl 2 rfl) ?_
                refine lv_bipush (v := (12 : Int32)) hx hb dL_act_288 (by decide) ?_
                refine lv_icmp_ne (tgt := 313) hx hb dL_act_290 (by decide) (fun hc => ?_) (fun hc => ?_)
                · have h := ite_f hc h
                  refine lv_iload_n hx hb dL_act_313 rfl (lv_at hl 2 rfl) ?_
                  refine lv_bipush (v := (13 : Int32)) hx hb dL_act_314 (by decide) ?_
                  refine lv_icmp_ne (tgt := 324) hx hb dL_act_316 (by decide) (fun hc => ?_) (fun hc => ?_)
                  · have h := ite_f hc h
                    refine lv_iload_n hx hb dL_act_324 rfl (lv_at hl 2 rfl) ?_
                    refine lv_bipush (v := (14 : Int32)) hx hb dL_act_325 (by decide) ?_
                    refine lv_icmp_ne (tgt := 347) hx hb dL_act_327 (by decide) (fun hc => ?_) (fun hc => ?_)
                    · have h := ite_f hc h
                      refine lv_iload_n hx hb dL_act_347 rfl (lv_at hl 5 rfl) ?_
                      refine lv_iconst (v := (3 : Int32)) hx hb dL_act_348 (by decide) ?_
                      obtain ⟨r349, hcal, h⟩ := bnd_s h
                      refine x_SI (As := [.int x2, .int (3 : Int32)]) hx hb hml hown hts hK hP hS (ct_L_low l D a cA cT hI g x2 (3 : Int32) r349 hcal) (g_S q299 q300 q34 q301) yd_L_low ⟨Nat.le_of_ble_eq_true rfl, Nat.le_of_ble_eq_true rfl⟩ [] rfl (Nat.le_of_ble_eq_true rfl) hl.1 ⟨Nat.le_refl _, Nat.le_refl _⟩ dL_act_349 (fun H locs hP hS => ?_)
                      refine lv_if_ne (tgt := 377) hx hb dL_act_352 (by decide) (fun hc => ?_) (fun hc => ?_)
                      · have h := ite_f hc h
                        refine lv_iload_n hx hb dL_act_377 rfl (lv_at hl 5 rfl) ?_
                        refine lv_iconst (v := (3 : Int32)) hx hb dL_act_378 (by decide) ?_
                        obtain ⟨r379, hcal, h⟩ := bnd_s h
                        refine x_SI (As := [.int x2, .int (3 : Int32)]) hx hb hml hown hts hK hP hS (ct_L_low l D a cA cT hI g x2 (3 : Int32) r379 hcal) (g_S q299 q300 q34 q301) yd_L_low ⟨Nat.le_of_ble_eq_true rfl, Nat.le_of_ble_eq_true rfl⟩ [] rfl (Nat.le_of_ble_eq_true rfl) hl.1 ⟨Nat.le_refl _, Nat.le_refl _⟩ dL_act_379 (fun H locs hP hS => ?_)
                        refine lv_iconst (v := (1 : Int32)) hx hb dL_act_382 (by decide) ?_
                        refine lv_icmp_ne (tgt := 395) hx hb dL_act_383 (by decide) (fun hc => ?_) (fun hc => ?_)
                        · have h := ite_f hc h
                          refine lv_aload_n hx hb dL_act_395 rfl (lv_at hl 3 rfl) ?_
                          refine lv_iload hx hb dL_act_396 (lv_at hl 0 rfl) ?_
                          refine lv_iconst (v := (1 : Int32)) hx hb dL_act_398 (by decide) ?_
                          obtain ⟨r399, g399, hcal, h⟩ := bnd2_s h
                          refine x_VI (As := [.int r29, .int (1 : Int32)]) hx hb hml hown hts hK hP hS (ct_X6_put l D a cA cT hI g r29 (1 : Int32) r399 g399 hcal) tF_0 (C := RX6) (F := TX6) (N := 5) rfl (g_V q405 q406 q407 q35 q408) yd_X6_put ⟨Nat.le_of_ble_eq_true rfl, Nat.le_of_ble_eq_true rfl⟩ [] rfl (Nat.le_of_ble_eq_true rfl) hl.1 ⟨Nat.le_refl _, Nat.le_refl _⟩ dL_act_399 (fun H locs hP hS => ?_)
                          obtain ⟨rfl, rfl⟩ := Prod.mk.inj (Option.some.inj h)
                          exact hend _ _ _ _ dL_act_402 rfl hP hS
                        · have h := ite_t hc h
                          refine lv_aload_n hx hb dL_act_386 rfl (lv_at hl 3 rfl) ?_
                          refine lv_iload hx hb dL_act_387 (lv_at hl 1 rfl) ?_
                          obtain ⟨r389, g389, hcal, h⟩ := bnd2_s h
                          refine x_VI (As := [.int r20]) hx hb hml hown hts hK hP hS (ct_X6_dropSlice l D a cA cT hI g r20 r389 g389 hcal) tF_0 (C := RX6) (F := TX6) (N := 5) rfl (g_V q563 q564 q565 q35 q566) yd_X6_dropSlice ⟨Nat.le_of_ble_eq_true rfl, Nat.le_of_ble_eq_true rfl⟩ [] rfl (Nat.le_of_ble_eq_true rfl) hl.1 ⟨Nat.le_refl _, Nat.le_refl _⟩ dL_act_389 (fun H locs hP hS => ?_)
                          refine lv_goto (tgt := 402) hx hb dL_act_392 (by decide) ?_
                          obtain ⟨rfl, rfl⟩ := Prod.mk.inj (Option.some.inj h)
                          exact hend _ _ _ _ dL_act_402 rfl hP hS
                      · have h := ite_t hc h
                        refine lv_aload_n hx hb dL_act_355 rfl (lv_at hl 3 rfl) ?_
                        refine lv_iload_n hx hb dL_act_356 rfl (lv_at hl 5 rfl) ?_
                        refine lv_iconst (v := (2 : Int32)) hx hb dL_act_357 (by decide) ?_
                        refine lv_ishr hx hb dL_act_358 ?_
                        refine lv_iconst (v := (2 : Int32)) hx hb dL_act_359 (by decide) ?_
                        obtain ⟨r360, hcal, h⟩ := bnd_s h
                        refine x_SI (As := [.int (x2 >>> ((2 : Int32) &&& 31)), .int (2 : Int32)]) hx hb hml hown hts hK hP hS (ct_L_low l D a cA cT hI g (x2 >>> ((2 : Int32) &&& 31)) (2 : Int32) r360 hcal) (g_S q299 q300 q34 q301) yd_L_low ⟨Nat.le_of_ble_eq_true rfl, Nat.le_of_ble_eq_true rfl⟩ [.ref (a 0)] rfl (Nat.le_of_ble_eq_true rfl) hl.1 ⟨Nat.le_refl _, Nat.le_refl _⟩ dL_act_360 (fun H locs hP hS => ?_)
                        refine lv_if_ne (tgt := 370) hx hb dL_act_363 (by decide) (fun hc => ?_) (fun hc => ?_)
                        · have h := ite_f hc h
                          refine lv_iconst (v := (0 : Int32)) hx hb dL_act_370 (by decide) ?_
                          obtain ⟨r371, g371, hcal, h⟩ := bnd2_s h
                          refine x_VI (As := [.int (0 : Int32)]) hx hb hml hown hts hK hP hS (ct_X6_useDefault l D a cA cT hI g (0 : Int32) r371 g371 hcal) tF_0 (C := RX6) (F := TX6) (N := 5) rfl (g_V q559 q560 q561 q35 q562) yd_X6_useDefault ⟨Nat.le_of_ble_eq_true rfl, Nat.le_of_ble_eq_true rfl⟩ [] rfl (Nat.le_of_ble_eq_true rfl) hl.1 ⟨Nat.le_refl _, Nat.le_refl _⟩ dL_act_371 (fun H locs hP hS => ?_)
                          refine lv_goto (tgt := 402) hx hb dL_act_374 (by decide) ?_
                          obtain ⟨rfl, rfl⟩ := Prod.mk.inj (Option.some.inj h)
                          exact hend _ _ _ _ dL_act_402 rfl hP hS
                        · have h := ite_t hc h
                          refine lv_iconst (v := (1 : Int32)) hx hb dL_act_366 (by decide) ?_
                          refine lv_goto (tgt := 371) hx hb dL_act_367 (by decide) ?_
                          obtain ⟨r371, g371, hcal, h⟩ := bnd2_s h
                          refine x_VI (As := [.int (1 : Int32)]) hx hb hml hown hts hK hP hS (ct_X6_useDefault l D a cA cT hI g (1 : Int32) r371 g371 hcal) tF_0 (C := RX6) (F := TX6) (N := 5) rfl (g_V q559 q560 q561 q35 q562) yd_X6_useDefault ⟨Nat.le_of_ble_eq_true rfl, Nat.le_of_ble_eq_true rfl⟩ [] rfl (Nat.le_of_ble_eq_true rfl) hl.1 ⟨Nat.le_refl _, Nat.le_refl _⟩ dL_act_371 (fun H locs hP hS => ?_)
                          refine lv_goto (tgt := 402) hx hb dL_act_374 (by decide) ?_
                          obtain ⟨rfl, rfl⟩ := Prod.mk.inj (Option.some.inj h)
                          exact hend _ _ _ _ dL_act_402 rfl hP hS
                    · have h := ite_t hc h
                      refine lv_aload_n hx hb dL_act_330 rfl (lv_at hl 3 rfl) ?_
                      refine lv_iload_n hx hb dL_act_331 rfl (lv_at hl 5 rfl) ?_
                      refine lv_iconst (v := (2 : Int32)) hx hb dL_act_332 (by decide) ?_
                      obtain ⟨r333, hcal, h⟩ := bnd_s h
                      refine x_SI (As := [.int x2, .int (2 : Int32)]) hx hb hml hown hts hK hP hS (ct_L_low l D a cA cT hI g x2 (2 : Int32) r333 hcal) (g_S q299 q300 q34 q301) yd_L_low ⟨Nat.le_of_ble_eq_true rfl, Nat.le_of_ble_eq_true rfl⟩ [.ref (a 0)] rfl (Nat.le_of_ble_eq_true rfl) hl.1 ⟨Nat.le_refl _, Nat.le_refl _⟩ dL_act_333 (fun H locs hP hS => ?_)
                      refine lv_iload_n hx hb dL_act_336 rfl (lv_at hl 5 rfl) ?_
                      refine lv_iconst (v := (1 : Int32)) hx hb dL_act_337 (by decide) ?_
                      refine lv_ishr hx hb dL_act_338 ?_
                      refine lv_iconst (v := (2 : Int32)) hx hb dL_act_339 (by decide) ?_
                      obtain ⟨r340, hcal, h⟩ := bnd_s h
                      refine x_SI (As := [.int (x2 >>> ((1 : Int32) &&& 31)), .int (2 : Int32)]) hx hb hml hown hts hK hP hS (ct_L_low l D a cA cT hI g (x2 >>> ((1 : Int32) &&& 31)) (2 : Int32) r340 hcal) (g_S q299 q300 q34 q301) yd_L_low ⟨Nat.le_of_ble_eq_true rfl, Nat.le_of_ble_eq_true rfl⟩ [.int r333, .ref (a 0)] rfl (Nat.le_of_ble_eq_true rfl) hl.1 ⟨Nat.le_refl _, Nat.le_refl _⟩ dL_act_340 (fun H locs hP hS => ?_)
                      obtain ⟨r343, g343, hcal, h⟩ := bnd2_s h
                      refine x_VI (As := [.int r333, .int r340]) hx hb hml hown hts hK hP hS (ct_X6_set l D a cA cT hI g r333 r340 r343 g343 hcal) tF_0 (C := RX6) (F := TX6) (N := 5) rfl (g_V q555 q556 q557 q35 q558) yd_X6_set ⟨Nat.le_of_ble_eq_true rfl, Nat.le_of_ble_eq_true rfl⟩ [] rfl (Nat.le_of_ble_eq_true rfl) hl.1 ⟨Nat.le_refl _, Nat.le_refl _⟩ dL_act_343 (fun H locs hP hS => ?_)
                      obtain ⟨rfl, rfl⟩ := Prod.mk.inj (Option.some.inj h)
                      exact hend _ _ _ _ dL_act_346 rfl hP hS
                  · have h := ite_t hc h
                    refine lv_aload_n hx hb dL_act_319 rfl (lv_at hl 3 rfl) ?_
                    obtain ⟨r320, g320, hcal, h⟩ := bnd2_s h
                    refine x_VI (As := []) hx hb hml hown hts hK hP hS (ct_X6_mend l D a cA cT hI g r320 g320 hcal) tF_0 (C := RX6) (F := TX6) (N := 5) rfl (g_V q533 q534 q535 q35 q536) yd_X6_mend ⟨Nat.le_of_ble_eq_true rfl, Nat.le_of_ble_eq_true rfl⟩ [] rfl (Nat.le_of_ble_eq_true rfl) hl.1 ⟨Nat.le_refl _, Nat.le_refl _⟩ dL_act_320 (fun H locs hP hS => ?_)
                    obtain ⟨rfl, rfl⟩ := Prod.mk.inj (Option.some.inj h)
                    exact hend _ _ _ _ dL_act_323 rfl hP hS
                · have h := ite_t hc h
                  refine lv_aload_n hx hb dL_act_293 rfl (lv_at hl 3 rfl) ?_
                  refine lv_iload hx hb dL_act_294 (lv_at hl 1 rfl) ?_
                  refine lv_iload_n hx hb dL_act_296 rfl (lv_at hl 5 rfl) ?_
                  refine lv_iconst (v := (2 : Int32)) hx hb dL_act_297 (by decide) ?_
                  obtain ⟨r298, hcal, h⟩ := bnd_s h
                  refine x_SI (As := [.int x2, .int (2 : Int32)]) hx hb hml hown hts hK hP hS (ct_L_low l D a cA cT hI g x2 (2 : Int32) r298 hcal) (g_S q299 q300 q34 q301) yd_L_low ⟨Nat.le_of_ble_eq_true rfl, Nat.le_of_ble_eq_true rfl⟩ [.int r20, .ref (a 0)] rfl (Nat.le_of_ble_eq_true rfl) hl.1 ⟨Nat.le_refl _, Nat.le_refl _⟩ dL_act_298 (fun H locs hP hS => ?_)
                  refine lv_if_ne (tgt := 308) hx hb dL_act_301 (by decide) (fun hc => ?_) (fun hc => ?_)
                  · have h := ite_f hc h
                    refine lv_iconst (v := (0 : Int32)) hx hb dL_act_308 (by decide) ?_
                    obtain ⟨r309, g309, hcal, h⟩ := bnd2_s h
                    refine x_VI (As := [.int r20, .int (0 : Int32)]) hx hb hml hown hts hK hP hS (ct_X6_swap l D a cA cT hI g r20 (0 : Int32) r309 g309 hcal) tF_0 (C := RX6) (F := TX6) (N := 5) rfl (g_V q525 q526 q527 q35 q528) yd_X6_swap ⟨Nat.le_of_ble_eq_true rfl, Nat.le_of_ble_eq_true rfl⟩ [] rfl (Nat.le_of_ble_eq_true rfl) hl.1 ⟨Nat.le_refl _, Nat.le_refl _⟩ dL_act_309 (fun H locs hP hS => ?_)
                    obtain ⟨rfl, rfl⟩ := Prod.mk.inj (Option.some.inj h)
                    exact hend _ _ _ _ dL_act_312 rfl hP hS
                  · have h := ite_t hc h
                    refine lv_iconst (v := (1 : Int32)) hx hb dL_act_304 (by decide) ?_
                    refine lv_goto (tgt := 309) hx hb dL_act_305 (by decide) ?_
                    obtain ⟨r309, g309, hcal, h⟩ := bnd2_s h
                    refine x_VI (As := [.int r20, .int (1 : Int32)]) hx hb hml hown hts hK hP hS (ct_X6_swap l D a cA cT hI g r20 (1 : Int32) r309 g309 hcal) tF_0 (C := RX6) (F := TX6) (N := 5) rfl (g_V q525 q526 q527 q35 q528) yd_X6_swap ⟨Nat.le_of_ble_eq_true rfl, Nat.le_of_ble_eq_true rfl⟩ [] rfl (Nat.le_of_ble_eq_true rfl) hl.1 ⟨Nat.le_refl _, Nat.le_refl _⟩ dL_act_309 (fun H locs hP hS => ?_)
                    obtain ⟨rfl, rfl⟩ := Prod.mk.inj (Option.some.inj h)
                    exact hend _ _ _ _ dL_act_312 rfl hP hS
              · have h := ite_t hc h
                refine lv_iload_n hx hb dL_act_241 rfl (lv_at hl 5 rfl) ?_
                refine lv_iconst (v := (2 : Int32)) hx hb dL_act_242 (by decide) ?_
                obtain ⟨r243, hcal, h⟩ := bnd_s h
                refine x_SI (As := [.int x2, .int (2 : Int32)]) hx hb hml hown hts hK hP hS (ct_L_low l D a cA cT hI g x2 (2 : Int32) r243 hcal) (g_S q299 q300 q34 q301) yd_L_low ⟨Nat.le_of_ble_eq_true rfl, Nat.le_of_ble_eq_true rfl⟩ [] rfl (Nat.le_of_ble_eq_true rfl) hl.1 ⟨Nat.le_refl _, Nat.le_refl _⟩ dL_act_243 (fun H locs hP hS => ?_)
                refine lv_if_ne (tgt := 258) hx hb dL_act_246 (by decide) (fun hc => ?_) (fun hc => ?_)
                · have h := ite_f hc h
                  refine lv_aload_n hx hb dL_act_258 rfl (lv_at hl 3 rfl) ?_
                  refine lv_iload hx hb dL_act_259 (lv_at hl 0 rfl) ?_
                  refine lv_iload hx hb dL_act_261 (lv_at hl 0 rfl) ?_
                  refine lv_bipush (v := (10 : Int32)) hx hb dL_act_263 (by decide) ?_
                  refine lv_iadd hx hb dL_act_265 ?_
                  refine lv_iload_n hx hb dL_act_266 rfl (lv_at hl 5 rfl) ?_
                  refine lv_iconst (v := (3 : Int32)) hx hb dL_act_267 (by decide) ?_
                  refine lv_ishr hx hb dL_act_268 ?_
                  refine lv_sipush (v := (900 : Int32)) hx hb dL_act_269 (by decide) ?_
                  obtain ⟨r272, hcal, h⟩ := bnd_s h
                  refine x_SI (As := [.int (x2 >>> ((3 : Int32) &&& 31)), .int (900 : Int32)]) hx hb hml hown hts hK hP hS (ct_L_low l D a cA cT hI g (x2 >>> ((3 : Int32) &&& 31)) (900 : Int32) r272 hcal) (g_S q299 q300 q34 q301) yd_L_low ⟨Nat.le_of_ble_eq_true rfl, Nat.le_of_ble_eq_true rfl⟩ [.int (r29 + (10 : Int32)), .int r29, .ref (a 0)] rfl (Nat.le_of_ble_eq_true rfl) hl.1 ⟨Nat.le_refl _, Nat.le_refl _⟩ dL_act_272 (fun H locs hP hS => ?_)
                  refine lv_sipush (v := (991 : Int32)) hx hb dL_act_275 (by decide) ?_
                  refine lv_iload hx hb dL_act_278 (lv_at hl 0 rfl) ?_
                  refine lv_isub hx hb dL_act_280 ?_
                  obtain ⟨hz, h⟩ := ite_n h
                  refine lv_irem hx hb dL_act_281 hz ?_
                  refine lv_iadd hx hb dL_act_282 ?_
                  obtain ⟨r283, g283, hcal, h⟩ := bnd2_s h
                  refine x_VI (As := [.int r29, .int ((r29 + (10 : Int32)) + (r272 - r272 / ((991 : Int32) - r29) * ((991 : Int32) - r29)))]) hx hb hml hown hts hK hP hS (ct_X6_attach l D a cA cT hI g r29 ((r29 + (10 : Int32)) + (r272 - r272 / ((991 : Int32) - r29) * ((991 : Int32) - r29))) r283 g283 hcal) tF_0 (C := RX6) (F := TX6) (N := 5) rfl (g_V q515 q516 q517 q35 q518) yd_X6_attach ⟨Nat.le_of_ble_eq_true rfl, Nat.le_of_ble_eq_true rfl⟩ [] rfl (Nat.le_of_ble_eq_true rfl) hl.1 ⟨Nat.le_refl _, Nat.le_refl _⟩ dL_act_283 (fun H locs hP hS => ?_)
                  obtain ⟨rfl, rfl⟩ := Prod.mk.inj (Option.some.inj h)
                  exact hend _ _ _ _ dL_act_286 rfl hP hS
                · have h := ite_t hc h
                  refine lv_aload_n hx hb dL_act_249 rfl (lv_at hl 3 rfl) ?_
                  refine lv_iload hx hb dL_act_250 (lv_at hl 1 rfl) ?_
                  obtain ⟨r252, g252, hcal, h⟩ := bnd2_s h
                  refine x_VI (As := [.int r20]) hx hb hml hown hts hK hP hS (ct_X6_detach l D a cA cT hI g r20 r252 g252 hcal) tF_0 (C := RX6) (F := TX6) (N := 5) rfl (g_V q510 q511 q512 q35 q513) yd_X6_detach ⟨Nat.le_of_ble_eq_true rfl, Nat.le_of_ble_eq_true rfl⟩ [] rfl (Nat.le_of_ble_eq_true rfl) hl.1 ⟨Nat.le_refl _, Nat.le_refl _⟩ dL_act_252 (fun H locs hP hS => ?_)
                  refine lv_goto (tgt := 286) hx hb dL_act_255 (by decide) ?_
                  obtain ⟨rfl, rfl⟩ := Prod.mk.inj (Option.some.inj h)
                  exact hend _ _ _ _ dL_act_286 rfl hP hS
            · have h := ite_t hc h
              refine lv_aload_n hx hb dL_act_217 rfl (lv_at hl 3 rfl) ?_
              refine lv_iload hx hb dL_act_218 (lv_at hl 1 rfl) ?_
              refine lv_iload_n hx hb dL_act_220 rfl (lv_at hl 5 rfl) ?_
              refine lv_aload_n hx hb dL_act_221 rfl (lv_at hl 3 rfl) ?_
              refine lv_iconst (v := (1 : Int32)) hx hb dL_act_222 (by decide) ?_
              obtain ⟨r223, hcal, h⟩ := bnd_s h
              refine x_VI (As := [.int (1 : Int32)]) hx hb hml hown hts hK hP hS (ct_X6_count l D a cA cT hI g (1 : Int32) r223 hcal) tF_0 (C := RX6) (F := TX6) (N := 5) rfl (g_V q212 q213 q214 q35 q215) yd_X6_count ⟨Nat.le_of_ble_eq_true rfl, Nat.le_of_ble_eq_true rfl⟩ [.int x2, .int r20, .ref (a 0)] rfl (Nat.le_of_ble_eq_true rfl) hl.1 ⟨Nat.le_refl _, Nat.le_refl _⟩ dL_act_223 (fun H locs hP hS => ?_)
              refine lv_iconst (v := (1 : Int32)) hx hb dL_act_226 (by decide) ?_
              refine lv_iadd hx hb dL_act_227 ?_
              obtain ⟨r228, hcal, h⟩ := bnd_s h
              refine x_SI (As := [.int x2, .int (r223 + (1 : Int32))]) hx hb hml hown hts hK hP hS (ct_L_low l D a cA cT hI g x2 (r223 + (1 : Int32)) r228 hcal) (g_S q299 q300 q34 q301) yd_L_low ⟨Nat.le_of_ble_eq_true rfl, Nat.le_of_ble_eq_true rfl⟩ [.int r20, .ref (a 0)] rfl (Nat.le_of_ble_eq_true rfl) hl.1 ⟨Nat.le_refl _, Nat.le_refl _⟩ dL_act_228 (fun H locs hP hS => ?_)
              obtain ⟨r231, g231, hcal, h⟩ := bnd2_s h
              refine x_VI (As := [.int r20, .int r228]) hx hb hml hown hts hK hP hS (ct_X6_merge l D a cA cT hI g r20 r228 r231 g231 hcal) tF_0 (C := RX6) (F := TX6) (N := 5) rfl (g_V q485 q486 q487 q35 q488) yd_X6_merge ⟨Nat.le_of_ble_eq_true rfl, Nat.le_of_ble_eq_true rfl⟩ [] rfl (Nat.le_of_ble_eq_true rfl) hl.1 ⟨Nat.le_refl _, Nat.le_refl _⟩ dL_act_231 (fun H locs hP hS => ?_)
              obtain ⟨rfl, rfl⟩ := Prod.mk.inj (Option.some.inj h)
              exact hend _ _ _ _ dL_act_234 rfl hP hS
          · have h := ite_t hc h
            refine lv_aload_n hx hb dL_act_190 rfl (lv_at hl 3 rfl) ?_
            refine lv_iload hx hb dL_act_191 (lv_at hl 1 rfl) ?_
            refine lv_aload_n hx hb dL_act_193 rfl (lv_at hl 3 rfl) ?_
            refine lv_iload hx hb dL_act_194 (lv_at hl 1 rfl) ?_
            refine lv_iconst (v := (0 : Int32)) hx hb dL_act_196 (by decide) ?_
            obtain ⟨r197, hcal, h⟩ := bnd_s h
            refine x_VI (As := [.int r20, .int (0 : Int32)]) hx hb hml hown hts hK hP hS (ct_X6_slice l D a cA cT hI g r20 (0 : Int32) r197 hcal) tF_0 (C := RX6) (F := TX6) (N := 5) rfl (g_V q328 q329 q330 q35 q331) yd_X6_slice ⟨Nat.le_of_ble_eq_true rfl, Nat.le_of_ble_eq_true rfl⟩ [.int r20, .ref (a 0)] rfl (Nat.le_of_ble_eq_true rfl) hl.1 ⟨Nat.le_refl _, Nat.le_refl _⟩ dL_act_197 (fun H locs hP hS => ?_)
            refine lv_iload_n hx hb dL_act_200 rfl (lv_at hl 5 rfl) ?_
            refine lv_bipush (v := (60 : Int32)) hx hb dL_act_201 (by decide) ?_
            obtain ⟨r203, hcal, h⟩ := bnd_s h
            refine x_SI (As := [.int x2, .int (60 : Int32)]) hx hb hml hown hts hK hP hS (ct_L_low l D a cA cT hI g x2 (60 : Int32) r203 hcal) (g_S q299 q300 q34 q301) yd_L_low ⟨Nat.le_of_ble_eq_true rfl, Nat.le_of_ble_eq_true rfl⟩ [.int r197, .int r20, .ref (a 0)] rfl (Nat.le_of_ble_eq_true rfl) hl.1 ⟨Nat.le_refl _, Nat.le_refl _⟩ dL_act_203 (fun H locs hP hS => ?_)
            refine lv_iadd hx hb dL_act_206 ?_
            obtain ⟨r207, g207, hcal, h⟩ := bnd2_s h
            refine x_VI (As := [.int r20, .int (r197 + r203)]) hx hb hml hown hts hK hP hS (ct_X6_split l D a cA cT hI g r20 (r197 + r203) r207 g207 hcal) tF_0 (C := RX6) (F := TX6) (N := 5) rfl (g_V q480 q481 q482 q35 q483) yd_X6_split ⟨Nat.le_of_ble_eq_true rfl, Nat.le_of_ble_eq_true rfl⟩ [] rfl (Nat.le_of_ble_eq_true rfl) hl.1 ⟨Nat.le_refl _, Nat.le_refl _⟩ dL_act_207 (fun H locs hP hS => ?_)
            obtain ⟨rfl, rfl⟩ := Prod.mk.inj (Option.some.inj h)
            exact hend _ _ _ _ dL_act_210 rfl hP hS
        · have h := ite_t hc h
          refine lv_iload_n hx hb dL_act_128 rfl (lv_at hl 5 rfl) ?_
          refine lv_iconst (v := (2 : Int32)) hx hb dL_act_129 (by decide) ?_
          obtain ⟨r130, hcal, h⟩ := bnd_s h
          refine x_SI (As := [.int x2, .int (2 : Int32)]) hx hb hml hown hts hK hP hS (ct_L_low l D a cA cT hI g x2 (2 : Int32) r130 hcal) (g_S q299 q300 q34 q301) yd_L_low ⟨Nat.le_of_ble_eq_true rfl, Nat.le_of_ble_eq_true rfl⟩ [] rfl (Nat.le_of_ble_eq_true rfl) hl.1 ⟨Nat.le_refl _, Nat.le_refl _⟩ dL_act_130 (fun H locs hP hS => ?_)
          refine lv_if_ne (tgt := 156) hx hb dL_act_133 (by decide) (fun hc => ?_) (fun hc => ?_)
          · have h := ite_f hc h
            refine lv_aload_n hx hb dL_act_156 rfl (lv_at hl 3 rfl) ?_
            refine lv_iload_n hx hb dL_act_157 rfl (lv_at hl 5 rfl) ?_
            refine lv_iconst (v := (1 : Int32)) hx hb dL_act_158 (by decide) ?_
            refine lv_ishr hx hb dL_act_159 ?_
            refine lv_aload_n hx hb dL_act_160 rfl (lv_at hl 3 rfl) ?_
            refine lv_iconst (v := (4 : Int32)) hx hb dL_act_161 (by decide) ?_
            obtain ⟨r162, hcal, h⟩ := bnd_s h
            refine x_VI (As := [.int (4 : Int32)]) hx hb hml hown hts hK hP hS (ct_X6_count l D a cA cT hI g (4 : Int32) r162 hcal) tF_0 (C := RX6) (F := TX6) (N := 5) rfl (g_V q212 q213 q214 q35 q215) yd_X6_count ⟨Nat.le_of_ble_eq_true rfl, Nat.le_of_ble_eq_true rfl⟩ [.int (x2 >>> ((1 : Int32) &&& 31)), .ref (a 0)] rfl (Nat.le_of_ble_eq_true rfl) hl.1 ⟨Nat.le_refl _, Nat.le_refl _⟩ dL_act_162 (fun H locs hP hS => ?_)
            refine lv_iconst (v := (1 : Int32)) hx hb dL_act_165 (by decide) ?_
            refine lv_iadd hx hb dL_act_166 ?_
            obtain ⟨r167, hcal, h⟩ := bnd_s h
            refine x_SI (As := [.int (x2 >>> ((1 : Int32) &&& 31)), .int (r162 + (1 : Int32))]) hx hb hml hown hts hK hP hS (ct_L_low l D a cA cT hI g (x2 >>> ((1 : Int32) &&& 31)) (r162 + (1 : Int32)) r167 hcal) (g_S q299 q300 q34 q301) yd_L_low ⟨Nat.le_of_ble_eq_true rfl, Nat.le_of_ble_eq_true rfl⟩ [.ref (a 0)] rfl (Nat.le_of_ble_eq_true rfl) hl.1 ⟨Nat.le_refl _, Nat.le_refl _⟩ dL_act_167 (fun H locs hP hS => ?_)
            refine lv_iload_n hx hb dL_act_170 rfl (lv_at hl 5 rfl) ?_
            refine lv_bipush (v := (7 : Int32)) hx hb dL_act_171 (by decide) ?_
            refine lv_ishr hx hb dL_act_173 ?_
            refine lv_sipush (v := (1000 : Int32)) hx hb dL_act_174 (by decide) ?_
            obtain ⟨r177, hcal, h⟩ := bnd_s h
            refine x_SI (As := [.int (x2 >>> ((7 : Int32) &&& 31)), .int (1000 : Int32)]) hx hb hml hown hts hK hP hS (ct_L_low l D a cA cT hI g (x2 >>> ((7 : Int32) &&& 31)) (1000 : Int32) r177 hcal) (g_S q299 q300 q34 q301) yd_L_low ⟨Nat.le_of_ble_eq_true rfl, Nat.le_of_ble_eq_true rfl⟩ [.int r167, .ref (a 0)] rfl (Nat.le_of_ble_eq_true rfl) hl.1 ⟨Nat.le_refl _, Nat.le_refl _⟩ dL_act_177 (fun H locs hP hS => ?_)
            obtain ⟨r180, g180, hcal, h⟩ := bnd2_s h
            refine x_VI (As := [.int r167, .int r177]) hx hb hml hown hts hK hP hS (ct_X6_rekey l D a cA cT hI g r167 r177 r180 g180 hcal) tF_0 (C := RX6) (F := TX6) (N := 5) rfl (g_V q472 q473 q474 q35 q475) yd_X6_rekey ⟨Nat.le_of_ble_eq_true rfl, Nat.le_of_ble_eq_true rfl⟩ [] rfl (Nat.le_of_ble_eq_true rfl) hl.1 ⟨Nat.le_refl _, Nat.le_refl _⟩ dL_act_180 (fun H locs hP hS => ?_)
            obtain ⟨rfl, rfl⟩ := Prod.mk.inj (Option.some.inj h)
            exact hend _ _ _ _ dL_act_183 rfl hP hS
          · have h := ite_t hc h
            refine lv_aload_n hx hb dL_act_136 rfl (lv_at hl 3 rfl) ?_
            refine lv_iload_n hx hb dL_act_137 rfl (lv_at hl 5 rfl) ?_
            refine lv_iconst (v := (1 : Int32)) hx hb dL_act_138 (by decide) ?_
            refine lv_ishr hx hb dL_act_139 ?_
            refine lv_aload_n hx hb dL_act_140 rfl (lv_at hl 3 rfl) ?_
            refine lv_iconst (v := (4 : Int32)) hx hb dL_act_141 (by decide) ?_
            obtain ⟨r142, hcal, h⟩ := bnd_s h
            refine x_VI (As := [.int (4 : Int32)]) hx hb hml hown hts hK hP hS (ct_X6_count l D a cA cT hI g (4 : Int32) r142 hcal) tF_0 (C := RX6) (F := TX6) (N := 5) rfl (g_V q212 q213 q214 q35 q215) yd_X6_count ⟨Nat.le_of_ble_eq_true rfl, Nat.le_of_ble_eq_true rfl⟩ [.int (x2 >>> ((1 : Int32) &&& 31)), .ref (a 0)] rfl (Nat.le_of_ble_eq_true rfl) hl.1 ⟨Nat.le_refl _, Nat.le_refl _⟩ dL_act_142 (fun H locs hP hS => ?_)
            refine lv_iconst (v := (1 : Int32)) hx hb dL_act_145 (by decide) ?_
            refine lv_iadd hx hb dL_act_146 ?_
            obtain ⟨r147, hcal, h⟩ := bnd_s h
            refine x_SI (As := [.int (x2 >>> ((1 : Int32) &&& 31)), .int (r142 + (1 : Int32))]) hx hb hml hown hts hK hP hS (ct_L_low l D a cA cT hI g (x2 >>> ((1 : Int32) &&& 31)) (r142 + (1 : Int32)) r147 hcal) (g_S q299 q300 q34 q301) yd_L_low ⟨Nat.le_of_ble_eq_true rfl, Nat.le_of_ble_eq_true rfl⟩ [.ref (a 0)] rfl (Nat.le_of_ble_eq_true rfl) hl.1 ⟨Nat.le_refl _, Nat.le_refl _⟩ dL_act_147 (fun H locs hP hS => ?_)
            obtain ⟨r150, g150, hcal, h⟩ := bnd2_s h
            refine x_VI (As := [.int r147]) hx hb hml hown hts hK hP hS (ct_X6_take l D a cA cT hI g r147 r150 g150 hcal) tF_0 (C := RX6) (F := TX6) (N := 5) rfl (g_V q467 q468 q469 q35 q470) yd_X6_take ⟨Nat.le_of_ble_eq_true rfl, Nat.le_of_ble_eq_true rfl⟩ [] rfl (Nat.le_of_ble_eq_true rfl) hl.1 ⟨Nat.le_refl _, Nat.le_refl _⟩ dL_act_150 (fun H locs hP hS => ?_)
            refine lv_goto (tgt := 183) hx hb dL_act_153 (by decide) ?_
            obtain ⟨rfl, rfl⟩ := Prod.mk.inj (Option.some.inj h)
            exact hend _ _ _ _ dL_act_183 rfl hP hS
      · have h := ite_f hc h
        refine lv_aload_n hx hb dL_act_92 rfl (lv_at hl 3 rfl) ?_
        refine lv_iload hx hb dL_act_93 (lv_at hl 0 rfl) ?_
        refine lv_iload hx hb dL_act_95 (lv_at hl 0 rfl) ?_
        refine lv_iconst (v := (1 : Int32)) hx hb dL_act_97 (by decide) ?_
        refine lv_iadd hx hb dL_act_98 ?_
        refine lv_iload_n hx hb dL_act_99 rfl (lv_at hl 5 rfl) ?_
        refine lv_bipush (v := (9 : Int32)) hx hb dL_act_100 (by decide) ?_
        refine lv_ishr hx hb dL_act_102 ?_
        refine lv_bipush (v := (10 : Int32)) hx hb dL_act_103 (by decide) ?_
        refine lv_sipush (v := (990 : Int32)) hx hb dL_act_105 (by decide) ?_
        refine lv_iload hx hb dL_act_108 (lv_at hl 0 rfl) ?_
        refine lv_isub hx hb dL_act_110 ?_
        refine lv_iconst (v := (2 : Int32)) hx hb dL_act_111 (by decide) ?_
        obtain ⟨hz, h⟩ := ite_n h
        refine lv_idiv hx hb dL_act_112 hz ?_
        refine lv_iadd hx hb dL_act_113 ?_
        obtain ⟨r114, hcal, h⟩ := bnd_s h
        refine x_SI (As := [.int (x2 >>> ((9 : Int32) &&& 31)), .int ((10 : Int32) + (((990 : Int32) - r29) / (2 : Int32)))]) hx hb hml hown hts hK hP hS (ct_L_low l D a cA cT hI g (x2 >>> ((9 : Int32) &&& 31)) ((10 : Int32) + (((990 : Int32) - r29) / (2 : Int32))) r114 hcal) (g_S q299 q300 q34 q301) yd_L_low ⟨Nat.le_of_ble_eq_true rfl, Nat.le_of_ble_eq_true rfl⟩ [.int (r29 + (1 : Int32)), .int r29, .ref (a 0)] rfl (Nat.le_of_ble_eq_true rfl) hl.1 ⟨Nat.le_refl _, Nat.le_refl _⟩ dL_act_114 (fun H locs hP hS => ?_)
        refine lv_iadd hx hb dL_act_117 ?_
        obtain ⟨r118, g118, hcal, h⟩ := bnd2_s h
        refine x_VI (As := [.int r29, .int ((r29 + (1 : Int32)) + r114)]) hx hb hml hown hts hK hP hS (ct_X6_addSlice l D a cA cT hI g r29 ((r29 + (1 : Int32)) + r114) r118 g118 hcal) tF_0 (C := RX6) (F := TX6) (N := 5) rfl (g_V q431 q432 q433 q35 q434) yd_X6_addSlice ⟨Nat.le_of_ble_eq_true rfl, Nat.le_of_ble_eq_true rfl⟩ [] rfl (Nat.le_of_ble_eq_true rfl) hl.1 ⟨Nat.le_refl _, Nat.le_refl _⟩ dL_act_118 (fun H locs hP hS => ?_)
        obtain ⟨rfl, rfl⟩ := Prod.mk.inj (Option.some.inj h)
        exact hend _ _ _ _ dL_act_121 rfl hP hS
    · have h := ite_t hc h
      refine lv_aload_n hx hb dL_act_65 rfl (lv_at hl 3 rfl) ?_
      refine lv_iload_n hx hb dL_act_66 rfl (lv_at hl 5 rfl) ?_
      refine lv_sipush (v := (1000 : Int32)) hx hb dL_act_67 (by decide) ?_
      obtain ⟨r70, hcal, h⟩ := bnd_s h
      refine x_SI (As := [.int x2, .int (1000 : Int32)]) hx hb hml hown hts hK hP hS (ct_L_low l D a cA cT hI g x2 (1000 : Int32) r70 hcal) (g_S q299 q300 q34 q301) yd_L_low ⟨Nat.le_of_ble_eq_true rfl, Nat.le_of_ble_eq_true rfl⟩ [.ref (a 0)] rfl (Nat.le_of_ble_eq_true rfl) hl.1 ⟨Nat.le_refl _, Nat.le_refl _⟩ dL_act_70 (fun H locs hP hS => ?_)
      refine lv_iload_n hx hb dL_act_73 rfl (lv_at hl 5 rfl) ?_
      refine lv_bipush (v := (10 : Int32)) hx hb dL_act_74 (by decide) ?_
      refine lv_ishr hx hb dL_act_76 ?_
      refine lv_bipush (v := (100 : Int32)) hx hb dL_act_77 (by decide) ?_
      obtain ⟨r79, hcal, h⟩ := bnd_s h
      refine x_SI (As := [.int (x2 >>> ((10 : Int32) &&& 31)), .int (100 : Int32)]) hx hb hml hown hts hK hP hS (ct_L_low l D a cA cT hI g (x2 >>> ((10 : Int32) &&& 31)) (100 : Int32) r79 hcal) (g_S q299 q300 q34 q301) yd_L_low ⟨Nat.le_of_ble_eq_true rfl, Nat.le_of_ble_eq_true rfl⟩ [.int r70, .ref (a 0)] rfl (Nat.le_of_ble_eq_true rfl) hl.1 ⟨Nat.le_refl _, Nat.le_refl _⟩ dL_act_79 (fun H locs hP hS => ?_)
      obtain ⟨r82, g82, hcal, h⟩ := bnd2_s h
      refine x_VI (As := [.int r70, .int r79]) hx hb hml hown hts hK hP hS (ct_X6_stage l D a cA cT hI g r70 r79 r82 g82 hcal) tF_0 (C := RX6) (F := TX6) (N := 5) rfl (g_V q427 q428 q429 q35 q430) yd_X6_stage ⟨Nat.le_of_ble_eq_true rfl, Nat.le_of_ble_eq_true rfl⟩ [] rfl (Nat.le_of_ble_eq_true rfl) hl.1 ⟨Nat.le_refl _, Nat.le_refl _⟩ dL_act_82 (fun H locs hP hS => ?_)
      obtain ⟨rfl, rfl⟩ := Prod.mk.inj (Option.some.inj h)
      exact hend _ _ _ _ dL_act_85 rfl hP hS
  · have h := ite_f hc h
    refine lv_aload_n hx hb dL_act_39 rfl (lv_at hl 3 rfl) ?_
    refine lv_iload_n hx hb dL_act_40 rfl (lv_at hl 5 rfl) ?_
    refine lv_sipush (v := (1000 : Int32)) hx hb dL_act_41 (by decide) ?_
    obtain ⟨r44, hcal, h⟩ := bnd_s h
    refine x_SI (As := [.int x2, .int (1000 : Int32)]) hx hb hml hown hts hK hP hS (ct_L_low l D a cA cT hI g x2 (1000 : Int32) r44 hcal) (g_S q299 q300 q34 q301) yd_L_low ⟨Nat.le_of_ble_eq_true rfl, Nat.le_of_ble_eq_true rfl⟩ [.ref (a 0)] rfl (Nat.le_of_ble_eq_true rfl) hl.1 ⟨Nat.le_refl _, Nat.le_refl _⟩ dL_act_44 (fun H locs hP hS => ?_)
    refine lv_iload_n hx hb dL_act_47 rfl (lv_at hl 5 rfl) ?_
    refine lv_bipush (v := (10 : Int32)) hx hb dL_act_48 (by decide) ?_
    refine lv_ishr hx hb dL_act_50 ?_
    refine lv_bipush (v := (100 : Int32)) hx hb dL_act_51 (by decide) ?_
    obtain ⟨r53, hcal, h⟩ := bnd_s h
    refine x_SI (As := [.int (x2 >>> ((10 : Int32) &&& 31)), .int (100 : Int32)]) hx hb hml hown hts hK hP hS (ct_L_low l D a cA cT hI g (x2 >>> ((10 : Int32) &&& 31)) (100 : Int32) r53 hcal) (g_S q299 q300 q34 q301) yd_L_low ⟨Nat.le_of_ble_eq_true rfl, Nat.le_of_ble_eq_true rfl⟩ [.int r44, .ref (a 0)] rfl (Nat.le_of_ble_eq_true rfl) hl.1 ⟨Nat.le_refl _, Nat.le_refl _⟩ dL_act_53 (fun H locs hP hS => ?_)
    obtain ⟨r56, g56, hcal, h⟩ := bnd2_s h
    refine x_VI (As := [.int r44, .int r53]) hx hb hml hown hts hK hP hS (ct_X6_put l D a cA cT hI g r44 r53 r56 g56 hcal) tF_0 (C := RX6) (F := TX6) (N := 5) rfl (g_V q405 q406 q407 q35 q408) yd_X6_put ⟨Nat.le_of_ble_eq_true rfl, Nat.le_of_ble_eq_true rfl⟩ [] rfl (Nat.le_of_ble_eq_true rfl) hl.1 ⟨Nat.le_refl _, Nat.le_refl _⟩ dL_act_56 (fun H locs hP hS => ?_)
    obtain ⟨rfl, rfl⟩ := Prod.mk.inj (Option.some.inj h)
    exact hend _ _ _ _ dL_act_59 rfl hP hS
