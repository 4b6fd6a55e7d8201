set_option maxHeartbeats 4000000 in
set_option maxRecDepth 100000 in
theorem ct_X0_at (l : Launch) (D : va_G) (a : Nat → Nat) (cA cT : ClassId) (hI : WI a TC) (g : MG) (k1 : Nat) (n : Nat) (x0 : Int32) (k : Nat) (hk : TC[k]? = some (.inl (0, [some k1]))) (hk1 : TC[k1]? = some (.inr (.inl n))) (r : Int32) (h : m_X0_at g k1 n x0 = some r) :
    CtI l D a cA cT TC yX0_at (Cond.code yX0_at cX0_at 2 (some .int) :: lw_all) (rmm 0 0) [.ref (a k), .int x0] g r g := by
  refine CtI.of (by decide +kernel) (Nat.le_of_ble_eq_true rfl) ?_
  intro p e s m args below meth c Q ls hx hb hml hown hts hK hP hS hl hend
  have hl : lv_has ls 2 [(0, .ref (a k)), (1, .int x0)] := hl
  unfold m_X0_at at h
  refine lv_iload_n hx hb dX0_at_0 rfl (lv_at hl 1 rfl) ?_
  refine lv_if_lt (tgt := 22) hx hb dX0_at_1 (by decide) (fun hc => ?_) (fun hc => ?_)
  · have h := ite_t hc h
    refine lv_iconst (v := (0 : Int32)) hx hb dX0_at_22 (by decide) ?_
    obtain rfl := Option.some.inj h
    exact hend _ _ _ _ dX0_at_23 rfl hP hS
  · have h := ite_f hc h
    refine lv_iload_n hx hb dX0_at_4 rfl (lv_at hl 1 rfl) ?_
    refine lv_aload_n hx hb dX0_at_5 rfl (lv_at hl 0 rfl) ?_
    refine x_getr hx hb hts inX0 hown hK hP hk (C := RX0) (F := TX0) (N := 1) rfl 0 (by decide) q68 rfl k1 rfl dX0_at_6 ?_
    refine x_len hx hb hK hP hk1 dX0_at_9 ?_
    refine lv_icmp_ge (tgt := 22) hx hb dX0_at_10 (by decide) (fun hc => ?_) (fun hc => ?_)
    · have h := ite_t hc h
      refine lv_iconst (v := (0 : Int32)) hx hb dX0_at_22 (by decide) ?_
      obtain rfl := Option.some.inj h
      exact hend _ _ _ _ dX0_at_23 rfl hP hS
    · have h := ite_f hc h
      refine lv_aload_n hx hb dX0_at_13 rfl (lv_at hl 0 rfl) ?_
      refine x_getr hx hb hts inX0 hown hK hP hk (C := RX0) (F := TX0) (N := 1) rfl 0 (by decide) q68 rfl k1 rfl dX0_at_14 ?_
      refine lv_iload_n hx hb dX0_at_17 rfl (lv_at hl 1 rfl) ?_
      obtain ⟨hz, h⟩ := ite_n h
      refine x_ald hx hb hK hP hk1 hz dX0_at_18 ?_
      refine lv_goto (tgt := 23) hx hb dX0_at_19 (by decide) ?_
      obtain rfl := Option.some.inj h
      exact hend _ _ _ _ dX0_at_23 rfl hP hS
set_option maxHeartbeats 4000000 in
set_option maxRecDepth 100000 in
theorem ct_X0_write (l : Launch) (D : va_G) (a : Nat → Nat) (cA cT : ClassId) (hI : WI a TC) (g : MG) (k1 : Nat) (n : Nat) (x0 : Int32) (x1 : Int32) (k : Nat) (hk : TC[k]? = some (.inl (0, [some k1]))) (hk1 : TC[k1]? = some (.inr (.inl n))) (g' : MG) (h : m_X0_write g k1 n x0 x1 = some g') :
    CtV l D a cA cT TC yX0_write (Cond.code yX0_write cX0_write 3 none :: lw_all) (rmm 0 0) [.ref (a k), .int x0, .int x1] g g' := by
  refine CtV.of (by decide +kernel) (Nat.le_of_ble_eq_true rfl) ?_
  intro p e s m args below meth c Q ls hx hb hml hown hts hK hP hS hl hend
  have hl : lv_has ls 3 [(0, .ref (a k)), (1, .int x0), (2, .int x1)] := hl
  unfold m_X0_write at h
  refine lv_iload_n hx hb dX0_write_0 rfl (lv_at hl 1 rfl) ?_
  refine lv_if_lt (tgt := 20) hx hb dX0_write_1 (by decide) (fun hc => ?_) (fun hc => ?_)
  · have h := ite_t hc h
    obtain rfl := Option.some.inj h
    exact hend _ _ _ _ dX0_write_20 hP hS
  · have h := ite_f hc h
    refine lv_iload_n hx hb dX0_write_4 rfl (lv_at hl 1 rfl) ?_
    refine lv_aload_n hx hb dX0_write_5 rfl (lv_at hl 0 rfl) ?_
    refine x_getr hx hb hts inX0 hown hK hP hk (C := RX0) (F := TX0) (N := 1) rfl 0 (by decide) q68 rfl k1 rfl dX0_write_6 ?_
    refine x_len hx hb hK hP hk1 dX0_write_9 ?_
    refine lv_icmp_ge (tgt := 20) hx hb dX0_write_10 (by decide) (fun hc => ?_) (fun hc => ?_)
    · have h := ite_t hc h
      obtain rfl := Option.some.inj h
      exact hend _ _ _ _ dX0_write_20 hP hS
    · have h := ite_f hc h
      refine lv_aload_n hx hb dX0_write_13 rfl (lv_at hl 0 rfl) ?_
      refine x_getr hx hb hts inX0 hown hK hP hk (C := RX0) (F := TX0) (N := 1) rfl 0 (by decide) q68 rfl k1 rfl dX0_write_14 ?_
      refine lv_iload_n hx hb dX0_write_17 rfl (lv_at hl 1 rfl) ?_
      refine lv_iload_n hx hb dX0_write_18 rfl (lv_at hl 2 rfl) ?_
      obtain ⟨hz, h⟩ := ite_n h
      refine x_ast hx hb hK hI hP hS hk1 hz dX0_write_19 (fun H locs hP hS => ?_)
      obtain rfl := Option.some.inj h
      exact hend _ _ _ _ dX0_write_20 hP hS
set_option maxHeartbeats 4000000 in
set_option maxRecDepth 100000 in
theorem ct_X0_clear (l : Launch) (D : va_G) (a : Nat → Nat) (cA cT : ClassId) (hI : WI a TC) (g : MG) (k1 : Nat) (n : Nat) (k : Nat) (hk : TC[k]? = some (.inl (0, [some k1]))) (hk1 : TC[k1]? = some (.inr (.inl n))) (g' : MG) (h : m_X0_clear g k1 n = some g') :
    CtV l D a cA cT TC yX0_clear (Cond.code yX0_clear cX0_clear 2 none :: lw_all) (rmm 0 0) [.ref (a k)] g g' := by
  refine CtV.of (by decide +kernel) (Nat.le_of_ble_eq_true rfl) ?_
  intro p e s m args below meth c Q ls hx hb hml hown hts hK hP hS hl hend
  have hl : lv_has ls 2 [(0, .ref (a k))] := hl
  unfold m_X0_clear at h
  refine lv_iconst (v := (0 : Int32)) hx hb dX0_clear_0 (by decide) ?_
  refine lv_istore_n (lv' := [(1, .int (0 : Int32)), (0, .ref (a k))]) hx hb dX0_clear_1 rfl hl (by decide) rfl (fun ls hl => ?_)
  have K2 : ∀ (n2 : Nat) (v1 : Int32) (g2 : MG) (H : Heap) (locs : List Loc) (ls : Array Slot), WP D a cA cT TC g2 H → va_S (AA a TC) s.heap H locs → lv_has ls 2 [(0, .ref (a k)), (1, .int v1)] → lpo (b_X0_clear_L2 k1 n) n2 (v1, g2) = some g' → W p l e (rmm 0 0) s m args below meth c H locs 0 0 Q (F0 m 2 ls []) := by
    intro n2
    induction n2 with
    | zero => intro v1 g2 H locs ls hP hS hl h; exact (lpo_0 h).elim
    | succ n2 ih2 =>
      intro v1 g2 H locs ls hP hS hl h
      have h : m_X0_clear_L2 (lpo (b_X0_clear_L2 k1 n) n2) k1 n v1 g2 = some g' := h
      unfold m_X0_clear_L2 at h
      refine lv_iload_n hx hb dX0_clear_2 rfl (lv_at hl 1 rfl) ?_
      refine lv_aload_n hx hb dX0_clear_3 rfl (lv_at hl 0 rfl) ?_
      refine x_getr hx hb hts inX0 hown hK hP hk (C := RX0) (F := TX0) (N := 1) rfl 0 (by decide) q68 rfl k1 rfl dX0_clear_4 ?_
      refine x_len hx hb hK hP hk1 dX0_clear_7 ?_
      refine lv_icmp_ge (tgt := 24) hx hb dX0_clear_8 (by decide) (fun hc => ?_) (fun hc => ?_)
      · have h := ite_t hc h
        obtain rfl := Option.some.inj h
        exact hend _ _ _ _ dX0_clear_24 hP hS
      · have h := ite_f hc h
        refine lv_aload_n hx hb dX0_clear_11 rfl (lv_at hl 0 rfl) ?_
        refine x_getr hx hb hts inX0 hown hK hP hk (C := RX0) (F := TX0) (N := 1) rfl 0 (by decide) q68 rfl k1 rfl dX0_clear_12 ?_
        refine lv_iload_n hx hb dX0_clear_15 rfl (lv_at hl 1 rfl) ?_
        refine lv_iconst (v := (0 : Int32)) hx hb dX0_clear_16 (by decide) ?_
        obtain ⟨hz, h⟩ := ite_n h
        refine x_ast hx hb hK hI hP hS hk1 hz dX0_clear_17 (fun H locs hP hS => ?_)
        refine lv_iinc (v := (v1 + (1 : Int32))) (lv' := [(1, .int (v1 + (1 : Int32))), (0, .ref (a k))]) hx hb dX0_clear_18 hl (k := 1) rfl rfl (by decide) rfl (fun ls hl => ?_)
        refine lv_goto (tgt := 2) hx hb dX0_clear_21 (by decide) ?_
        exact ih2 (v1 + (1 : Int32)) (g_w g2 k1 v1.toNatClampNeg (0 : Int32)) _ _ _ hP hS (lv_sub hl [1, 0] rfl) h
  exact K2 fuelN (0 : Int32) g _ _ _ hP hS (lv_sub hl [1, 0] rfl) h
set_option maxHeartbeats 4000000 in
set_option maxRecDepth 100000 in
theorem ct_X0_copyFrom (l : Launch) (D : va_G) (a : Nat → Nat) (cA cT : ClassId) (hI : WI a TC) (g : MG) (k1 : Nat) (n : Nat) (k2 : Nat) (n2 : Nat) (k : Nat) (hk : TC[k]? = some (.inl (0, [some k1]))) (hk1 : TC[k1]? = some (.inr (.inl n))) (k3 : Nat) (hk3 : TC[k3]? = some (.inl (0, [some k2]))) (hk2 : TC[k2]? = some (.inr (.inl n2))) (g' : MG) (h : m_X0_copyFrom g k1 n k2 n2 = some g') :
    CtV l D a cA cT TC yX0_copyFrom (Cond.code yX0_copyFrom cX0_copyFrom 2 none :: lw_all) (rmm 1 26) [.ref (a k), .ref (a k3)] g g' := by
  refine CtV.of (by decide +kernel) (Nat.le_of_ble_eq_true rfl) ?_
  intro p e s m args below meth c Q ls hx hb hml hown hts hK hP hS hl hend
  have hl : lv_has ls 2 [(0, .ref (a k)), (1, .ref (a k3))] := hl
  unfold m_X0_copyFrom at h
  refine lv_aload_n hx hb dX0_copyFrom_0 rfl (lv_at hl 1 rfl) ?_
  refine x_getr hx hb hts inX0 hown hK hP hk3 (C := RX0) (F := TX0) (N := 1) rfl 0 (by decide) q68 rfl k2 rfl dX0_copyFrom_1 ?_
  refine lv_iconst (v := (0 : Int32)) hx hb dX0_copyFrom_4 (by decide) ?_
  refine lv_aload_n hx hb dX0_copyFrom_5 rfl (lv_at hl 0 rfl) ?_
  refine x_getr hx hb hts inX0 hown hK hP hk (C := RX0) (F := TX0) (N := 1) rfl 0 (by decide) q68 rfl k1 rfl dX0_copyFrom_6 ?_
  refine lv_iconst (v := (0 : Int32)) hx hb dX0_copyFrom_9 (by decide) ?_
  refine lv_aload_n hx hb dX0_copyFrom_10 rfl (lv_at hl 0 rfl) ?_
  refine x_getr hx hb hts inX0 hown hK hP hk (C := RX0) (F := TX0) (N := 1) rfl 0 (by decide) q68 rfl k1 rfl dX0_copyFrom_11 ?_
  refine x_len hx hb hK hP hk1 dX0_copyFrom_14 ?_
  refine lv_aload_n hx hb dX0_copyFrom_15 rfl (lv_at hl 1 rfl) ?_
  refine x_getr hx hb hts inX0 hown hK hP hk3 (C := RX0) (F := TX0) (N := 1) rfl 0 (by decide) q68 rfl k2 rfl dX0_copyFrom_16 ?_
  refine x_len hx hb hK hP hk2 dX0_copyFrom_19 ?_
  refine va_mmin hx hb (hml.trans hl.1.symm) hown (hts _ q201) (hts _ q202) (hts _ q42) (hts _ q203) (Nat.le_of_ble_eq_true rfl) (Nat.le_of_ble_eq_true rfl) (Nat.le_refl _) (Nat.le_refl _) dX0_copyFrom_20 ?_
  obtain ⟨hz, h⟩ := ite_n h
  refine x_copy hx hb (hml.trans hl.1.symm) hts hown q204 q206 q205 q43 hK hI hP hS hk2 hk1 hz (Nat.le_of_ble_eq_true rfl) (Nat.le_of_ble_eq_true rfl) dX0_copyFrom_23 (fun H locs hP hS => ?_)
  obtain rfl := Option.some.inj h
  exact hend _ _ _ _ dX0_copyFrom_26 hP hS
set_option maxHeartbeats 4000000 in
set_option maxRecDepth 100000 in
theorem ct_X1_putOldestLast (l : Launch) (D : va_G) (a : Nat → Nat) (cA cT : ClassId) (hI : WI a TC) (g : MG)   (g' : MG) (h : m_X1_putOldestLast g = some g') :
    CtV l D a cA cT TC yX1_putOldestLast (Cond.code yX1_putOldestLast cX1_putOldestLast 3 none :: lw_all) (rmm 0 0) [.ref (a 1)] g g' := by
  refine CtV.of (by decide +kernel) (Nat.le_of_ble_eq_true rfl) ?_
  intro p e s m args below meth c Q ls hx hb hml hown hts hK hP hS hl hend
  have hl : lv_has ls 3 [(0, .ref (a 1))] := hl
  unfold m_X1_putOldestLast at h
  refine lv_iconst (v := (1 : Int32)) hx hb dX1_putOldestLast_0 (by decide) ?_
  refine lv_istore_n (lv' := [(1, .int (1 : Int32)), (0, .ref (a 1))]) hx hb dX1_putOldestLast_1 rfl hl (by decide) rfl (fun ls hl => ?_)
  have K2 : ∀ (n2 : Nat) (v1 : Int32) (g2 : MG) (H : Heap) (locs : List Loc) (ls : Array Slot), WP D a cA cT TC g2 H → va_S (AA a TC) s.heap H locs → lv_has ls 3 [(0, .ref (a 1)), (1, .int v1)] → lpo (b_X1_putOldestLast_L2) n2 (v1, g2) = some g' → W p l e (rmm 0 0) s m args below meth c H locs 0 0 Q (F0 m 2 ls []) := by
    intro n2
    induction n2 with
    | zero => intro v1 g2 H locs ls hP hS hl h; exact (lpo_0 h).elim
    | succ n2 ih2 =>
      intro v1 g2 H locs ls hP hS hl h
      have h : m_X1_putOldestLast_L2 (lpo (b_X1_putOldestLast_L2) n2)  v1 g2 = some g' := h
      unfold m_X1_putOldestLast_L2 at h
      refine lv_iload_n hx hb dX1_putOldestLast_2 rfl (lv_at hl 1 rfl) ?_
      refine lv_aload_n hx hb dX1_putOldestLast_3 rfl (lv_at hl 0 rfl) ?_
      refine x_getr hx hb hts inX1 hown hK hP tF_1 (C := RX1) (F := TX1) (N := 4) rfl 0 (by decide) q122 rfl 2 rfl dX1_putOldestLast_4 ?_
      refine x_lenT hx hb hK hP tF_2 dX1_putOldestLast_7 ?_
      refine lv_icmp_ge (tgt := 47) hx hb dX1_putOldestLast_8 (by decide) (fun hc => ?_) (fun hc => ?_)
      · have h := ite_t hc h
        obtain rfl := Option.some.inj h
        exact hend _ _ _ _ dX1_putOldestLast_47 hP hS
      · have h := ite_f hc h
        refine lv_aload_n hx hb dX1_putOldestLast_11 rfl (lv_at hl 0 rfl) ?_
        refine x_getr hx hb hts inX1 hown hK hP tF_1 (C := RX1) (F := TX1) (N := 4) rfl 0 (by decide) q122 rfl 2 rfl dX1_putOldestLast_12 ?_
        refine lv_iload_n hx hb dX1_putOldestLast_15 rfl (lv_at hl 1 rfl) ?_
        refine lv_iconst (v := (1 : Int32)) hx hb dX1_putOldestLast_16 (by decide) ?_
        refine lv_isub hx hb dX1_putOldestLast_17 ?_
        obtain ⟨⟨hz, hu3⟩, h⟩ := ite_n h
        refine x_aldT hx hb hK hP tF_2 hz dX1_putOldestLast_18 ?_
        refine lv_astore_n (lv' := [(2, .ref (a (20 + 15 * (g2.2 (v1 - (1 : Int32)).toNatClampNeg)))), (0, .ref (a 1)), (1, .int v1)]) hx hb dX1_putOldestLast_19 rfl hl (by decide) rfl (fun ls hl => ?_)
        refine lv_aload_n hx hb dX1_putOldestLast_20 rfl (lv_at hl 1 rfl) ?_
        refine x_getr hx hb hts inX1 hown hK hP tF_1 (C := RX1) (F := TX1) (N := 4) rfl 0 (by decide) q122 rfl 2 rfl dX1_putOldestLast_21 ?_
        refine lv_iload_n hx hb dX1_putOldestLast_24 rfl (lv_at hl 2 rfl) ?_
        refine lv_iconst (v := (1 : Int32)) hx hb dX1_putOldestLast_25 (by decide) ?_
        refine lv_isub hx hb dX1_putOldestLast_26 ?_
        refine lv_aload_n hx hb dX1_putOldestLast_27 rfl (lv_at hl 1 rfl) ?_
        refine x_getr hx hb hts inX1 hown hK hP tF_1 (C := RX1) (F := TX1) (N := 4) rfl 0 (by decide) q122 rfl 2 rfl dX1_putOldestLast_28 ?_
        refine lv_iload_n hx hb dX1_putOldestLast_31 rfl (lv_at hl 2 rfl) ?_
        obtain ⟨⟨hz, hu4⟩, h⟩ := ite_n h
        refine x_aldT hx hb hK hP tF_2 hz dX1_putOldestLast_32 ?_
        obtain ⟨hz, h⟩ := ite_n h
        refine x_astT hx hb hK hI hP hS tF_2 tF_only (tT_20 hu4) hz dX1_putOldestLast_33 (fun H locs hP hS => ?_)
        refine lv_aload_n hx hb dX1_putOldestLast_34 rfl (lv_at hl 1 rfl) ?_
        refine x_getr hx hb hts inX1 hown hK hP tF_1 (C := RX1) (F := TX1) (N := 4) rfl 0 (by decide) q122 rfl 2 rfl dX1_putOldestLast_35 ?_
        refine lv_iload_n hx hb dX1_putOldestLast_38 rfl (lv_at hl 2 rfl) ?_
        refine lv_aload_n hx hb dX1_putOldestLast_39 rfl (lv_at hl 0 rfl) ?_
        obtain ⟨hz, h⟩ := ite_n h
        refine x_astT hx hb hK hI hP hS tF_2 tF_only (tT_20 hu3) hz dX1_putOldestLast_40 (fun H locs hP hS => ?_)
        refine lv_iinc (v := (v1 + (1 : Int32))) (lv' := [(1, .int (v1 + (1 : Int32))), (2, .ref (a (20 + 15 * (g2.2 (v1 - (1 : Int32)).toNatClampNeg)))), (0, .ref (a 1))]) hx hb dX1_putOldestLast_41 hl (k := 2) rfl rfl (by decide) rfl (fun ls hl => ?_)
        refine lv_goto (tgt := 2) hx hb dX1_putOldestLast_44 (by decide) ?_
        exact ih2 (v1 + (1 : Int32)) (g_p (g_p g2 (v1 - (1 : Int32)).toNatClampNeg (g2.2 v1.toNatClampNeg)) v1.toNatClampNeg (g2.2 (v1 - (1 : Int32)).toNatClampNeg)) _ _ _ hP hS (lv_sub hl [2, 0] rfl) h
  exact K2 fuelN (1 : Int32) g _ _ _ hP hS (lv_sub hl [1, 0] rfl) h
set_option maxHeartbeats 4000000 in
set_option maxRecDepth 100000 in
theorem ct_X1_stateAt (l : Launch) (D : va_G) (a : Nat → Nat) (cA cT : ClassId) (hI : WI a TC) (g : MG) (x0 : Int32)  (r : Option Nat) (h : m_X1_stateAt g x0 = some r) :
    CtQ l D a cA cT TC yX1_stateAt (Cond.code yX1_stateAt cX1_stateAt 2 (some (.object "PrunedSlices$Table")) :: lw_all) (rmm 0 0) [.ref (a 1), .int x0] g r g := by
  refine CtQ.of (by decide +kernel) (Nat.le_of_ble_eq_true rfl) ?_
  intro p e s m args below meth c Q ls hx hb hml hown hts hK hP hS hl hend
  have hl : lv_has ls 2 [(0, .ref (a 1)), (1, .int x0)] := hl
  unfold m_X1_stateAt at h
  refine lv_iload_n hx hb dX1_stateAt_0 rfl (lv_at hl 1 rfl) ?_
  refine lv_if_lt (tgt := 22) hx hb dX1_stateAt_1 (by decide) (fun hc => ?_) (fun hc => ?_)
  · have h := ite_t hc h
    refine lv_null hx hb dX1_stateAt_22 ?_
    obtain rfl := Option.some.inj h
    exact hend _ _ _ _ dX1_stateAt_23 hP hS
  · have h := ite_f hc h
    refine lv_iload_n hx hb dX1_stateAt_4 rfl (lv_at hl 1 rfl) ?_
    refine lv_aload_n hx hb dX1_stateAt_5 rfl (lv_at hl 0 rfl) ?_
    refine x_getr hx hb hts inX1 hown hK hP tF_1 (C := RX1) (F := TX1) (N := 4) rfl 0 (by decide) q122 rfl 2 rfl dX1_stateAt_6 ?_
    refine x_lenT hx hb hK hP tF_2 dX1_stateAt_9 ?_
    refine lv_icmp_ge (tgt := 22) hx hb dX1_stateAt_10 (by decide) (fun hc => ?_) (fun hc => ?_)
    · have h := ite_t hc h
      refine lv_null hx hb dX1_stateAt_22 ?_
      obtain rfl := Option.some.inj h
      exact hend _ _ _ _ dX1_stateAt_23 hP hS
    · have h := ite_f hc h
      refine lv_aload_n hx hb dX1_stateAt_13 rfl (lv_at hl 0 rfl) ?_
      refine x_getr hx hb hts inX1 hown hK hP tF_1 (C := RX1) (F := TX1) (N := 4) rfl 0 (by decide) q122 rfl 2 rfl dX1_stateAt_14 ?_
      refine lv_iload_n hx hb dX1_stateAt_17 rfl (lv_at hl 1 rfl) ?_
      obtain ⟨⟨hz, hu1⟩, h⟩ := ite_n h
      refine x_aldT hx hb hK hP tF_2 hz dX1_stateAt_18 ?_
      refine lv_goto (tgt := 23) hx hb dX1_stateAt_19 (by decide) ?_
      obtain rfl := Option.some.inj h
      exact hend _ _ _ _ dX1_stateAt_23 hP hS
set_option maxHeartbeats 4000000 in
set_option maxRecDepth 100000 in
theorem ct_X3_copyFrom (l : Launch) (D : va_G) (a : Nat → Nat) (cA cT : ClassId) (hI : WI a TC) (g : MG) (t : Nat) (t2 : Nat) (ht : t < 6) (ht2 : t2 < 6) (g' : MG) (h : m_X3_copyFrom g t t2 = some g') :
    CtV l D a cA cT TC yX3_copyFrom (Cond.code yX3_copyFrom cX3_copyFrom 2 none :: lw_all) (rmm 2 47) [.ref (a (21 + 15 * t)), .ref (a (21 + 15 * t2))] g g' := by
  refine CtV.of (by decide +kernel) (Nat.le_of_ble_eq_true rfl) ?_
  intro p e s m args below meth c Q ls hx hb hml hown hts hK hP hS hl hend
  have hl : lv_has ls 2 [(0, .ref (a (21 + 15 * t))), (1, .ref (a (21 + 15 * t2)))] := hl
  unfold m_X3_copyFrom at h
  refine lv_aload_n hx hb dX3_copyFrom_0 rfl (lv_at hl 0 rfl) ?_
  refine x_getr hx hb hts inX3 hown hK hP (tT_21 ht) (C := RX3) (F := TX3) (N := 4) rfl 0 (by decide) q71 rfl (23 + 15 * t) rfl dX3_copyFrom_1 ?_
  refine lv_aload_n hx hb dX3_copyFrom_4 rfl (lv_at hl 1 rfl) ?_
  refine x_getr hx hb hts inX3 hown hK hP (tT_21 ht2) (C := RX3) (F := TX3) (N := 4) rfl 0 (by decide) q71 rfl (23 + 15 * t2) rfl dX3_copyFrom_5 ?_
  obtain ⟨g8, hcal, h⟩ := bnd_s h
  refine x_VV (As := [.ref (a (23 + 15 * t2))]) hx hb hml hown hts hK hP hS (ct_X0_copyFrom l D a cA cT hI g (24 + 15 * t) 400 (24 + 15 * t2) 400 (23 + 15 * t) (tT_23 ht) (tT_24 ht) (23 + 15 * t2) (tT_23 ht2) (tT_24 ht2) g8 hcal) (tT_23 ht) (C := RX0) (F := TX0) (N := 1) rfl (g_V q197 q198 q199 q38 q200) yd_X0_copyFrom ⟨Nat.le_of_ble_eq_true rfl, Nat.le_of_ble_eq_true rfl⟩ [] rfl (Nat.le_of_ble_eq_true rfl) hl.1 ⟨Nat.le_refl _, Nat.le_refl _⟩ dX3_copyFrom_8 (fun H locs hP hS => ?_)
  refine lv_aload_n hx hb dX3_copyFrom_11 rfl (lv_at hl 0 rfl) ?_
  refine x_getr hx hb hts inX3 hown hK hP (tT_21 ht) (C := RX3) (F := TX3) (N := 4) rfl 1 (by decide) q72 rfl (25 + 15 * t) rfl dX3_copyFrom_12 ?_
  refine lv_aload_n hx hb dX3_copyFrom_15 rfl (lv_at hl 1 rfl) ?_
  refine x_getr hx hb hts inX3 hown hK hP (tT_21 ht2) (C := RX3) (F := TX3) (N := 4) rfl 1 (by decide) q72 rfl (25 + 15 * t2) rfl dX3_copyFrom_16 ?_
  obtain ⟨g19, hcal, h⟩ := bnd_s h
  refine x_VV (As := [.ref (a (25 + 15 * t2))]) hx hb hml hown hts hK hP hS (ct_X0_copyFrom l D a cA cT hI g8 (26 + 15 * t) 400 (26 + 15 * t2) 400 (25 + 15 * t) (tT_25 ht) (tT_26 ht) (25 + 15 * t2) (tT_25 ht2) (tT_26 ht2) g19 hcal) (tT_25 ht) (C := RX0) (F := TX0) (N := 1) rfl (g_V q197 q198 q199 q38 q200) yd_X0_copyFrom ⟨Nat.le_of_ble_eq_true rfl, Nat.le_of_ble_eq_true rfl⟩ [] rfl (Nat.le_of_ble_eq_true rfl) hl.1 ⟨Nat.le_refl _, Nat.le_refl _⟩ dX3_copyFrom_19 (fun H locs hP hS => ?_)
  refine lv_aload_n hx hb dX3_copyFrom_22 rfl (lv_at hl 0 rfl) ?_
  refine x_getr hx hb hts inX3 hown hK hP (tT_21 ht) (C := RX3) (F := TX3) (N := 4) rfl 2 (by decide) q73 rfl (27 + 15 * t) rfl dX3_copyFrom_23 ?_
  refine lv_aload_n hx hb dX3_copyFrom_26 rfl (lv_at hl 1 rfl) ?_
  refine x_getr hx hb hts inX3 hown hK hP (tT_21 ht2) (C := RX3) (F := TX3) (N := 4) rfl 2 (by decide) q73 rfl (27 + 15 * t2) rfl dX3_copyFrom_27 ?_
  obtain ⟨g30, hcal, h⟩ := bnd_s h
  refine x_VV (As := [.ref (a (27 + 15 * t2))]) hx hb hml hown hts hK hP hS (ct_X0_copyFrom l D a cA cT hI g19 (28 + 15 * t) 400 (28 + 15 * t2) 400 (27 + 15 * t) (tT_27 ht) (tT_28 ht) (27 + 15 * t2) (tT_27 ht2) (tT_28 ht2) g30 hcal) (tT_27 ht) (C := RX0) (F := TX0) (N := 1) rfl (g_V q197 q198 q199 q38 q200) yd_X0_copyFrom ⟨Nat.le_of_ble_eq_true rfl, Nat.le_of_ble_eq_true rfl⟩ [] rfl (Nat.le_of_ble_eq_true rfl) hl.1 ⟨Nat.le_refl _, Nat.le_refl _⟩ dX3_copyFrom_30 (fun H locs hP hS => ?_)
  refine lv_aload_n hx hb dX3_copyFrom_33 rfl (lv_at hl 0 rfl) ?_
  refine lv_aload_n hx hb dX3_copyFrom_34 rfl (lv_at hl 1 rfl) ?_
  refine x_get hx hb hts inX3 hown hK hP (tT_21 ht2) (C := RX3) (F := TX3) (N := 4) rfl 3 (by decide) q74 rfl rfl dX3_copyFrom_35 ?_
  refine x_put hx hb hts inX3 tyX3 tyX3_ok nmX3 hown hK hI hP hS (tT_21 ht) (C := RX3) (F := TX3) (N := 4) rfl 3 (by decide) q74 rfl rfl rfl rfl rfl dX3_copyFrom_38 (fun H locs hP hS => ?_)
  obtain rfl := Option.some.inj h
  exact hend _ _ _ _ dX3_copyFrom_41 hP hS
set_option maxHeartbeats 4000000 in
set_option maxRecDepth 100000 in
theorem ct_X4_copyFrom (l : Launch) (D : va_G) (a : Nat → Nat) (cA cT : ClassId) (hI : WI a TC) (g : MG) (t : Nat) (t2 : Nat) (ht : t < 6) (ht2 : t2 < 6) (g' : MG) (h : m_X4_copyFrom g t t2 = some g') :
    CtV l D a cA cT TC yX4_copyFrom (Cond.code yX4_copyFrom cX4_copyFrom 2 none :: lw_all) (rmm 2 47) [.ref (a (22 + 15 * t)), .ref (a (22 + 15 * t2))] g g' := by
  refine CtV.of (by decide +kernel) (Nat.le_of_ble_eq_true rfl) ?_
  intro p e s m args below meth c Q ls hx hb hml hown hts hK hP hS hl hend
  have hl : lv_has ls 2 [(0, .ref (a (22 + 15 * t))), (1, .ref (a (22 + 15 * t2)))] := hl
  unfold m_X4_copyFrom at h
  refine lv_aload_n hx hb dX4_copyFrom_0 rfl (lv_at hl 0 rfl) ?_
  refine x_getr hx hb hts inX4 hown hK hP (tT_22 ht) (C := RX4) (F := TX4) (N := 5) rfl 0 (by decide) q88 rfl (29 + 15 * t) rfl dX4_copyFrom_1 ?_
  refine lv_aload_n hx hb dX4_copyFrom_4 rfl (lv_at hl 1 rfl) ?_
  refine x_getr hx hb hts inX4 hown hK hP (tT_22 ht2) (C := RX4) (F := TX4) (N := 5) rfl 0 (by decide) q88 rfl (29 + 15 * t2) rfl dX4_copyFrom_5 ?_
  obtain ⟨g8, hcal, h⟩ := bnd_s h
  refine x_VV (As := [.ref (a (29 + 15 * t2))]) hx hb hml hown hts hK hP hS (ct_X0_copyFrom l D a cA cT hI g (30 + 15 * t) 12 (30 + 15 * t2) 12 (29 + 15 * t) (tT_29 ht) (tT_30 ht) (29 + 15 * t2) (tT_29 ht2) (tT_30 ht2) g8 hcal) (tT_29 ht) (C := RX0) (F := TX0) (N := 1) rfl (g_V q211 q198 q199 q38 q200) yd_X0_copyFrom ⟨Nat.le_of_ble_eq_true rfl, Nat.le_of_ble_eq_true rfl⟩ [] rfl (Nat.le_of_ble_eq_true rfl) hl.1 ⟨Nat.le_refl _, Nat.le_refl _⟩ dX4_copyFrom_8 (fun H locs hP hS => ?_)
  refine lv_aload_n hx hb dX4_copyFrom_11 rfl (lv_at hl 0 rfl) ?_
  refine x_getr hx hb hts inX4 hown hK hP (tT_22 ht) (C := RX4) (F := TX4) (N := 5) rfl 1 (by decide) q89 rfl (31 + 15 * t) rfl dX4_copyFrom_12 ?_
  refine lv_aload_n hx hb dX4_copyFrom_15 rfl (lv_at hl 1 rfl) ?_
  refine x_getr hx hb hts inX4 hown hK hP (tT_22 ht2) (C := RX4) (F := TX4) (N := 5) rfl 1 (by decide) q89 rfl (31 + 15 * t2) rfl dX4_copyFrom_16 ?_
  obtain ⟨g19, hcal, h⟩ := bnd_s h
  refine x_VV (As := [.ref (a (31 + 15 * t2))]) hx hb hml hown hts hK hP hS (ct_X0_copyFrom l D a cA cT hI g8 (32 + 15 * t) 12 (32 + 15 * t2) 12 (31 + 15 * t) (tT_31 ht) (tT_32 ht) (31 + 15 * t2) (tT_31 ht2) (tT_32 ht2) g19 hcal) (tT_31 ht) (C := RX0) (F := TX0) (N := 1) rfl (g_V q211 q198 q199 q38 q200) yd_X0_copyFrom ⟨Nat.le_of_ble_eq_true rfl, Nat.le_of_ble_eq_true rfl⟩ [] rfl (Nat.le_of_ble_eq_true rfl) hl.1 ⟨Nat.le_refl _, Nat.le_refl _⟩ dX4_copyFrom_19 (fun H locs hP hS => ?_)
  refine lv_aload_n hx hb dX4_copyFrom_22 rfl (lv_at hl 0 rfl) ?_
  refine x_getr hx hb hts inX4 hown hK hP (tT_22 ht) (C := RX4) (F := TX4) (N := 5) rfl 2 (by decide) q90 rfl (33 + 15 * t) rfl dX4_copyFrom_23 ?_
  refine lv_aload_n hx hb dX4_copyFrom_26 rfl (lv_at hl 1 rfl) ?_
  refine x_getr hx hb hts inX4 hown hK hP (tT_22 ht2) (C := RX4) (F := TX4) (N := 5) rfl 2 (by decide) q90 rfl (33 + 15 * t2) rfl dX4_copyFrom_27 ?_
  obtain ⟨g30, hcal, h⟩ := bnd_s h
  refine x_VV (As := [.ref (a (33 + 15 * t2))]) hx hb hml hown hts hK hP hS (ct_X0_copyFrom l D a cA cT hI g19 (34 + 15 * t) 12 (34 + 15 * t2) 12 (33 + 15 * t) (tT_33 ht) (tT_34 ht) (33 + 15 * t2) (tT_33 ht2) (tT_34 ht2) g30 hcal) (tT_33 ht) (C := RX0) (F := TX0) (N := 1) rfl (g_V q211 q198 q199 q38 q200) yd_X0_copyFrom ⟨Nat.le_of_ble_eq_true rfl, Nat.le_of_ble_eq_true rfl⟩ [] rfl (Nat.le_of_ble_eq_true rfl) hl.1 ⟨Nat.le_refl _, Nat.le_refl _⟩ dX4_copyFrom_30 (fun H locs hP hS => ?_)
  refine lv_aload_n hx hb dX4_copyFrom_33 rfl (lv_at hl 0 rfl) ?_
  refine lv_aload_n hx hb dX4_copyFrom_34 rfl (lv_at hl 1 rfl) ?_
  refine x_get hx hb hts inX4 hown hK hP (tT_22 ht2) (C := RX4) (F := TX4) (N := 5) rfl 3 (by decide) q91 rfl rfl dX4_copyFrom_35 ?_
  refine x_put hx hb hts inX4 tyX4 tyX4_ok nmX4 hown hK hI hP hS (tT_22 ht) (C := RX4) (F := TX4) (N := 5) rfl 3 (by decide) q91 rfl rfl rfl rfl rfl dX4_copyFrom_38 (fun H locs hP hS => ?_)
  refine lv_aload_n hx hb dX4_copyFrom_41 rfl (lv_at hl 0 rfl) ?_
  refine lv_aload_n hx hb dX4_copyFrom_42 rfl (lv_at hl 1 rfl) ?_
  refine x_get hx hb hts inX4 hown hK hP (tT_22 ht2) (C := RX4) (F := TX4) (N := 5) rfl 4 (by decide) q93 rfl rfl dX4_copyFrom_43 ?_
  refine x_put hx hb hts inX4 tyX4 tyX4_ok nmX4 hown hK hI hP hS (tT_22 ht) (C := RX4) (F := TX4) (N := 5) rfl 4 (by decide) q93 rfl rfl rfl rfl rfl dX4_copyFrom_46 (fun H locs hP hS => ?_)
  obtain rfl := Option.some.inj h
  exact hend _ _ _ _ dX4_copyFrom_49 hP hS
set_option maxHeartbeats 4000000 in
set_option maxRecDepth 100000 in
theorem ct_X5_copyFrom (l : Launch) (D : va_G) (a : Nat → Nat) (cA cT : ClassId) (hI : WI a TC) (g : MG) (t : Nat) (t2 : Nat) (ht : t < 6) (ht2 : t2 < 6) (g' : MG) (h : m_X5_copyFrom g t t2 = some g') :
    CtV l D a cA cT TC yX5_copyFrom (Cond.code yX5_copyFrom cX5_copyFrom 2 none :: lw_all) (rmm 3 68) [.ref (a (20 + 15 * t)), .ref (a (20 + 15 * t2))] g g' := by
  refine CtV.of (by decide +kernel) (Nat.le_of_ble_eq_true rfl) ?_
  intro p e s m args below meth c Q ls hx hb hml hown hts hK hP hS hl hend
  have hl : lv_has ls 2 [(0, .ref (a (20 + 15 * t))), (1, .ref (a (20 + 15 * t2)))] := hl
  unfold m_X5_copyFrom at h
  refine lv_aload_n hx hb dX5_copyFrom_0 rfl (lv_at hl 0 rfl) ?_
  refine x_getr hx hb hts inX5 hown hK hP (tT_20 ht) (C := RX5) (F := TX5) (N := 5) rfl 0 (by decide) q100 rfl (21 + 15 * t) rfl dX5_copyFrom_1 ?_
  refine lv_aload_n hx hb dX5_copyFrom_4 rfl (lv_at hl 1 rfl) ?_
  refine x_getr hx hb hts inX5 hown hK hP (tT_20 ht2) (C := RX5) (F := TX5) (N := 5) rfl 0 (by decide) q100 rfl (21 + 15 * t2) rfl dX5_copyFrom_5 ?_
  obtain ⟨g8, hcal, h⟩ := bnd_s h
  refine x_VV (As := [.ref (a (21 + 15 * t2))]) hx hb hml hown hts hK hP hS (ct_X3_copyFrom l D a cA cT hI g t t2 ht ht2 g8 hcal) (tT_21 ht) (C := RX3) (F := TX3) (N := 4) rfl (g_V q193 q194 q195 q37 q196) yd_X3_copyFrom ⟨Nat.le_of_ble_eq_true rfl, Nat.le_of_ble_eq_true rfl⟩ [] rfl (Nat.le_of_ble_eq_true rfl) hl.1 ⟨Nat.le_refl _, Nat.le_refl _⟩ dX5_copyFrom_8 (fun H locs hP hS => ?_)
  refine lv_aload_n hx hb dX5_copyFrom_11 rfl (lv_at hl 0 rfl) ?_
  refine x_getr hx hb hts inX5 hown hK hP (tT_20 ht) (C := RX5) (F := TX5) (N := 5) rfl 1 (by decide) q102 rfl (22 + 15 * t) rfl dX5_copyFrom_12 ?_
  refine lv_aload_n hx hb dX5_copyFrom_15 rfl (lv_at hl 1 rfl) ?_
  refine x_getr hx hb hts inX5 hown hK hP (tT_20 ht2) (C := RX5) (F := TX5) (N := 5) rfl 1 (by decide) q102 rfl (22 + 15 * t2) rfl dX5_copyFrom_16 ?_
  obtain ⟨g19, hcal, h⟩ := bnd_s h
  refine x_VV (As := [.ref (a (22 + 15 * t2))]) hx hb hml hown hts hK hP hS (ct_X4_copyFrom l D a cA cT hI g8 t t2 ht ht2 g19 hcal) (tT_22 ht) (C := RX4) (F := TX4) (N := 5) rfl (g_V q207 q208 q209 q39 q210) yd_X4_copyFrom ⟨Nat.le_of_ble_eq_true rfl, Nat.le_of_ble_eq_true rfl⟩ [] rfl (Nat.le_of_ble_eq_true rfl) hl.1 ⟨Nat.le_refl _, Nat.le_refl _⟩ dX5_copyFrom_19 (fun H locs hP hS => ?_)
  refine lv_aload_n hx hb dX5_copyFrom_22 rfl (lv_at hl 0 rfl) ?_
  refine lv_aload_n hx hb dX5_copyFrom_23 rfl (lv_at hl 1 rfl) ?_
  refine x_get hx hb hts inX5 hown hK hP (tT_20 ht2) (C := RX5) (F := TX5) (N := 5) rfl 2 (by decide) q104 rfl rfl dX5_copyFrom_24 ?_
  obtain ⟨hz, h⟩ := ite_n h
  refine x_put hx hb hts inX5 tyX5 tyX5_ok nmX5 hown hK hI hP hS (tT_20 ht) (C := RX5) (F := TX5) (N := 5) rfl 2 (by decide) q104 rfl rfl rfl (bz_n hz) (bz_f hz) dX5_copyFrom_27 (fun H locs hP hS => ?_)
  refine lv_aload_n hx hb dX5_copyFrom_30 rfl (lv_at hl 0 rfl) ?_
  refine lv_aload_n hx hb dX5_copyFrom_31 rfl (lv_at hl 1 rfl) ?_
  refine x_get hx hb hts inX5 hown hK hP (tT_20 ht2) (C := RX5) (F := TX5) (N := 5) rfl 3 (by decide) q106 rfl rfl dX5_copyFrom_32 ?_
  refine x_put hx hb hts inX5 tyX5 tyX5_ok nmX5 hown hK hI hP hS (tT_20 ht) (C := RX5) (F := TX5) (N := 5) rfl 3 (by decide) q106 rfl rfl rfl rfl rfl dX5_copyFrom_35 (fun H locs hP hS => ?_)
  refine lv_aload_n hx hb dX5_copyFrom_38 rfl (lv_at hl 0 rfl) ?_
  refine lv_aload_n hx hb dX5_copyFrom_39 rfl (lv_at hl 1 rfl) ?_
  refine x_get hx hb hts inX5 hown hK hP (tT_20 ht2) (C := RX5) (F := TX5) (N := 5) rfl 4 (by decide) q108 rfl rfl dX5_copyFrom_40 ?_
  refine x_put hx hb hts inX5 tyX5 tyX5_ok nmX5 hown hK hI hP hS (tT_20 ht) (C := RX5) (F := TX5) (N := 5) rfl 4 (by decide) q108 rfl rfl rfl rfl rfl dX5_copyFrom_43 (fun H locs hP hS => ?_)
  obtain rfl := Option.some.inj h
  exact hend _ _ _ _ dX5_copyFrom_46 hP hS
set_option maxHeartbeats 4000000 in
set_option maxRecDepth 100000 in
theorem ct_X1_record (l : Launch) (D : va_G) (a : Nat → Nat) (cA cT : ClassId) (hI : WI a TC) (g : MG) (t2 : Nat) (ht2 : t2 < 6) (g' : MG) (h : m_X1_record g t2 = some g') :
    CtV l D a cA cT TC yX1_record (Cond.code yX1_record cX1_record 3 none :: lw_all) (rmm 4 89) [.ref (a 1), .ref (a (20 + 15 * t2))] g g' := by
  refine CtV.of (by decide +kernel) (Nat.le_of_ble_eq_true rfl) ?_
  intro p e s m args below meth c Q ls hx hb hml hown hts hK hP hS hl hend
  have hl : lv_has ls 3 [(0, .ref (a 1)), (1, .ref (a (20 + 15 * t2)))] := hl
  unfold m_X1_record at h
  refine lv_aload_n hx hb dX1_record_0 rfl (lv_at hl 0 rfl) ?_
  refine x_get hx hb hts inX1 hown hK hP tF_1 (C := RX1) (F := TX1) (N := 4) rfl 3 (by decide) q124 rfl rfl dX1_record_1 ?_
  refine lv_aload_n hx hb dX1_record_4 rfl (lv_at hl 0 rfl) ?_
  refine x_getr hx hb hts inX1 hown hK hP tF_1 (C := RX1) (F := TX1) (N := 4) rfl 0 (by decide) q122 rfl 2 rfl dX1_record_5 ?_
  refine x_lenT hx hb hK hP tF_2 dX1_record_8 ?_
  refine lv_icmp_lt (tgt := 27) hx hb dX1_record_9 (by decide) (fun hc => ?_) (fun hc => ?_)
  · have h := ite_t hc h
    refine lv_aload_n hx hb dX1_record_27 rfl (lv_at hl 0 rfl) ?_
    refine lv_aload_n hx hb dX1_record_28 rfl (lv_at hl 0 rfl) ?_
    refine x_get hx hb hts inX1 hown hK hP tF_1 (C := RX1) (F := TX1) (N := 4) rfl 3 (by decide) q124 rfl rfl dX1_record_29 ?_
    obtain ⟨r32, hcal, h⟩ := bnd_s h
    refine x_VQ (As := [.int (g.1 1 3)]) hx hb hml hown hts hK hP hS (ct_X1_stateAt l D a cA cT hI g (g.1 1 3) r32 hcal) tF_1 (C := RX1) (F := TX1) (N := 4) rfl (g_V q186 q187 q0 q40 q188) yd_X1_stateAt ⟨Nat.le_of_ble_eq_true rfl, Nat.le_of_ble_eq_true rfl⟩ [] rfl (Nat.le_of_ble_eq_true rfl) hl.1 ⟨Nat.le_refl _, Nat.le_refl _⟩ dX1_record_32 (fun H locs hP hS => ?_)
    rcases r32 with _ | t32
    · have h := optc_n h
      refine W.eq (g2 := F0 m 35 ls [.null]) rfl ?_
      refine lv_astore_nN (lv' := [(2, .null), (0, .ref (a 1)), (1, .ref (a (20 + 15 * t2)))]) hx hb dX1_record_35 rfl hl (by decide) rfl (fun ls hl => ?_)
      refine lv_aload_nN hx hb dX1_record_36 rfl (lv_at hl 0 rfl) ?_
      refine lv_ifnullN (tgt := 55) hx hb dX1_record_37 (by decide) ?_
      obtain rfl := Option.some.inj h
      exact hend _ _ _ _ dX1_record_55 hP hS
    · have h := optc_s h
      obtain ⟨htq32, h⟩ := ite_n h
      refine W.eq (g2 := F0 m 35 ls [.ref (a (20 + 15 * t32))]) rfl ?_
      refine lv_astore_n (lv' := [(2, .ref (a (20 + 15 * t32))), (0, .ref (a 1)), (1, .ref (a (20 + 15 * t2)))]) hx hb dX1_record_35 rfl hl (by decide) rfl (fun ls hl => ?_)
      refine lv_aload_n hx hb dX1_record_36 rfl (lv_at hl 0 rfl) ?_
      refine lv_ifnull hx hb dX1_record_37 ?_
      refine lv_aload_n hx hb dX1_record_40 rfl (lv_at hl 0 rfl) ?_
      refine lv_aload_n hx hb dX1_record_41 rfl (lv_at hl 2 rfl) ?_
      obtain ⟨g42, hcal, h⟩ := bnd_s h
      refine x_VV (As := [.ref (a (20 + 15 * t2))]) hx hb hml hown hts hK hP hS (ct_X5_copyFrom l D a cA cT hI g t32 t2 htq32 ht2 g42 hcal) (tT_20 htq32) (C := RX5) (F := TX5) (N := 5) rfl (g_V q189 q190 q191 q36 q192) yd_X5_copyFrom ⟨Nat.le_of_ble_eq_true rfl, Nat.le_of_ble_eq_true rfl⟩ [] rfl (Nat.le_of_ble_eq_true rfl) hl.1 ⟨Nat.le_refl _, Nat.le_refl _⟩ dX1_record_42 (fun H locs hP hS => ?_)
      refine lv_aload_n hx hb dX1_record_45 rfl (lv_at hl 1 rfl) ?_
      refine lv_dup hx hb dX1_record_46 rfl ?_
      refine x_get hx hb hts inX1 hown hK hP tF_1 (C := RX1) (F := TX1) (N := 4) rfl 3 (by decide) q124 rfl rfl dX1_record_47 ?_
      refine lv_iconst (v := (1 : Int32)) hx hb dX1_record_50 (by decide) ?_
      refine lv_iadd hx hb dX1_record_51 ?_
      refine x_put hx hb hts inX1 tyX1 tyX1_ok nmX1 hown hK hI hP hS tF_1 (C := RX1) (F := TX1) (N := 4) rfl 3 (by decide) q124 rfl rfl rfl rfl rfl dX1_record_52 (fun H locs hP hS => ?_)
      obtain rfl := Option.some.inj h
      exact hend _ _ _ _ dX1_record_55 hP hS
  · have h := ite_f hc h
    refine lv_aload_n hx hb dX1_record_12 rfl (lv_at hl 0 rfl) ?_
    obtain ⟨g13, hcal, h⟩ := bnd_s h
    refine x_VV (As := []) hx hb hml hown hts hK hP hS (ct_X1_putOldestLast l D a cA cT hI g g13 hcal) tF_1 (C := RX1) (F := TX1) (N := 4) rfl (g_V q416 q417 q5 q40 q418) yd_X1_putOldestLast ⟨Nat.le_of_ble_eq_true rfl, Nat.le_of_ble_eq_true rfl⟩ [] rfl (Nat.le_of_ble_eq_true rfl) hl.1 ⟨Nat.le_refl _, Nat.le_refl _⟩ dX1_record_13 (fun H locs hP hS => ?_)
    refine lv_aload_n hx hb dX1_record_16 rfl (lv_at hl 0 rfl) ?_
    refine lv_aload_n hx hb dX1_record_17 rfl (lv_at hl 0 rfl) ?_
    refine x_getr hx hb hts inX1 hown hK hP tF_1 (C := RX1) (F := TX1) (N := 4) rfl 0 (by decide) q122 rfl 2 rfl dX1_record_18 ?_
    refine x_lenT hx hb hK hP tF_2 dX1_record_21 ?_
    refine lv_iconst (v := (1 : Int32)) hx hb dX1_record_22 (by decide) ?_
    refine lv_isub hx hb dX1_record_23 ?_
    refine x_put hx hb hts inX1 tyX1 tyX1_ok nmX1 hown hK hI hP hS tF_1 (C := RX1) (F := TX1) (N := 4) rfl 3 (by decide) q124 rfl rfl rfl rfl rfl dX1_record_24 (fun H locs hP hS => ?_)
    refine lv_aload_n hx hb dX1_record_27 rfl (lv_at hl 0 rfl) ?_
    refine lv_aload_n hx hb dX1_record_28 rfl (lv_at hl 0 rfl) ?_
    refine x_get hx hb hts inX1 hown hK hP tF_1 (C := RX1) (F := TX1) (N := 4) rfl 3 (by decide) q124 rfl rfl dX1_record_29 ?_
    obtain ⟨r32, hcal, h⟩ := bnd_s h
    refine x_VQ (As := [.int ((g_w g13 1 3 ((nI 4) - (1 : Int32))).1 1 3)]) hx hb hml hown hts hK hP hS (ct_X1_stateAt l D a cA cT hI (g_w g13 1 3 ((nI 4) - (1 : Int32))) ((g_w g13 1 3 ((nI 4) - (1 : Int32))).1 1 3) r32 hcal) tF_1 (C := RX1) (F := TX1) (N := 4) rfl (g_V q186 q187 q0 q40 q188) yd_X1_stateAt ⟨Nat.le_of_ble_eq_true rfl, Nat.le_of_ble_eq_true rfl⟩ [] rfl (Nat.le_of_ble_eq_true rfl) hl.1 ⟨Nat.le_refl _, Nat.le_refl _⟩ dX1_record_32 (fun H locs hP hS => ?_)
    rcases r32 with _ | t32
    · have h := optc_n h
      refine W.eq (g2 := F0 m 35 ls [.null]) rfl ?_
      refine lv_astore_nN (lv' := [(2, .null), (0, .ref (a 1)), (1, .ref (a (20 + 15 * t2)))]) hx hb dX1_record_35 rfl hl (by decide) rfl (fun ls hl => ?_)
      refine lv_aload_nN hx hb dX1_record_36 rfl (lv_at hl 0 rfl) ?_
      refine lv_ifnullN (tgt := 55) hx hb dX1_record_37 (by decide) ?_
      obtain rfl := Option.some.inj h
      exact hend _ _ _ _ dX1_record_55 hP hS
    · have h := optc_s h
      obtain ⟨htq32, h⟩ := ite_n h
      refine W.eq (g2 := F0 m 35 ls [.ref (a (20 + 15 * t32))]) rfl ?_
      refine lv_astore_n (lv' := [(2, .ref (a (20 + 15 * t32))), (0, .ref (a 1)), (1, .ref (a (20 + 15 * t2)))]) hx hb dX1_record_35 rfl hl (by decide) rfl (fun ls hl => ?_)
      refine lv_aload_n hx hb dX1_record_36 rfl (lv_at hl 0 rfl) ?_
      refine lv_ifnull hx hb dX1_record_37 ?_
      refine lv_aload_n hx hb dX1_record_40 rfl (lv_at hl 0 rfl) ?_
      refine lv_aload_n hx hb dX1_record_41 rfl (lv_at hl 2 rfl) ?_
      obtain ⟨g42, hcal, h⟩ := bnd_s h
      refine x_VV (As := [.ref (a (20 + 15 * t2))]) hx hb hml hown hts hK hP hS (ct_X5_copyFrom l D a cA cT hI (g_w g13 1 3 ((nI 4) - (1 : Int32))) t32 t2 htq32 ht2 g42 hcal) (tT_20 htq32) (C := RX5) (F := TX5) (N := 5) rfl (g_V q189 q190 q191 q36 q192) yd_X5_copyFrom ⟨Nat.le_of_ble_eq_true rfl, Nat.le_of_ble_eq_true rfl⟩ [] rfl (Nat.le_of_ble_eq_true rfl) hl.1 ⟨Nat.le_refl _, Nat.le_refl _⟩ dX1_record_42 (fun H locs hP hS => ?_)
      refine lv_aload_n hx hb dX1_record_45 rfl (lv_at hl 1 rfl) ?_
      refine lv_dup hx hb dX1_record_46 rfl ?_
      refine x_get hx hb hts inX1 hown hK hP tF_1 (C := RX1) (F := TX1) (N := 4) rfl 3 (by decide) q124 rfl rfl dX1_record_47 ?_
      refine lv_iconst (v := (1 : Int32)) hx hb dX1_record_50 (by decide) ?_
      refine lv_iadd hx hb dX1_record_51 ?_
      refine x_put hx hb hts inX1 tyX1 tyX1_ok nmX1 hown hK hI hP hS tF_1 (C := RX1) (F := TX1) (N := 4) rfl 3 (by decide) q124 rfl rfl rfl rfl rfl dX1_record_52 (fun H locs hP hS => ?_)
      obtain rfl := Option.some.inj h
      exact hend _ _ _ _ dX1_record_55 hP hS
set_option maxHeartbeats 4000000 in
set_option maxRecDepth 100000 in
theorem ct_X1_giveBack (l : Launch) (D : va_G) (a : Nat → Nat) (cA cT : ClassId) (hI : WI a TC) (g : MG) (t2 : Nat) (ht2 : t2 < 6) (g' : MG) (h : m_X1_giveBack g t2 = some g') :
    CtV l D a cA cT TC yX1_giveBack (Cond.code yX1_giveBack cX1_giveBack 3 none :: lw_all) (rmm 4 89) [.ref (a 1), .ref (a (20 + 15 * t2))] g g' := by
  refine CtV.of (by decide +kernel) (Nat.le_of_ble_eq_true rfl) ?_
  intro p e s m args below meth c Q ls hx hb hml hown hts hK hP hS hl hend
  have hl : lv_has ls 3 [(0, .ref (a 1)), (1, .ref (a (20 + 15 * t2)))] := hl
  unfold m_X1_giveBack at h
  refine lv_aload_n hx hb dX1_giveBack_0 rfl (lv_at hl 0 rfl) ?_
  refine lv_aload_n hx hb dX1_giveBack_1 rfl (lv_at hl 0 rfl) ?_
  refine x_get hx hb hts inX1 hown hK hP tF_1 (C := RX1) (F := TX1) (N := 4) rfl 3 (by decide) q124 rfl rfl dX1_giveBack_2 ?_
  refine lv_iconst (v := (1 : Int32)) hx hb dX1_giveBack_5 (by decide) ?_
  refine lv_isub hx hb dX1_giveBack_6 ?_
  obtain ⟨r7, hcal, h⟩ := bnd_s h
  refine x_VQ (As := [.int ((g.1 1 3) - (1 : Int32))]) hx hb hml hown hts hK hP hS (ct_X1_stateAt l D a cA cT hI g ((g.1 1 3) - (1 : Int32)) r7 hcal) tF_1 (C := RX1) (F := TX1) (N := 4) rfl (g_V q186 q187 q0 q40 q188) yd_X1_stateAt ⟨Nat.le_of_ble_eq_true rfl, Nat.le_of_ble_eq_true rfl⟩ [] rfl (Nat.le_of_ble_eq_true rfl) hl.1 ⟨Nat.le_refl _, Nat.le_refl _⟩ dX1_giveBack_7 (fun H locs hP hS => ?_)
  rcases r7 with _ | t7
  · have h := optc_n h
    refine W.eq (g2 := F0 m 10 ls [.null]) rfl ?_
    refine lv_astore_nN (lv' := [(2, .null), (0, .ref (a 1)), (1, .ref (a (20 + 15 * t2)))]) hx hb dX1_giveBack_10 rfl hl (by decide) rfl (fun ls hl => ?_)
    refine lv_aload_nN hx hb dX1_giveBack_11 rfl (lv_at hl 0 rfl) ?_
    refine lv_ifnullN (tgt := 30) hx hb dX1_giveBack_12 (by decide) ?_
    obtain rfl := Option.some.inj h
    exact hend _ _ _ _ dX1_giveBack_30 hP hS
  · have h := optc_s h
    obtain ⟨htq7, h⟩ := ite_n h
    refine W.eq (g2 := F0 m 10 ls [.ref (a (20 + 15 * t7))]) rfl ?_
    refine lv_astore_n (lv' := [(2, .ref (a (20 + 15 * t7))), (0, .ref (a 1)), (1, .ref (a (20 + 15 * t2)))]) hx hb dX1_giveBack_10 rfl hl (by decide) rfl (fun ls hl => ?_)
    refine lv_aload_n hx hb dX1_giveBack_11 rfl (lv_at hl 0 rfl) ?_
    refine lv_ifnull hx hb dX1_giveBack_12 ?_
    refine lv_aload_n hx hb dX1_giveBack_15 rfl (lv_at hl 2 rfl) ?_
    refine lv_aload_n hx hb dX1_giveBack_16 rfl (lv_at hl 0 rfl) ?_
    obtain ⟨g17, hcal, h⟩ := bnd_s h
    refine x_VV (As := [.ref (a (20 + 15 * t7))]) hx hb hml hown hts hK hP hS (ct_X5_copyFrom l D a cA cT hI g t2 t7 ht2 htq7 g17 hcal) (tT_20 ht2) (C := RX5) (F := TX5) (N := 5) rfl (g_V q189 q190 q191 q36 q192) yd_X5_copyFrom ⟨Nat.le_of_ble_eq_true rfl, Nat.le_of_ble_eq_true rfl⟩ [] rfl (Nat.le_of_ble_eq_true rfl) hl.1 ⟨Nat.le_refl _, Nat.le_refl _⟩ dX1_giveBack_17 (fun H locs hP hS => ?_)
    refine lv_aload_n hx hb dX1_giveBack_20 rfl (lv_at hl 1 rfl) ?_
    refine lv_dup hx hb dX1_giveBack_21 rfl ?_
    refine x_get hx hb hts inX1 hown hK hP tF_1 (C := RX1) (F := TX1) (N := 4) rfl 3 (by decide) q124 rfl rfl dX1_giveBack_22 ?_
    refine lv_iconst (v := (1 : Int32)) hx hb dX1_giveBack_25 (by decide) ?_
    refine lv_isub hx hb dX1_giveBack_26 ?_
    refine x_put hx hb hts inX1 tyX1 tyX1_ok nmX1 hown hK hI hP hS tF_1 (C := RX1) (F := TX1) (N := 4) rfl 3 (by decide) q124 rfl rfl rfl rfl rfl dX1_giveBack_27 (fun H locs hP hS => ?_)
    obtain rfl := Option.some.inj h
    exact hend _ _ _ _ dX1_giveBack_30 hP hS
set_option maxHeartbeats 4000000 in
set_option maxRecDepth 100000 in
theorem ct_X2_forget (l : Launch) (D : va_G) (a : Nat → Nat) (cA cT : ClassId) (hI : WI a TC) (g : MG)   (g' : MG) (h : m_X2_forget g = some g') :
    CtV l D a cA cT TC yX2_forget (Cond.code yX2_forget cX2_forget 1 none :: lw_all) (rmm 0 0) [.ref (a 3)] g g' := by
  refine CtV.of (by decide +kernel) (Nat.le_of_ble_eq_true rfl) ?_
  intro p e s m args below meth c Q ls hx hb hml hown hts hK hP hS hl hend
  have hl : lv_has ls 1 [(0, .ref (a 3))] := hl
  unfold m_X2_forget at h
  refine lv_aload_n hx hb dX2_forget_0 rfl (lv_at hl 0 rfl) ?_
  refine lv_iconst (v := (0 : Int32)) hx hb dX2_forget_1 (by decide) ?_
  refine x_put hx hb hts inX2 tyX2 tyX2_ok nmX2 hown hK hI hP hS tF_3 (C := RX2) (F := TX2) (N := 14) rfl 0 (by decide) q137 rfl rfl rfl rfl rfl dX2_forget_2 (fun H locs hP hS => ?_)
  refine lv_aload_n hx hb dX2_forget_5 rfl (lv_at hl 0 rfl) ?_
  refine lv_sipush (v := (-1005 : Int32)) hx hb dX2_forget_6 (by decide) ?_
  refine x_put hx hb hts inX2 tyX2 tyX2_ok nmX2 hown hK hI hP hS tF_3 (C := RX2) (F := TX2) (N := 14) rfl 1 (by decide) q139 rfl rfl rfl rfl rfl dX2_forget_9 (fun H locs hP hS => ?_)
  refine lv_aload_n hx hb dX2_forget_12 rfl (lv_at hl 0 rfl) ?_
  refine lv_iconst (v := (0 : Int32)) hx hb dX2_forget_13 (by decide) ?_
  refine x_put hx hb hts inX2 tyX2 tyX2_ok nmX2 hown hK hI hP hS tF_3 (C := RX2) (F := TX2) (N := 14) rfl 2 (by decide) q140 rfl rfl rfl rfl rfl dX2_forget_14 (fun H locs hP hS => ?_)
  refine lv_aload_n hx hb dX2_forget_17 rfl (lv_at hl 0 rfl) ?_
  refine lv_iconst (v := (0 : Int32)) hx hb dX2_forget_18 (by decide) ?_
  refine x_put hx hb hts inX2 tyX2 tyX2_ok nmX2 hown hK hI hP hS tF_3 (C := RX2) (F := TX2) (N := 14) rfl 3 (by decide) q141 rfl rfl rfl rfl rfl dX2_forget_19 (fun H locs hP hS => ?_)
  refine lv_aload_n hx hb dX2_forget_22 rfl (lv_at hl 0 rfl) ?_
  refine lv_iconst (v := (0 : Int32)) hx hb dX2_forget_23 (by decide) ?_
  refine x_put hx hb hts inX2 tyX2 tyX2_ok nmX2 hown hK hI hP hS tF_3 (C := RX2) (F := TX2) (N := 14) rfl 4 (by decide) q142 rfl rfl rfl rfl rfl dX2_forget_24 (fun H locs hP hS => ?_)
  refine lv_aload_n hx hb dX2_forget_27 rfl (lv_at hl 0 rfl) ?_
  refine lv_iconst (v := (0 : Int32)) hx hb dX2_forget_28 (by decide) ?_
  refine x_put hx hb hts inX2 tyX2 tyX2_ok nmX2 hown hK hI hP hS tF_3 (C := RX2) (F := TX2) (N := 14) rfl 7 (by decide) q145 rfl rfl rfl rfl rfl dX2_forget_29 (fun H locs hP hS => ?_)
  obtain rfl := Option.some.inj h
  exact hend _ _ _ _ dX2_forget_32 hP hS
set_option maxHeartbeats 4000000 in
set_option maxRecDepth 100000 in
theorem ct_X2_addToken (l : Launch) (D : va_G) (a : Nat → Nat) (cA cT : ClassId) (hI : WI a TC) (g : MG) (x0 : Int32) (x1 : Int32)  (g' : MG) (h : m_X2_addToken g x0 x1 = some g') :
    CtV l D a cA cT TC yX2_addToken (Cond.code yX2_addToken cX2_addToken 3 none :: lw_all) (rmm 1 22) [.ref (a 3), .int x0, .int x1] g g' := by
  refine CtV.of (by decide +kernel) (Nat.le_of_ble_eq_true rfl) ?_
  intro p e s m args below meth c Q ls hx hb hml hown hts hK hP hS hl hend
  have hl : lv_has ls 3 [(0, .ref (a 3)), (1, .int x0), (2, .int x1)] := hl
  unfold m_X2_addToken at h
  refine lv_aload_n hx hb dX2_addToken_0 rfl (lv_at hl 0 rfl) ?_
  refine x_getr hx hb hts inX2 hown hK hP tF_3 (C := RX2) (F := TX2) (N := 14) rfl 8 (by decide) q146 rfl 8 rfl dX2_addToken_1 ?_
  refine lv_aload_n hx hb dX2_addToken_4 rfl (lv_at hl 0 rfl) ?_
  refine x_get hx hb hts inX2 hown hK hP tF_3 (C := RX2) (F := TX2) (N := 14) rfl 7 (by decide) q145 rfl rfl dX2_addToken_5 ?_
  refine lv_iload_n hx hb dX2_addToken_8 rfl (lv_at hl 1 rfl) ?_
  obtain ⟨g9, hcal, h⟩ := bnd_s h
  refine x_VV (As := [.int (g.1 3 7), .int x0]) hx hb hml hown hts hK hP hS (ct_X0_write l D a cA cT hI g 9 60 (g.1 3 7) x0 8 tF_8 tF_9 g9 hcal) tF_8 (C := RX0) (F := TX0) (N := 1) rfl (g_V q612 q424 q425 q38 q426) yd_X0_write ⟨Nat.le_of_ble_eq_true rfl, Nat.le_of_ble_eq_true rfl⟩ [] rfl (Nat.le_of_ble_eq_true rfl) hl.1 ⟨Nat.le_refl _, Nat.le_refl _⟩ dX2_addToken_9 (fun H locs hP hS => ?_)
  refine lv_aload_n hx hb dX2_addToken_12 rfl (lv_at hl 0 rfl) ?_
  refine lv_dup hx hb dX2_addToken_13 rfl ?_
  refine x_get hx hb hts inX2 hown hK hP tF_3 (C := RX2) (F := TX2) (N := 14) rfl 7 (by decide) q145 rfl rfl dX2_addToken_14 ?_
  refine lv_iconst (v := (1 : Int32)) hx hb dX2_addToken_17 (by decide) ?_
  refine lv_iadd hx hb dX2_addToken_18 ?_
  refine x_put hx hb hts inX2 tyX2 tyX2_ok nmX2 hown hK hI hP hS tF_3 (C := RX2) (F := TX2) (N := 14) rfl 7 (by decide) q145 rfl rfl rfl rfl rfl dX2_addToken_19 (fun H locs hP hS => ?_)
  refine lv_aload_n hx hb dX2_addToken_22 rfl (lv_at hl 0 rfl) ?_
  refine lv_iload_n hx hb dX2_addToken_23 rfl (lv_at hl 2 rfl) ?_
  refine x_put hx hb hts inX2 tyX2 tyX2_ok nmX2 hown hK hI hP hS tF_3 (C := RX2) (F := TX2) (N := 14) rfl 2 (by decide) q140 rfl rfl rfl rfl rfl dX2_addToken_24 (fun H locs hP hS => ?_)
  obtain rfl := Option.some.inj h
  exact hend _ _ _ _ dX2_addToken_27 hP hS
set_option maxHeartbeats 4000000 in
set_option maxRecDepth 100000 in
theorem ct_X2_startsTest (l : Launch) (D : va_G) (a : Nat → Nat) (cA cT : ClassId) (hI : WI a TC) (g : MG) (x0 : Int32)  (r : Int32) (g' : MG) (h : m_X2_startsTest g x0 = some (r, g')) :
    CtI l D a cA cT TC yX2_startsTest (Cond.code yX2_startsTest cX2_startsTest 2 (some .boolean) :: lw_all) (rmm 2 44) [.ref (a 3), .int x0] g r g' := by
  refine CtI.of (by decide +kernel) (Nat.le_of_ble_eq_true rfl) ?_
  intro p e s m args below meth c Q ls hx hb hml hown hts hK hP hS hl hend
  have hl : lv_has ls 2 [(0, .ref (a 3)), (1, .int x0)] := hl
  unfold m_X2_startsTest at h
  refine lv_iload_n hx hb dX2_startsTest_0 rfl (lv_at hl 1 rfl) ?_
  by_cases hs33 : x0 = (33 : Int32)
  · have h := ite_t hs33 h
    refine lv_lookup (off := 56) (tgt := 57) hx hb dX2_startsTest_1 (by decide) (by rw [hs33]; decide) (by decide) ?_
    refine lv_aload_n hx hb dX2_startsTest_57 rfl (lv_at hl 0 rfl) ?_
    refine x_get hx hb hts inX2 hown hK hP tF_3 (C := RX2) (F := TX2) (N := 14) rfl 4 (by decide) q142 rfl rfl dX2_startsTest_58 ?_
    refine lv_iconst (v := (5 : Int32)) hx hb dX2_startsTest_61 (by decide) ?_
    refine lv_icmp_lt (tgt := 67) hx hb dX2_startsTest_62 (by decide) (fun hc => ?_) (fun hc => ?_)
    · have h := ite_t hc h
      refine lv_aload_n hx hb dX2_startsTest_67 rfl (lv_at hl 0 rfl) ?_
      refine lv_dup hx hb dX2_startsTest_68 rfl ?_
      refine x_get hx hb hts inX2 hown hK hP tF_3 (C := RX2) (F := TX2) (N := 14) rfl 4 (by decide) q142 rfl rfl dX2_startsTest_69 ?_
      refine lv_iconst (v := (1 : Int32)) hx hb dX2_startsTest_72 (by decide) ?_
      refine lv_iadd hx hb dX2_startsTest_73 ?_
      refine x_put hx hb hts inX2 tyX2 tyX2_ok nmX2 hown hK hI hP hS tF_3 (C := RX2) (F := TX2) (N := 14) rfl 4 (by decide) q142 rfl rfl rfl rfl rfl dX2_startsTest_74 (fun H locs hP hS => ?_)
      refine lv_aload_n hx hb dX2_startsTest_77 rfl (lv_at hl 0 rfl) ?_
      refine lv_iload_n hx hb dX2_startsTest_78 rfl (lv_at hl 1 rfl) ?_
      refine lv_iconst (v := (0 : Int32)) hx hb dX2_startsTest_79 (by decide) ?_
      obtain ⟨g80, hcal, h⟩ := bnd_s h
      refine x_VV (As := [.int x0, .int (0 : Int32)]) hx hb hml hown hts hK hP hS (ct_X2_addToken l D a cA cT hI (g_w g 3 4 ((g.1 3 4) + (1 : Int32))) x0 (0 : Int32) g80 hcal) tF_3 (C := RX2) (F := TX2) (N := 14) rfl (g_V q609 q610 q11 q41 q611) yd_X2_addToken ⟨Nat.le_of_ble_eq_true rfl, Nat.le_of_ble_eq_true rfl⟩ [] rfl (Nat.le_of_ble_eq_true rfl) hl.1 ⟨Nat.le_refl _, Nat.le_refl _⟩ dX2_startsTest_80 (fun H locs hP hS => ?_)
      refine lv_iconst (v := (1 : Int32)) hx hb dX2_startsTest_83 (by decide) ?_
      obtain ⟨rfl, rfl⟩ := Prod.mk.inj (Option.some.inj h)
      exact hend _ _ _ _ dX2_startsTest_84 rfl hP hS
    · have h := ite_f hc h
      refine lv_iconst (v := (0 : Int32)) hx hb dX2_startsTest_65 (by decide) ?_
      obtain ⟨rfl, rfl⟩ := Prod.mk.inj (Option.some.inj h)
      exact hend _ _ _ _ dX2_startsTest_66 rfl hP hS
  have h := ite_f hs33 h
  by_cases hs40 : x0 = (40 : Int32)
  · have h := ite_t hs40 h
    refine lv_lookup (off := 84) (tgt := 85) hx hb dX2_startsTest_1 (by decide) (by rw [hs40]; decide) (by decide) ?_
    refine lv_aload_n hx hb dX2_startsTest_85 rfl (lv_at hl 0 rfl) ?_
    refine x_get hx hb hts inX2 hown hK hP tF_3 (C := RX2) (F := TX2) (N := 14) rfl 3 (by decide) q141 rfl rfl dX2_startsTest_86 ?_
    refine lv_iconst (v := (5 : Int32)) hx hb dX2_startsTest_89 (by decide) ?_
    refine lv_icmp_lt (tgt := 95) hx hb dX2_startsTest_90 (by decide) (fun hc => ?_) (fun hc => ?_)
    · have h := ite_t hc h
      refine lv_aload_n hx hb dX2_startsTest_95 rfl (lv_at hl 0 rfl) ?_
      refine lv_dup hx hb dX2_startsTest_96 rfl ?_
      refine x_get hx hb hts inX2 hown hK hP tF_3 (C := RX2) (F := TX2) (N := 14) rfl 3 (by decide) q141 rfl rfl dX2_startsTest_97 ?_
      refine lv_iconst (v := (1 : Int32)) hx hb dX2_startsTest_100 (by decide) ?_
      refine lv_iadd hx hb dX2_startsTest_101 ?_
      refine x_put hx hb hts inX2 tyX2 tyX2_ok nmX2 hown hK hI hP hS tF_3 (C := RX2) (F := TX2) (N := 14) rfl 3 (by decide) q141 rfl rfl rfl rfl rfl dX2_startsTest_102 (fun H locs hP hS => ?_)
      refine lv_aload_n hx hb dX2_startsTest_105 rfl (lv_at hl 0 rfl) ?_
      refine lv_iconst (v := (0 : Int32)) hx hb dX2_startsTest_106 (by decide) ?_
      refine x_put hx hb hts inX2 tyX2 tyX2_ok nmX2 hown hK hI hP hS tF_3 (C := RX2) (F := TX2) (N := 14) rfl 4 (by decide) q142 rfl rfl rfl rfl rfl dX2_startsTest_107 (fun H locs hP hS => ?_)
      refine lv_aload_n hx hb dX2_startsTest_110 rfl (lv_at hl 0 rfl) ?_
      refine lv_iload_n hx hb dX2_startsTest_111 rfl (lv_at hl 1 rfl) ?_
      refine lv_iconst (v := (0 : Int32)) hx hb dX2_startsTest_112 (by decide) ?_
      obtain ⟨g113, hcal, h⟩ := bnd_s h
      refine x_VV (As := [.int x0, .int (0 : Int32)]) hx hb hml hown hts hK hP hS (ct_X2_addToken l D a cA cT hI (g_w (g_w g 3 3 ((g.1 3 3) + (1 : Int32))) 3 4 (0 : Int32)) x0 (0 : Int32) g113 hcal) tF_3 (C := RX2) (F := TX2) (N := 14) rfl (g_V q609 q610 q11 q41 q611) yd_X2_addToken ⟨Nat.le_of_ble_eq_true rfl, Nat.le_of_ble_eq_true rfl⟩ [] rfl (Nat.le_of_ble_eq_true rfl) hl.1 ⟨Nat.le_refl _, Nat.le_refl _⟩ dX2_startsTest_113 (fun H locs hP hS => ?_)
      refine lv_iconst (v := (1 : Int32)) hx hb dX2_startsTest_116 (by decide) ?_
      obtain ⟨rfl, rfl⟩ := Prod.mk.inj (Option.some.inj h)
      exact hend _ _ _ _ dX2_startsTest_117 rfl hP hS
    · have h := ite_f hc h
      refine lv_iconst (v := (0 : Int32)) hx hb dX2_startsTest_93 (by decide) ?_
      obtain ⟨rfl, rfl⟩ := Prod.mk.inj (Option.some.inj h)
      exact hend _ _ _ _ dX2_startsTest_94 rfl hP hS
  have h := ite_f hs40 h
  by_cases hs107 : x0 = (107 : Int32)
  · have h := ite_t hs107 h
    refine lv_lookup (off := 43) (tgt := 44) hx hb dX2_startsTest_1 (by decide) (by rw [hs107]; decide) (by decide) ?_
    refine lv_aload_n hx hb dX2_startsTest_44 rfl (lv_at hl 0 rfl) ?_
    refine lv_iconst (v := (0 : Int32)) hx hb dX2_startsTest_45 (by decide) ?_
    refine x_put hx hb hts inX2 tyX2 tyX2_ok nmX2 hown hK hI hP hS tF_3 (C := RX2) (F := TX2) (N := 14) rfl 4 (by decide) q142 rfl rfl rfl rfl rfl dX2_startsTest_46 (fun H locs hP hS => ?_)
    refine lv_aload_n hx hb dX2_startsTest_49 rfl (lv_at hl 0 rfl) ?_
    refine lv_iload_n hx hb dX2_startsTest_50 rfl (lv_at hl 1 rfl) ?_
    refine lv_iconst (v := (1 : Int32)) hx hb dX2_startsTest_51 (by decide) ?_
    obtain ⟨g52, hcal, h⟩ := bnd_s h
    refine x_VV (As := [.int x0, .int (1 : Int32)]) hx hb hml hown hts hK hP hS (ct_X2_addToken l D a cA cT hI (g_w g 3 4 (0 : Int32)) x0 (1 : Int32) g52 hcal) tF_3 (C := RX2) (F := TX2) (N := 14) rfl (g_V q609 q610 q11 q41 q611) yd_X2_addToken ⟨Nat.le_of_ble_eq_true rfl, Nat.le_of_ble_eq_true rfl⟩ [] rfl (Nat.le_of_ble_eq_true rfl) hl.1 ⟨Nat.le_refl _, Nat.le_refl _⟩ dX2_startsTest_52 (fun H locs hP hS => ?_)
    refine lv_iconst (v := (1 : Int32)) hx hb dX2_startsTest_55 (by decide) ?_
    obtain ⟨rfl, rfl⟩ := Prod.mk.inj (Option.some.inj h)
    exact hend _ _ _ _ dX2_startsTest_56 rfl hP hS
  have h := ite_f hs107 h
  by_cases hs118 : x0 = (118 : Int32)
  · have h := ite_t hs118 h
    refine lv_lookup (off := 43) (tgt := 44) hx hb dX2_startsTest_1 (by decide) (by rw [hs118]; decide) (by decide) ?_
    refine lv_aload_n hx hb dX2_startsTest_44 rfl (lv_at hl 0 rfl) ?_
    refine lv_iconst (v := (0 : Int32)) hx hb dX2_startsTest_45 (by decide) ?_
    refine x_put hx hb hts inX2 tyX2 tyX2_ok nmX2 hown hK hI hP hS tF_3 (C := RX2) (F := TX2) (N := 14) rfl 4 (by decide) q142 rfl rfl rfl rfl rfl dX2_startsTest_46 (fun H locs hP hS => ?_)
    refine lv_aload_n hx hb dX2_startsTest_49 rfl (lv_at hl 0 rfl) ?_
    refine lv_iload_n hx hb dX2_startsTest_50 rfl (lv_at hl 1 rfl) ?_
    refine lv_iconst (v := (1 : Int32)) hx hb dX2_startsTest_51 (by decide) ?_
    obtain ⟨g52, hcal, h⟩ := bnd_s h
    refine x_VV (As := [.int x0, .int (1 : Int32)]) hx hb hml hown hts hK hP hS (ct_X2_addToken l D a cA cT hI (g_w g 3 4 (0 : Int32)) x0 (1 : Int32) g52 hcal) tF_3 (C := RX2) (F := TX2) (N := 14) rfl (g_V q609 q610 q11 q41 q611) yd_X2_addToken ⟨Nat.le_of_ble_eq_true rfl, Nat.le_of_ble_eq_true rfl⟩ [] rfl (Nat.le_of_ble_eq_true rfl) hl.1 ⟨Nat.le_refl _, Nat.le_refl _⟩ dX2_startsTest_52 (fun H locs hP hS => ?_)
    refine lv_iconst (v := (1 : Int32)) hx hb dX2_startsTest_55 (by decide) ?_
    obtain ⟨rfl, rfl⟩ := Prod.mk.inj (Option.some.inj h)
    exact hend _ _ _ _ dX2_startsTest_56 rfl hP hS
  have h := ite_f hs118 h
  refine lv_lookup (off := 117) (tgt := 118) hx hb dX2_startsTest_1 (by decide) (by simp only [Op.lookupswitch.offset, List.toList_toArray, if_neg (sw_en (n := 33) hs33 (by decide)), if_neg (sw_en (n := 40) hs40 (by decide)), if_neg (sw_en (n := 107) hs107 (by decide)), if_neg (sw_en (n := 118) hs118 (by decide))]) (by decide) ?_
  refine lv_iconst (v := (0 : Int32)) hx hb dX2_startsTest_118 (by decide) ?_
  obtain ⟨rfl, rfl⟩ := Prod.mk.inj (Option.some.inj h)
  exact hend _ _ _ _ dX2_startsTest_119 rfl hP hS
set_option maxHeartbeats 4000000 in
set_option maxRecDepth 100000 in
theorem ct_X2_isSign (l : Launch) (D : va_G) (a : Nat → Nat) (cA cT : ClassId) (hI : WI a TC) (g : MG) (x0 : Int32)  (r : Int32) (g' : MG) (h : m_X2_isSign g x0 = some (r, g')) :
    CtI l D a cA cT TC yX2_isSign (Cond.code yX2_isSign cX2_isSign 2 (some .boolean) :: lw_all) (rmm 1 22) [.ref (a 3), .int x0] g r g' := by
  refine CtI.of (by decide +kernel) (Nat.le_of_ble_eq_true rfl) ?_
  intro p e s m args below meth c Q ls hx hb hml hown hts hK hP hS hl hend
  have hl : lv_has ls 2 [(0, .ref (a 3)), (1, .int x0)] := hl
  unfold m_X2_isSign at h
  refine lv_iload_n hx hb dX2_isSign_0 rfl (lv_at hl 1 rfl) ?_
  refine lv_bipush (v := (60 : Int32)) hx hb dX2_isSign_1 (by decide) ?_
  refine lv_icmp_eq (tgt := 26) hx hb dX2_isSign_3 (by decide) (fun hc => ?_) (fun hc => ?_)
  · have h := ite_t hc h
    refine lv_aload_n hx hb dX2_isSign_26 rfl (lv_at hl 0 rfl) ?_
    refine x_getr hx hb hts inX2 hown hK hP tF_3 (C := RX2) (F := TX2) (N := 14) rfl 9 (by decide) q147 rfl 10 rfl dX2_isSign_27 ?_
    refine lv_aload_n hx hb dX2_isSign_30 rfl (lv_at hl 0 rfl) ?_
    refine x_get hx hb hts inX2 hown hK hP tF_3 (C := RX2) (F := TX2) (N := 14) rfl 7 (by decide) q145 rfl rfl dX2_isSign_31 ?_
    refine lv_iconst (v := (1 : Int32)) hx hb dX2_isSign_34 (by decide) ?_
    refine lv_isub hx hb dX2_isSign_35 ?_
    refine lv_iload_n hx hb dX2_isSign_36 rfl (lv_at hl 1 rfl) ?_
    obtain ⟨g37, hcal, h⟩ := bnd_s h
    refine x_VV (As := [.int ((g.1 3 7) - (1 : Int32)), .int x0]) hx hb hml hown hts hK hP hS (ct_X0_write l D a cA cT hI g 11 60 ((g.1 3 7) - (1 : Int32)) x0 10 tF_10 tF_11 g37 hcal) tF_10 (C := RX0) (F := TX0) (N := 1) rfl (g_V q612 q424 q425 q38 q426) yd_X0_write ⟨Nat.le_of_ble_eq_true rfl, Nat.le_of_ble_eq_true rfl⟩ [] rfl (Nat.le_of_ble_eq_true rfl) hl.1 ⟨Nat.le_refl _, Nat.le_refl _⟩ dX2_isSign_37 (fun H locs hP hS => ?_)
    refine lv_aload_n hx hb dX2_isSign_40 rfl (lv_at hl 0 rfl) ?_
    refine lv_iconst (v := (0 : Int32)) hx hb dX2_isSign_41 (by decide) ?_
    refine x_put hx hb hts inX2 tyX2 tyX2_ok nmX2 hown hK hI hP hS tF_3 (C := RX2) (F := TX2) (N := 14) rfl 5 (by decide) q143 rfl rfl rfl rfl rfl dX2_isSign_42 (fun H locs hP hS => ?_)
    refine lv_aload_n hx hb dX2_isSign_45 rfl (lv_at hl 0 rfl) ?_
    refine lv_iconst (v := (2 : Int32)) hx hb dX2_isSign_46 (by decide) ?_
    refine x_put hx hb hts inX2 tyX2 tyX2_ok nmX2 hown hK hI hP hS tF_3 (C := RX2) (F := TX2) (N := 14) rfl 2 (by decide) q140 rfl rfl rfl rfl rfl dX2_isSign_47 (fun H locs hP hS => ?_)
    refine lv_iconst (v := (1 : Int32)) hx hb dX2_isSign_50 (by decide) ?_
    obtain ⟨rfl, rfl⟩ := Prod.mk.inj (Option.some.inj h)
    exact hend _ _ _ _ dX2_isSign_51 rfl hP hS
  · have h := ite_f hc h
    refine lv_iload_n hx hb dX2_isSign_6 rfl (lv_at hl 1 rfl) ?_
    refine lv_bipush (v := (62 : Int32)) hx hb dX2_isSign_7 (by decide) ?_
    refine lv_icmp_eq (tgt := 26) hx hb dX2_isSign_9 (by decide) (fun hc => ?_) (fun hc => ?_)
    · have h := ite_t hc h
      refine lv_aload_n hx hb dX2_isSign_26 rfl (lv_at hl 0 rfl) ?_
      refine x_getr hx hb hts inX2 hown hK hP tF_3 (C := RX2) (F := TX2) (N := 14) rfl 9 (by decide) q147 rfl 10 rfl dX2_isSign_27 ?_
      refine lv_aload_n hx hb dX2_isSign_30 rfl (lv_at hl 0 rfl) ?_
      refine x_get hx hb hts inX2 hown hK hP tF_3 (C := RX2) (F := TX2) (N := 14) rfl 7 (by decide) q145 rfl rfl dX2_isSign_31 ?_
      refine lv_iconst (v := (1 : Int32)) hx hb dX2_isSign_34 (by decide) ?_
      refine lv_isub hx hb dX2_isSign_35 ?_
      refine lv_iload_n hx hb dX2_isSign_36 rfl (lv_at hl 1 rfl) ?_
      obtain ⟨g37, hcal, h⟩ := bnd_s h
      refine x_VV (As := [.int ((g.1 3 7) - (1 : Int32)), .int x0]) hx hb hml hown hts hK hP hS (ct_X0_write l D a cA cT hI g 11 60 ((g.1 3 7) - (1 : Int32)) x0 10 tF_10 tF_11 g37 hcal) tF_10 (C := RX0) (F := TX0) (N := 1) rfl (g_V q612 q424 q425 q38 q426) yd_X0_write ⟨Nat.le_of_ble_eq_true rfl, Nat.le_of_ble_eq_true rfl⟩ [] rfl (Nat.le_of_ble_eq_true rfl) hl.1 ⟨Nat.le_refl _, Nat.le_refl _⟩ dX2_isSign_37 (fun H locs hP hS => ?_)
      refine lv_aload_n hx hb dX2_isSign_40 rfl (lv_at hl 0 rfl) ?_
      refine lv_iconst (v := (0 : Int32)) hx hb dX2_isSign_41 (by decide) ?_
      refine x_put hx hb hts inX2 tyX2 tyX2_ok nmX2 hown hK hI hP hS tF_3 (C := RX2) (F := TX2) (N := 14) rfl 5 (by decide) q143 rfl rfl rfl rfl rfl dX2_isSign_42 (fun H locs hP hS => ?_)
      refine lv_aload_n hx hb dX2_isSign_45 rfl (lv_at hl 0 rfl) ?_
      refine lv_iconst (v := (2 : Int32)) hx hb dX2_isSign_46 (by decide) ?_
      refine x_put hx hb hts inX2 tyX2 tyX2_ok nmX2 hown hK hI hP hS tF_3 (C := RX2) (F := TX2) (N := 14) rfl 2 (by decide) q140 rfl rfl rfl rfl rfl dX2_isSign_47 (fun H locs hP hS => ?_)
      refine lv_iconst (v := (1 : Int32)) hx hb dX2_isSign_50 (by decide) ?_
      obtain ⟨rfl, rfl⟩ := Prod.mk.inj (Option.some.inj h)
      exact hend _ _ _ _ dX2_isSign_51 rfl hP hS
    · have h := ite_f hc h
      refine lv_iload_n hx hb dX2_isSign_12 rfl (lv_at hl 1 rfl) ?_
      refine lv_bipush (v := (61 : Int32)) hx hb dX2_isSign_13 (by decide) ?_
      refine lv_icmp_eq (tgt := 26) hx hb dX2_isSign_15 (by decide) (fun hc => ?_) (fun hc => ?_)
      · have h := ite_t hc h
        refine lv_aload_n hx hb dX2_isSign_26 rfl (lv_at hl 0 rfl) ?_
        refine x_getr hx hb hts inX2 hown hK hP tF_3 (C := RX2) (F := TX2) (N := 14) rfl 9 (by decide) q147 rfl 10 rfl dX2_isSign_27 ?_
        refine lv_aload_n hx hb dX2_isSign_30 rfl (lv_at hl 0 rfl) ?_
        refine x_get hx hb hts inX2 hown hK hP tF_3 (C := RX2) (F := TX2) (N := 14) rfl 7 (by decide) q145 rfl rfl dX2_isSign_31 ?_
        refine lv_iconst (v := (1 : Int32)) hx hb dX2_isSign_34 (by decide) ?_
        refine lv_isub hx hb dX2_isSign_35 ?_
        refine lv_iload_n hx hb dX2_isSign_36 rfl (lv_at hl 1 rfl) ?_
        obtain ⟨g37, hcal, h⟩ := bnd_s h
        refine x_VV (As := [.int ((g.1 3 7) - (1 : Int32)), .int x0]) hx hb hml hown hts hK hP hS (ct_X0_write l D a cA cT hI g 11 60 ((g.1 3 7) - (1 : Int32)) x0 10 tF_10 tF_11 g37 hcal) tF_10 (C := RX0) (F := TX0) (N := 1) rfl (g_V q612 q424 q425 q38 q426) yd_X0_write ⟨Nat.le_of_ble_eq_true rfl, Nat.le_of_ble_eq_true rfl⟩ [] rfl (Nat.le_of_ble_eq_true rfl) hl.1 ⟨Nat.le_refl _, Nat.le_refl _⟩ dX2_isSign_37 (fun H locs hP hS => ?_)
        refine lv_aload_n hx hb dX2_isSign_40 rfl (lv_at hl 0 rfl) ?_
        refine lv_iconst (v := (0 : Int32)) hx hb dX2_isSign_41 (by decide) ?_
        refine x_put hx hb hts inX2 tyX2 tyX2_ok nmX2 hown hK hI hP hS tF_3 (C := RX2) (F := TX2) (N := 14) rfl 5 (by decide) q143 rfl rfl rfl rfl rfl dX2_isSign_42 (fun H locs hP hS => ?_)
        refine lv_aload_n hx hb dX2_isSign_45 rfl (lv_at hl 0 rfl) ?_
        refine lv_iconst (v := (2 : Int32)) hx hb dX2_isSign_46 (by decide) ?_
        refine x_put hx hb hts inX2 tyX2 tyX2_ok nmX2 hown hK hI hP hS tF_3 (C := RX2) (F := TX2) (N := 14) rfl 2 (by decide) q140 rfl rfl rfl rfl rfl dX2_isSign_47 (fun H locs hP hS => ?_)
        refine lv_iconst (v := (1 : Int32)) hx hb dX2_isSign_50 (by decide) ?_
        obtain ⟨rfl, rfl⟩ := Prod.mk.inj (Option.some.inj h)
        exact hend _ _ _ _ dX2_isSign_51 rfl hP hS
      · have h := ite_f hc h
        refine lv_iload_n hx hb dX2_isSign_18 rfl (lv_at hl 1 rfl) ?_
        refine lv_bipush (v := (35 : Int32)) hx hb dX2_isSign_19 (by decide) ?_
        refine lv_icmp_eq (tgt := 26) hx hb dX2_isSign_21 (by decide) (fun hc => ?_) (fun hc => ?_)
        · have h := ite_t hc h
          refine lv_aload_n hx hb dX2_isSign_26 rfl (lv_at hl 0 rfl) ?_
          refine x_getr hx hb hts inX2 hown hK hP tF_3 (C := RX2) (F := TX2) (N := 14) rfl 9 (by decide) q147 rfl 10 rfl dX2_isSign_27 ?_
          refine lv_aload_n hx hb dX2_isSign_30 rfl (lv_at hl 0 rfl) ?_
          refine x_get hx hb hts inX2 hown hK hP tF_3 (C := RX2) (F := TX2) (N := 14) rfl 7 (by decide) q145 rfl rfl dX2_isSign_31 ?_
          refine lv_iconst (v := (1 : Int32)) hx hb dX2_isSign_34 (by decide) ?_
          refine lv_isub hx hb dX2_isSign_35 ?_
          refine lv_iload_n hx hb dX2_isSign_36 rfl (lv_at hl 1 rfl) ?_
          obtain ⟨g37, hcal, h⟩ := bnd_s h
          refine x_VV (As := [.int ((g.1 3 7) - (1 : Int32)), .int x0]) hx hb hml hown hts hK hP hS (ct_X0_write l D a cA cT hI g 11 60 ((g.1 3 7) - (1 : Int32)) x0 10 tF_10 tF_11 g37 hcal) tF_10 (C := RX0) (F := TX0) (N := 1) rfl (g_V q612 q424 q425 q38 q426) yd_X0_write ⟨Nat.le_of_ble_eq_true rfl, Nat.le_of_ble_eq_true rfl⟩ [] rfl (Nat.le_of_ble_eq_true rfl) hl.1 ⟨Nat.le_refl _, Nat.le_refl _⟩ dX2_isSign_37 (fun H locs hP hS => ?_)
          refine lv_aload_n hx hb dX2_isSign_40 rfl (lv_at hl 0 rfl) ?_
          refine lv_iconst (v := (0 : Int32)) hx hb dX2_isSign_41 (by decide) ?_
          refine x_put hx hb hts inX2 tyX2 tyX2_ok nmX2 hown hK hI hP hS tF_3 (C := RX2) (F := TX2) (N := 14) rfl 5 (by decide) q143 rfl rfl rfl rfl rfl dX2_isSign_42 (fun H locs hP hS => ?_)
          refine lv_aload_n hx hb dX2_isSign_45 rfl (lv_at hl 0 rfl) ?_
          refine lv_iconst (v := (2 : Int32)) hx hb dX2_isSign_46 (by decide) ?_
          refine x_put hx hb hts inX2 tyX2 tyX2_ok nmX2 hown hK hI hP hS tF_3 (C := RX2) (F := TX2) (N := 14) rfl 2 (by decide) q140 rfl rfl rfl rfl rfl dX2_isSign_47 (fun H locs hP hS => ?_)
          refine lv_iconst (v := (1 : Int32)) hx hb dX2_isSign_50 (by decide) ?_
          obtain ⟨rfl, rfl⟩ := Prod.mk.inj (Option.some.inj h)
          exact hend _ _ _ _ dX2_isSign_51 rfl hP hS
        · have h := ite_f hc h
          refine lv_iconst (v := (0 : Int32)) hx hb dX2_isSign_24 (by decide) ?_
          obtain ⟨rfl, rfl⟩ := Prod.mk.inj (Option.some.inj h)
          exact hend _ _ _ _ dX2_isSign_25 rfl hP hS
set_option maxHeartbeats 4000000 in
set_option maxRecDepth 100000 in
theorem ct_X2_isMinus (l : Launch) (D : va_G) (a : Nat → Nat) (cA cT : ClassId) (hI : WI a TC) (g : MG) (x0 : Int32)  (r : Int32) (g' : MG) (h : m_X2_isMinus g x0 = some (r, g')) :
    CtI l D a cA cT TC yX2_isMinus (Cond.code yX2_isMinus cX2_isMinus 2 (some .boolean) :: lw_all) (rmm 0 0) [.ref (a 3), .int x0] g r g' := by
  refine CtI.of (by decide +kernel) (Nat.le_of_ble_eq_true rfl) ?_
  intro p e s m args below meth c Q ls hx hb hml hown hts hK hP hS hl hend
  have hl : lv_has ls 2 [(0, .ref (a 3)), (1, .int x0)] := hl
  unfold m_X2_isMinus at h
  refine lv_iload_n hx hb dX2_isMinus_0 rfl (lv_at hl 1 rfl) ?_
  refine lv_bipush (v := (45 : Int32)) hx hb dX2_isMinus_1 (by decide) ?_
  refine lv_icmp_eq (tgt := 8) hx hb dX2_isMinus_3 (by decide) (fun hc => ?_) (fun hc => ?_)
  · have h := ite_t hc h
    refine lv_aload_n hx hb dX2_isMinus_8 rfl (lv_at hl 0 rfl) ?_
    refine lv_iconst (v := (1 : Int32)) hx hb dX2_isMinus_9 (by decide) ?_
    refine x_put hx hb hts inX2 tyX2 tyX2_ok nmX2 hown hK hI hP hS tF_3 (C := RX2) (F := TX2) (N := 14) rfl 5 (by decide) q143 rfl rfl rfl rfl rfl dX2_isMinus_10 (fun H locs hP hS => ?_)
    refine lv_aload_n hx hb dX2_isMinus_13 rfl (lv_at hl 0 rfl) ?_
    refine lv_iconst (v := (3 : Int32)) hx hb dX2_isMinus_14 (by decide) ?_
    refine x_put hx hb hts inX2 tyX2 tyX2_ok nmX2 hown hK hI hP hS tF_3 (C := RX2) (F := TX2) (N := 14) rfl 2 (by decide) q140 rfl rfl rfl rfl rfl dX2_isMinus_15 (fun H locs hP hS => ?_)
    refine lv_iconst (v := (1 : Int32)) hx hb dX2_isMinus_18 (by decide) ?_
    obtain ⟨rfl, rfl⟩ := Prod.mk.inj (Option.some.inj h)
    exact hend _ _ _ _ dX2_isMinus_19 rfl hP hS
  · have h := ite_f hc h
    refine lv_iconst (v := (0 : Int32)) hx hb dX2_isMinus_6 (by decide) ?_
    obtain ⟨rfl, rfl⟩ := Prod.mk.inj (Option.some.inj h)
    exact hend _ _ _ _ dX2_isMinus_7 rfl hP hS
set_option maxHeartbeats 4000000 in
set_option maxRecDepth 100000 in
theorem ct_X2_setDigits (l : Launch) (D : va_G) (a : Nat → Nat) (cA cT : ClassId) (hI : WI a TC) (g : MG) (x0 : Int32)  (g' : MG) (h : m_X2_setDigits g x0 = some g') :
    CtV l D a cA cT TC yX2_setDigits (Cond.code yX2_setDigits cX2_setDigits 2 none :: lw_all) (rmm 1 22) [.ref (a 3), .int x0] g g' := by
  refine CtV.of (by decide +kernel) (Nat.le_of_ble_eq_true rfl) ?_
  intro p e s m args below meth c Q ls hx hb hml hown hts hK hP hS hl hend
  have hl : lv_has ls 2 [(0, .ref (a 3)), (1, .int x0)] := hl
  unfold m_X2_setDigits at h
  refine lv_aload_n hx hb dX2_setDigits_0 rfl (lv_at hl 0 rfl) ?_
  refine lv_iload_n hx hb dX2_setDigits_1 rfl (lv_at hl 1 rfl) ?_
  refine x_put hx hb hts inX2 tyX2 tyX2_ok nmX2 hown hK hI hP hS tF_3 (C := RX2) (F := TX2) (N := 14) rfl 6 (by decide) q144 rfl rfl rfl rfl rfl dX2_setDigits_2 (fun H locs hP hS => ?_)
  refine lv_aload_n hx hb dX2_setDigits_5 rfl (lv_at hl 0 rfl) ?_
  refine x_getr hx hb hts inX2 hown hK hP tF_3 (C := RX2) (F := TX2) (N := 14) rfl 10 (by decide) q148 rfl 12 rfl dX2_setDigits_6 ?_
  refine lv_aload_n hx hb dX2_setDigits_9 rfl (lv_at hl 0 rfl) ?_
  refine x_get hx hb hts inX2 hown hK hP tF_3 (C := RX2) (F := TX2) (N := 14) rfl 7 (by decide) q145 rfl rfl dX2_setDigits_10 ?_
  refine lv_iconst (v := (1 : Int32)) hx hb dX2_setDigits_13 (by decide) ?_
  refine lv_isub hx hb dX2_setDigits_14 ?_
  refine lv_aload_n hx hb dX2_setDigits_15 rfl (lv_at hl 0 rfl) ?_
  refine x_get hx hb hts inX2 hown hK hP tF_3 (C := RX2) (F := TX2) (N := 14) rfl 5 (by decide) q143 rfl rfl dX2_setDigits_16 ?_
  refine lv_if_eq (tgt := 27) hx hb dX2_setDigits_19 (by decide) (fun hc => ?_) (fun hc => ?_)
  · have h := ite_t hc h
    refine lv_iload_n hx hb dX2_setDigits_27 rfl (lv_at hl 1 rfl) ?_
    obtain ⟨g28, hcal, h⟩ := bnd_s h
    refine x_VV (As := [.int (((g_w g 3 6 x0).1 3 7) - (1 : Int32)), .int x0]) hx hb hml hown hts hK hP hS (ct_X0_write l D a cA cT hI (g_w g 3 6 x0) 13 60 (((g_w g 3 6 x0).1 3 7) - (1 : Int32)) x0 12 tF_12 tF_13 g28 hcal) tF_12 (C := RX0) (F := TX0) (N := 1) rfl (g_V q612 q424 q425 q38 q426) yd_X0_write ⟨Nat.le_of_ble_eq_true rfl, Nat.le_of_ble_eq_true rfl⟩ [] rfl (Nat.le_of_ble_eq_true rfl) hl.1 ⟨Nat.le_refl _, Nat.le_refl _⟩ dX2_setDigits_28 (fun H locs hP hS => ?_)
    obtain rfl := Option.some.inj h
    exact hend _ _ _ _ dX2_setDigits_31 hP hS
  · have h := ite_f hc h
    refine lv_iload_n hx hb dX2_setDigits_22 rfl (lv_at hl 1 rfl) ?_
    refine lv_ineg hx hb dX2_setDigits_23 ?_
    refine lv_goto (tgt := 28) hx hb dX2_setDigits_24 (by decide) ?_
    obtain ⟨g28, hcal, h⟩ := bnd_s h
    refine x_VV (As := [.int (((g_w g 3 6 x0).1 3 7) - (1 : Int32)), .int (-x0)]) hx hb hml hown hts hK hP hS (ct_X0_write l D a cA cT hI (g_w g 3 6 x0) 13 60 (((g_w g 3 6 x0).1 3 7) - (1 : Int32)) (-x0) 12 tF_12 tF_13 g28 hcal) tF_12 (C := RX0) (F := TX0) (N := 1) rfl (g_V q612 q424 q425 q38 q426) yd_X0_write ⟨Nat.le_of_ble_eq_true rfl, Nat.le_of_ble_eq_true rfl⟩ [] rfl (Nat.le_of_ble_eq_true rfl) hl.1 ⟨Nat.le_refl _, Nat.le_refl _⟩ dX2_setDigits_28 (fun H locs hP hS => ?_)
    obtain rfl := Option.some.inj h
    exact hend _ _ _ _ dX2_setDigits_31 hP hS
set_option maxHeartbeats 4000000 in
set_option maxRecDepth 100000 in
theorem ct_X2_isFirstDigit (l : Launch) (D : va_G) (a : Nat → Nat) (cA cT : ClassId) (hI : WI a TC) (g : MG) (x0 : Int32)  (r : Int32) (g' : MG) (h : m_X2_isFirstDigit g x0 = some (r, g')) :
    CtI l D a cA cT TC yX2_isFirstDigit (Cond.code yX2_isFirstDigit cX2_isFirstDigit 2 (some .boolean) :: lw_all) (rmm 2 43) [.ref (a 3), .int x0] g r g' := by
  refine CtI.of (by decide +kernel) (Nat.le_of_ble_eq_true rfl) ?_
  intro p e s m args below meth c Q ls hx hb hml hown hts hK hP hS hl hend
  have hl : lv_has ls 2 [(0, .ref (a 3)), (1, .int x0)] := hl
  unfold m_X2_isFirstDigit at h
  refine lv_iload_n hx hb dX2_isFirstDigit_0 rfl (lv_at hl 1 rfl) ?_
  refine lv_bipush (v := (48 : Int32)) hx hb dX2_isFirstDigit_1 (by decide) ?_
  refine lv_icmp_lt (tgt := 12) hx hb dX2_isFirstDigit_3 (by decide) (fun hc => ?_) (fun hc => ?_)
  · have h := ite_t hc h
    refine lv_iconst (v := (0 : Int32)) hx hb dX2_isFirstDigit_12 (by decide) ?_
    obtain ⟨rfl, rfl⟩ := Prod.mk.inj (Option.some.inj h)
    exact hend _ _ _ _ dX2_isFirstDigit_13 rfl hP hS
  · have h := ite_f hc h
    refine lv_iload_n hx hb dX2_isFirstDigit_6 rfl (lv_at hl 1 rfl) ?_
    refine lv_bipush (v := (57 : Int32)) hx hb dX2_isFirstDigit_7 (by decide) ?_
    refine lv_icmp_le (tgt := 14) hx hb dX2_isFirstDigit_9 (by decide) (fun hc => ?_) (fun hc => ?_)
    · have h := ite_t hc h
      refine lv_aload_n hx hb dX2_isFirstDigit_14 rfl (lv_at hl 0 rfl) ?_
      refine lv_iload_n hx hb dX2_isFirstDigit_15 rfl (lv_at hl 1 rfl) ?_
      refine lv_bipush (v := (48 : Int32)) hx hb dX2_isFirstDigit_16 (by decide) ?_
      refine lv_isub hx hb dX2_isFirstDigit_18 ?_
      obtain ⟨g19, hcal, h⟩ := bnd_s h
      refine x_VV (As := [.int (x0 - (48 : Int32))]) hx hb hml hown hts hK hP hS (ct_X2_setDigits l D a cA cT hI g (x0 - (48 : Int32)) g19 hcal) tF_3 (C := RX2) (F := TX2) (N := 14) rfl (g_V q622 q623 q15 q41 q624) yd_X2_setDigits ⟨Nat.le_of_ble_eq_true rfl, Nat.le_of_ble_eq_true rfl⟩ [] rfl (Nat.le_of_ble_eq_true rfl) hl.1 ⟨Nat.le_refl _, Nat.le_refl _⟩ dX2_isFirstDigit_19 (fun H locs hP hS => ?_)
      refine lv_aload_n hx hb dX2_isFirstDigit_22 rfl (lv_at hl 0 rfl) ?_
      refine lv_iconst (v := (4 : Int32)) hx hb dX2_isFirstDigit_23 (by decide) ?_
      refine x_put hx hb hts inX2 tyX2 tyX2_ok nmX2 hown hK hI hP hS tF_3 (C := RX2) (F := TX2) (N := 14) rfl 2 (by decide) q140 rfl rfl rfl rfl rfl dX2_isFirstDigit_24 (fun H locs hP hS => ?_)
      refine lv_iconst (v := (1 : Int32)) hx hb dX2_isFirstDigit_27 (by decide) ?_
      obtain ⟨rfl, rfl⟩ := Prod.mk.inj (Option.some.inj h)
      exact hend _ _ _ _ dX2_isFirstDigit_28 rfl hP hS
    · have h := ite_f hc h
      refine lv_iconst (v := (0 : Int32)) hx hb dX2_isFirstDigit_12 (by decide) ?_
      obtain ⟨rfl, rfl⟩ := Prod.mk.inj (Option.some.inj h)
      exact hend _ _ _ _ dX2_isFirstDigit_13 rfl hP hS
set_option maxHeartbeats 4000000 in
set_option maxRecDepth 100000 in
theorem ct_X2_isNextDigit (l : Launch) (D : va_G) (a : Nat → Nat) (cA cT : ClassId) (hI : WI a TC) (g : MG) (x0 : Int32)  (r : Int32) (g' : MG) (h : m_X2_isNextDigit g x0 = some (r, g')) :
    CtI l D a cA cT TC yX2_isNextDigit (Cond.code yX2_isNextDigit cX2_isNextDigit 3 (some .boolean) :: lw_all) (rmm 2 43) [.ref (a 3), .int x0] g r g' := by
  refine CtI.of (by decide +kernel) (Nat.le_of_ble_eq_true rfl) ?_
  intro p e s m args below meth c Q ls hx hb hml hown hts hK hP hS hl hend
  have hl : lv_has ls 3 [(0, .ref (a 3)), (1, .int x0)] := hl
  unfold m_X2_isNextDigit at h
  refine lv_iload_n hx hb dX2_isNextDigit_0 rfl (lv_at hl 1 rfl) ?_
  refine lv_bipush (v := (48 : Int32)) hx hb dX2_isNextDigit_1 (by decide) ?_
  refine lv_icmp_lt (tgt := 19) hx hb dX2_isNextDigit_3 (by decide) (fun hc => ?_) (fun hc => ?_)
  · have h := ite_t hc h
    refine lv_iconst (v := (0 : Int32)) hx hb dX2_isNextDigit_19 (by decide) ?_
    obtain ⟨rfl, rfl⟩ := Prod.mk.inj (Option.some.inj h)
    exact hend _ _ _ _ dX2_isNextDigit_20 rfl hP hS
  · have h := ite_f hc h
    refine lv_iload_n hx hb dX2_isNextDigit_6 rfl (lv_at hl 1 rfl) ?_
    refine lv_bipush (v := (57 : Int32)) hx hb dX2_isNextDigit_7 (by decide) ?_
    refine lv_icmp_gt (tgt := 19) hx hb dX2_isNextDigit_9 (by decide) (fun hc => ?_) (fun hc => ?_)
    · have h := ite_t hc h
      refine lv_iconst (v := (0 : Int32)) hx hb dX2_isNextDigit_19 (by decide) ?_
      obtain ⟨rfl, rfl⟩ := Prod.mk.inj (Option.some.inj h)
      exact hend _ _ _ _ dX2_isNextDigit_20 rfl hP hS
    · have h := ite_f hc h
      refine lv_aload_n hx hb dX2_isNextDigit_12 rfl (lv_at hl 0 rfl) ?_
      refine x_get hx hb hts inX2 hown hK hP tF_3 (C := RX2) (F := TX2) (N := 14) rfl 6 (by decide) q144 rfl rfl dX2_isNextDigit_13 ?_
      refine lv_if_ne (tgt := 21) hx hb dX2_isNextDigit_16 (by decide) (fun hc => ?_) (fun hc => ?_)
      · have h := ite_f hc h
        refine lv_aload_n hx hb dX2_isNextDigit_21 rfl (lv_at hl 0 rfl) ?_
        refine x_get hx hb hts inX2 hown hK hP tF_3 (C := RX2) (F := TX2) (N := 14) rfl 6 (by decide) q144 rfl rfl dX2_isNextDigit_22 ?_
        refine lv_bipush (v := (10 : Int32)) hx hb dX2_isNextDigit_25 (by decide) ?_
        refine lv_imul hx hb dX2_isNextDigit_27 ?_
        refine lv_iload_n hx hb dX2_isNextDigit_28 rfl (lv_at hl 1 rfl) ?_
        refine lv_bipush (v := (48 : Int32)) hx hb dX2_isNextDigit_29 (by decide) ?_
        refine lv_isub hx hb dX2_isNextDigit_31 ?_
        refine lv_iadd hx hb dX2_isNextDigit_32 ?_
        refine lv_istore_n (lv' := [(2, .int (((g.1 3 6) * (10 : Int32)) + (x0 - (48 : Int32)))), (0, .ref (a 3)), (1, .int x0)]) hx hb dX2_isNextDigit_33 rfl hl (by decide) rfl (fun ls hl => ?_)
        refine lv_iload_n hx hb dX2_isNextDigit_34 rfl (lv_at hl 0 rfl) ?_
        refine lv_sipush (v := (999 : Int32)) hx hb dX2_isNextDigit_35 (by decide) ?_
        refine lv_icmp_le (tgt := 43) hx hb dX2_isNextDigit_38 (by decide) (fun hc => ?_) (fun hc => ?_)
        · have h := ite_t hc h
          refine lv_aload_n hx hb dX2_isNextDigit_43 rfl (lv_at hl 1 rfl) ?_
          refine lv_iload_n hx hb dX2_isNextDigit_44 rfl (lv_at hl 0 rfl) ?_
          obtain ⟨g45, hcal, h⟩ := bnd_s h
          refine x_VV (As := [.int (((g.1 3 6) * (10 : Int32)) + (x0 - (48 : Int32)))]) hx hb hml hown hts hK hP hS (ct_X2_setDigits l D a cA cT hI g (((g.1 3 6) * (10 : Int32)) + (x0 - (48 : Int32))) g45 hcal) tF_3 (C := RX2) (F := TX2) (N := 14) rfl (g_V q622 q623 q15 q41 q624) yd_X2_setDigits ⟨Nat.le_of_ble_eq_true rfl, Nat.le_of_ble_eq_true rfl⟩ [] rfl (Nat.le_of_ble_eq_true rfl) hl.1 ⟨Nat.le_refl _, Nat.le_refl _⟩ dX2_isNextDigit_45 (fun H locs hP hS => ?_)
          refine lv_iconst (v := (1 : Int32)) hx hb dX2_isNextDigit_48 (by decide) ?_
          obtain ⟨rfl, rfl⟩ := Prod.mk.inj (Option.some.inj h)
          exact hend _ _ _ _ dX2_isNextDigit_49 rfl hP hS
        · have h := ite_f hc h
          refine lv_iconst (v := (0 : Int32)) hx hb dX2_isNextDigit_41 (by decide) ?_
          obtain ⟨rfl, rfl⟩ := Prod.mk.inj (Option.some.inj h)
          exact hend _ _ _ _ dX2_isNextDigit_42 rfl hP hS
      · have h := ite_t hc h
        refine lv_iconst (v := (0 : Int32)) hx hb dX2_isNextDigit_19 (by decide) ?_
        obtain ⟨rfl, rfl⟩ := Prod.mk.inj (Option.some.inj h)
        exact hend _ _ _ _ dX2_isNextDigit_20 rfl hP hS
set_option maxHeartbeats 4000000 in
set_option maxRecDepth 100000 in
theorem ct_X2_followsTest (l : Launch) (D : va_G) (a : Nat → Nat) (cA cT : ClassId) (hI : WI a TC) (g : MG) (x0 : Int32)  (r : Int32) (g' : MG) (h : m_X2_followsTest g x0 = some (r, g')) :
    CtI l D a cA cT TC yX2_followsTest (Cond.code yX2_followsTest cX2_followsTest 2 (some .boolean) :: lw_all) (rmm 2 44) [.ref (a 3), .int x0] g r g' := by
  refine CtI.of (by decide +kernel) (Nat.le_of_ble_eq_true rfl) ?_
  intro p e s m args below meth c Q ls hx hb hml hown hts hK hP hS hl hend
  have hl : lv_has ls 2 [(0, .ref (a 3)), (1, .int x0)] := hl
  unfold m_X2_followsTest at h
  refine lv_iload_n hx hb dX2_followsTest_0 rfl (lv_at hl 1 rfl) ?_
  by_cases hs38 : x0 = (38 : Int32)
  · have h := ite_t hs38 h
    refine lv_lookup (off := 35) (tgt := 36) hx hb dX2_followsTest_1 (by decide) (by rw [hs38]; decide) (by decide) ?_
    refine lv_aload_n hx hb dX2_followsTest_36 rfl (lv_at hl 0 rfl) ?_
    refine lv_iload_n hx hb dX2_followsTest_37 rfl (lv_at hl 1 rfl) ?_
    refine lv_iconst (v := (0 : Int32)) hx hb dX2_followsTest_38 (by decide) ?_
    obtain ⟨g39, hcal, h⟩ := bnd_s h
    refine x_VV (As := [.int x0, .int (0 : Int32)]) hx hb hml hown hts hK hP hS (ct_X2_addToken l D a cA cT hI g x0 (0 : Int32) g39 hcal) tF_3 (C := RX2) (F := TX2) (N := 14) rfl (g_V q609 q610 q11 q41 q611) yd_X2_addToken ⟨Nat.le_of_ble_eq_true rfl, Nat.le_of_ble_eq_true rfl⟩ [] rfl (Nat.le_of_ble_eq_true rfl) hl.1 ⟨Nat.le_refl _, Nat.le_refl _⟩ dX2_followsTest_39 (fun H locs hP hS => ?_)
    refine lv_iconst (v := (1 : Int32)) hx hb dX2_followsTest_42 (by decide) ?_
    obtain ⟨rfl, rfl⟩ := Prod.mk.inj (Option.some.inj h)
    exact hend _ _ _ _ dX2_followsTest_43 rfl hP hS
  have h := ite_f hs38 h
  by_cases hs41 : x0 = (41 : Int32)
  · have h := ite_t hs41 h
    refine lv_lookup (off := 43) (tgt := 44) hx hb dX2_followsTest_1 (by decide) (by rw [hs41]; decide) (by decide) ?_
    refine lv_aload_n hx hb dX2_followsTest_44 rfl (lv_at hl 0 rfl) ?_
    refine x_get hx hb hts inX2 hown hK hP tF_3 (C := RX2) (F := TX2) (N := 14) rfl 3 (by decide) q141 rfl rfl dX2_followsTest_45 ?_
    refine lv_if_ne (tgt := 53) hx hb dX2_followsTest_48 (by decide) (fun hc => ?_) (fun hc => ?_)
    · have h := ite_f hc h
      refine lv_aload_n hx hb dX2_followsTest_53 rfl (lv_at hl 0 rfl) ?_
      refine lv_dup hx hb dX2_followsTest_54 rfl ?_
      refine x_get hx hb hts inX2 hown hK hP tF_3 (C := RX2) (F := TX2) (N := 14) rfl 3 (by decide) q141 rfl rfl dX2_followsTest_55 ?_
      refine lv_iconst (v := (1 : Int32)) hx hb dX2_followsTest_58 (by decide) ?_
      refine lv_isub hx hb dX2_followsTest_59 ?_
      refine x_put hx hb hts inX2 tyX2 tyX2_ok nmX2 hown hK hI hP hS tF_3 (C := RX2) (F := TX2) (N := 14) rfl 3 (by decide) q141 rfl rfl rfl rfl rfl dX2_followsTest_60 (fun H locs hP hS => ?_)
      refine lv_aload_n hx hb dX2_followsTest_63 rfl (lv_at hl 0 rfl) ?_
      refine lv_iload_n hx hb dX2_followsTest_64 rfl (lv_at hl 1 rfl) ?_
      refine lv_iconst (v := (5 : Int32)) hx hb dX2_followsTest_65 (by decide) ?_
      obtain ⟨g66, hcal, h⟩ := bnd_s h
      refine x_VV (As := [.int x0, .int (5 : Int32)]) hx hb hml hown hts hK hP hS (ct_X2_addToken l D a cA cT hI (g_w g 3 3 ((g.1 3 3) - (1 : Int32))) x0 (5 : Int32) g66 hcal) tF_3 (C := RX2) (F := TX2) (N := 14) rfl (g_V q609 q610 q11 q41 q611) yd_X2_addToken ⟨Nat.le_of_ble_eq_true rfl, Nat.le_of_ble_eq_true rfl⟩ [] rfl (Nat.le_of_ble_eq_true rfl) hl.1 ⟨Nat.le_refl _, Nat.le_refl _⟩ dX2_followsTest_66 (fun H locs hP hS => ?_)
      refine lv_iconst (v := (1 : Int32)) hx hb dX2_followsTest_69 (by decide) ?_
      obtain ⟨rfl, rfl⟩ := Prod.mk.inj (Option.some.inj h)
      exact hend _ _ _ _ dX2_followsTest_70 rfl hP hS
    · have h := ite_t hc h
      refine lv_iconst (v := (0 : Int32)) hx hb dX2_followsTest_51 (by decide) ?_
      obtain ⟨rfl, rfl⟩ := Prod.mk.inj (Option.some.inj h)
      exact hend _ _ _ _ dX2_followsTest_52 rfl hP hS
  have h := ite_f hs41 h
  by_cases hs124 : x0 = (124 : Int32)
  · have h := ite_t hs124 h
    refine lv_lookup (off := 35) (tgt := 36) hx hb dX2_followsTest_1 (by decide) (by rw [hs124]; decide) (by decide) ?_
    refine lv_aload_n hx hb dX2_followsTest_36 rfl (lv_at hl 0 rfl) ?_
    refine lv_iload_n hx hb dX2_followsTest_37 rfl (lv_at hl 1 rfl) ?_
    refine lv_iconst (v := (0 : Int32)) hx hb dX2_followsTest_38 (by decide) ?_
    obtain ⟨g39, hcal, h⟩ := bnd_s h
    refine x_VV (As := [.int x0, .int (0 : Int32)]) hx hb hml hown hts hK hP hS (ct_X2_addToken l D a cA cT hI g x0 (0 : Int32) g39 hcal) tF_3 (C := RX2) (F := TX2) (N := 14) rfl (g_V q609 q610 q11 q41 q611) yd_X2_addToken ⟨Nat.le_of_ble_eq_true rfl, Nat.le_of_ble_eq_true rfl⟩ [] rfl (Nat.le_of_ble_eq_true rfl) hl.1 ⟨Nat.le_refl _, Nat.le_refl _⟩ dX2_followsTest_39 (fun H locs hP hS => ?_)
    refine lv_iconst (v := (1 : Int32)) hx hb dX2_followsTest_42 (by decide) ?_
    obtain ⟨rfl, rfl⟩ := Prod.mk.inj (Option.some.inj h)
    exact hend _ _ _ _ dX2_followsTest_43 rfl hP hS
  have h := ite_f hs124 h
  refine lv_lookup (off := 70) (tgt := 71) hx hb dX2_followsTest_1 (by decide) (by simp only [Op.lookupswitch.offset, List.toList_toArray, if_neg (sw_en (n := 38) hs38 (by decide)), if_neg (sw_en (n := 41) hs41 (by decide)), if_neg (sw_en (n := 124) hs124 (by decide))]) (by decide) ?_
  refine lv_iconst (v := (0 : Int32)) hx hb dX2_followsTest_71 (by decide) ?_
  obtain ⟨rfl, rfl⟩ := Prod.mk.inj (Option.some.inj h)
  exact hend _ _ _ _ dX2_followsTest_72 rfl hP hS
set_option maxHeartbeats 4000000 in
set_option maxRecDepth 100000 in
theorem ct_X2_isAllowed (l : Launch) (D : va_G) (a : Nat → Nat) (cA cT : ClassId) (hI : WI a TC) (g : MG) (x0 : Int32)  (r : Int32) (g' : MG) (h : m_X2_isAllowed g x0 = some (r, g')) :
    CtI l D a cA cT TC yX2_isAllowed (Cond.code yX2_isAllowed cX2_isAllowed 2 (some .boolean) :: lw_all) (rmm 3 65) [.ref (a 3), .int x0] g r g' := by
  refine CtI.of (by decide +kernel) (Nat.le_of_ble_eq_true rfl) ?_
  intro p e s m args below meth c Q ls hx hb hml hown hts hK hP hS hl hend
  have hl : lv_has ls 2 [(0, .ref (a 3)), (1, .int x0)] := hl
  unfold m_X2_isAllowed at h
  refine lv_aload_n hx hb dX2_isAllowed_0 rfl (lv_at hl 0 rfl) ?_
  refine x_get hx hb hts inX2 hown hK hP tF_3 (C := RX2) (F := TX2) (N := 14) rfl 2 (by decide) q140 rfl rfl dX2_isAllowed_1 ?_
  by_cases hs0 : (g.1 3 2) = (0 : Int32)
  · have h := ite_t hs0 h
    refine lv_tableIn (off := 36) (tgt := 40) hx hb dX2_isAllowed_4 (by rw [hs0]; decide) (by rw [hs0]; decide) (by rw [hs0]; rfl) (by decide) ?_
    refine lv_aload_n hx hb dX2_isAllowed_40 rfl (lv_at hl 0 rfl) ?_
    refine lv_iload_n hx hb dX2_isAllowed_41 rfl (lv_at hl 1 rfl) ?_
    obtain ⟨r42, g42, hcal, h⟩ := bnd2_s h
    refine x_VI (As := [.int x0]) hx hb hml hown hts hK hP hS (ct_X2_startsTest l D a cA cT hI g x0 r42 g42 hcal) tF_3 (C := RX2) (F := TX2) (N := 14) rfl (g_V q606 q607 q10 q41 q608) yd_X2_startsTest ⟨Nat.le_of_ble_eq_true rfl, Nat.le_of_ble_eq_true rfl⟩ [] rfl (Nat.le_of_ble_eq_true rfl) hl.1 ⟨Nat.le_refl _, Nat.le_refl _⟩ dX2_isAllowed_42 (fun H locs hP hS => ?_)
    obtain ⟨hz, h⟩ := ite_n h
    obtain ⟨rfl, rfl⟩ := Prod.mk.inj (Option.some.inj h)
    exact hend _ _ _ _ dX2_isAllowed_45 (bz_n hz) hP hS
  have h := ite_f hs0 h
  by_cases hs1 : (g.1 3 2) = (1 : Int32)
  · have h := ite_t hs1 h
    refine lv_tableIn (off := 42) (tgt := 46) hx hb dX2_isAllowed_4 (by rw [hs1]; decide) (by rw [hs1]; decide) (by rw [hs1]; rfl) (by decide) ?_
    refine lv_aload_n hx hb dX2_isAllowed_46 rfl (lv_at hl 0 rfl) ?_
    refine lv_iload_n hx hb dX2_isAllowed_47 rfl (lv_at hl 1 rfl) ?_
    obtain ⟨r48, g48, hcal, h⟩ := bnd2_s h
    refine x_VI (As := [.int x0]) hx hb hml hown hts hK hP hS (ct_X2_isSign l D a cA cT hI g x0 r48 g48 hcal) tF_3 (C := RX2) (F := TX2) (N := 14) rfl (g_V q613 q614 q12 q41 q615) yd_X2_isSign ⟨Nat.le_of_ble_eq_true rfl, Nat.le_of_ble_eq_true rfl⟩ [] rfl (Nat.le_of_ble_eq_true rfl) hl.1 ⟨Nat.le_refl _, Nat.le_refl _⟩ dX2_isAllowed_48 (fun H locs hP hS => ?_)
    obtain ⟨hz, h⟩ := ite_n h
    obtain ⟨rfl, rfl⟩ := Prod.mk.inj (Option.some.inj h)
    exact hend _ _ _ _ dX2_isAllowed_51 (bz_n hz) hP hS
  have h := ite_f hs1 h
  by_cases hs2 : (g.1 3 2) = (2 : Int32)
  · have h := ite_t hs2 h
    refine lv_tableIn (off := 48) (tgt := 52) hx hb dX2_isAllowed_4 (by rw [hs2]; decide) (by rw [hs2]; decide) (by rw [hs2]; rfl) (by decide) ?_
    refine lv_aload_n hx hb dX2_isAllowed_52 rfl (lv_at hl 0 rfl) ?_
    refine lv_iload_n hx hb dX2_isAllowed_53 rfl (lv_at hl 1 rfl) ?_
    obtain ⟨r54, g54, hcal, h⟩ := bnd2_s h
    refine x_VI (As := [.int x0]) hx hb hml hown hts hK hP hS (ct_X2_isMinus l D a cA cT hI g x0 r54 g54 hcal) tF_3 (C := RX2) (F := TX2) (N := 14) rfl (g_V q616 q617 q13 q41 q618) yd_X2_isMinus ⟨Nat.le_of_ble_eq_true rfl, Nat.le_of_ble_eq_true rfl⟩ [] rfl (Nat.le_of_ble_eq_true rfl) hl.1 ⟨Nat.le_refl _, Nat.le_refl _⟩ dX2_isAllowed_54 (fun H locs hP hS => ?_)
    refine lv_if_ne (tgt := 68) hx hb dX2_isAllowed_57 (by decide) (fun hc => ?_) (fun hc => ?_)
    · have h := ite_f hc h
      refine lv_iconst (v := (1 : Int32)) hx hb dX2_isAllowed_68 (by decide) ?_
      refine lv_goto (tgt := 73) hx hb dX2_isAllowed_69 (by decide) ?_
      obtain ⟨rfl, rfl⟩ := Prod.mk.inj (Option.some.inj h)
      exact hend _ _ _ _ dX2_isAllowed_73 rfl hP hS
    · have h := ite_t hc h
      refine lv_aload_n hx hb dX2_isAllowed_60 rfl (lv_at hl 0 rfl) ?_
      refine lv_iload_n hx hb dX2_isAllowed_61 rfl (lv_at hl 1 rfl) ?_
      obtain ⟨r62, g62, hcal, h⟩ := bnd2_s h
      refine x_VI (As := [.int x0]) hx hb hml hown hts hK hP hS (ct_X2_isFirstDigit l D a cA cT hI g54 x0 r62 g62 hcal) tF_3 (C := RX2) (F := TX2) (N := 14) rfl (g_V q619 q620 q14 q41 q621) yd_X2_isFirstDigit ⟨Nat.le_of_ble_eq_true rfl, Nat.le_of_ble_eq_true rfl⟩ [] rfl (Nat.le_of_ble_eq_true rfl) hl.1 ⟨Nat.le_refl _, Nat.le_refl _⟩ dX2_isAllowed_62 (fun H locs hP hS => ?_)
      refine lv_if_eq (tgt := 72) hx hb dX2_isAllowed_65 (by decide) (fun hc => ?_) (fun hc => ?_)
      · have h := ite_t hc h
        refine lv_iconst (v := (0 : Int32)) hx hb dX2_isAllowed_72 (by decide) ?_
        obtain ⟨rfl, rfl⟩ := Prod.mk.inj (Option.some.inj h)
        exact hend _ _ _ _ dX2_isAllowed_73 rfl hP hS
      · have h := ite_f hc h
        refine lv_iconst (v := (1 : Int32)) hx hb dX2_isAllowed_68 (by decide) ?_
        refine lv_goto (tgt := 73) hx hb dX2_isAllowed_69 (by decide) ?_
        obtain ⟨rfl, rfl⟩ := Prod.mk.inj (Option.some.inj h)
        exact hend _ _ _ _ dX2_isAllowed_73 rfl hP hS
  have h := ite_f hs2 h
  by_cases hs3 : (g.1 3 2) = (3 : Int32)
  · have h := ite_t hs3 h
    refine lv_tableIn (off := 70) (tgt := 74) hx hb dX2_isAllowed_4 (by rw [hs3]; decide) (by rw [hs3]; decide) (by rw [hs3]; rfl) (by decide) ?_
    refine lv_aload_n hx hb dX2_isAllowed_74 rfl (lv_at hl 0 rfl) ?_
    refine lv_iload_n hx hb dX2_isAllowed_75 rfl (lv_at hl 1 rfl) ?_
    obtain ⟨r76, g76, hcal, h⟩ := bnd2_s h
    refine x_VI (As := [.int x0]) hx hb hml hown hts hK hP hS (ct_X2_isFirstDigit l D a cA cT hI g x0 r76 g76 hcal) tF_3 (C := RX2) (F := TX2) (N := 14) rfl (g_V q619 q620 q14 q41 q621) yd_X2_isFirstDigit ⟨Nat.le_of_ble_eq_true rfl, Nat.le_of_ble_eq_true rfl⟩ [] rfl (Nat.le_of_ble_eq_true rfl) hl.1 ⟨Nat.le_refl _, Nat.le_refl _⟩ dX2_isAllowed_76 (fun H locs hP hS => ?_)
    obtain ⟨hz, h⟩ := ite_n h
    obtain ⟨rfl, rfl⟩ := Prod.mk.inj (Option.some.inj h)
    exact hend _ _ _ _ dX2_isAllowed_79 (bz_n hz) hP hS
  have h := ite_f hs3 h
  by_cases hs4 : (g.1 3 2) = (4 : Int32)
  · have h := ite_t hs4 h
    refine lv_tableIn (off := 76) (tgt := 80) hx hb dX2_isAllowed_4 (by rw [hs4]; decide) (by rw [hs4]; decide) (by rw [hs4]; rfl) (by decide) ?_
    refine lv_aload_n hx hb dX2_isAllowed_80 rfl (lv_at hl 0 rfl) ?_
    refine lv_iload_n hx hb dX2_isAllowed_81 rfl (lv_at hl 1 rfl) ?_
    obtain ⟨r82, g82, hcal, h⟩ := bnd2_s h
    refine x_VI (As := [.int x0]) hx hb hml hown hts hK hP hS (ct_X2_isNextDigit l D a cA cT hI g x0 r82 g82 hcal) tF_3 (C := RX2) (F := TX2) (N := 14) rfl (g_V q625 q626 q16 q41 q627) yd_X2_isNextDigit ⟨Nat.le_of_ble_eq_true rfl, Nat.le_of_ble_eq_true rfl⟩ [] rfl (Nat.le_of_ble_eq_true rfl) hl.1 ⟨Nat.le_refl _, Nat.le_refl _⟩ dX2_isAllowed_82 (fun H locs hP hS => ?_)
    refine lv_if_ne (tgt := 96) hx hb dX2_isAllowed_85 (by decide) (fun hc => ?_) (fun hc => ?_)
    · have h := ite_f hc h
      refine lv_iconst (v := (1 : Int32)) hx hb dX2_isAllowed_96 (by decide) ?_
      refine lv_goto (tgt := 101) hx hb dX2_isAllowed_97 (by decide) ?_
      obtain ⟨rfl, rfl⟩ := Prod.mk.inj (Option.some.inj h)
      exact hend _ _ _ _ dX2_isAllowed_101 rfl hP hS
    · have h := ite_t hc h
      refine lv_aload_n hx hb dX2_isAllowed_88 rfl (lv_at hl 0 rfl) ?_
      refine lv_iload_n hx hb dX2_isAllowed_89 rfl (lv_at hl 1 rfl) ?_
      obtain ⟨r90, g90, hcal, h⟩ := bnd2_s h
      refine x_VI (As := [.int x0]) hx hb hml hown hts hK hP hS (ct_X2_followsTest l D a cA cT hI g82 x0 r90 g90 hcal) tF_3 (C := RX2) (F := TX2) (N := 14) rfl (g_V q628 q629 q17 q41 q630) yd_X2_followsTest ⟨Nat.le_of_ble_eq_true rfl, Nat.le_of_ble_eq_true rfl⟩ [] rfl (Nat.le_of_ble_eq_true rfl) hl.1 ⟨Nat.le_refl _, Nat.le_refl _⟩ dX2_isAllowed_90 (fun H locs hP hS => ?_)
      refine lv_if_eq (tgt := 100) hx hb dX2_isAllowed_93 (by decide) (fun hc => ?_) (fun hc => ?_)
      · have h := ite_t hc h
        refine lv_iconst (v := (0 : Int32)) hx hb dX2_isAllowed_100 (by decide) ?_
        obtain ⟨rfl, rfl⟩ := Prod.mk.inj (Option.some.inj h)
        exact hend _ _ _ _ dX2_isAllowed_101 rfl hP hS
      · have h := ite_f hc h
        refine lv_iconst (v := (1 : Int32)) hx hb dX2_isAllowed_96 (by decide) ?_
        refine lv_goto (tgt := 101) hx hb dX2_isAllowed_97 (by decide) ?_
        obtain ⟨rfl, rfl⟩ := Prod.mk.inj (Option.some.inj h)
        exact hend _ _ _ _ dX2_isAllowed_101 rfl hP hS
  have h := ite_f hs4 h
  have hq : (g.1 3 2).toInt ≠ 0 ∧ (g.1 3 2).toInt ≠ 1 ∧ (g.1 3 2).toInt ≠ 2 ∧ (g.1 3 2).toInt ≠ 3 ∧ (g.1 3 2).toInt ≠ 4 := ⟨sw_ne hs0 rfl, sw_ne hs1 rfl, sw_ne hs2 rfl, sw_ne hs3 rfl, sw_ne hs4 rfl⟩
  refine lv_tableOut (tgt := 102) hx hb dX2_isAllowed_4 (by omega) (by decide) ?_
  refine lv_aload_n hx hb dX2_isAllowed_102 rfl (lv_at hl 0 rfl) ?_
  refine lv_iload_n hx hb dX2_isAllowed_103 rfl (lv_at hl 1 rfl) ?_
  obtain ⟨r104, g104, hcal, h⟩ := bnd2_s h
  refine x_VI (As := [.int x0]) hx hb hml hown hts hK hP hS (ct_X2_followsTest l D a cA cT hI g x0 r104 g104 hcal) tF_3 (C := RX2) (F := TX2) (N := 14) rfl (g_V q628 q629 q17 q41 q630) yd_X2_followsTest ⟨Nat.le_of_ble_eq_true rfl, Nat.le_of_ble_eq_true rfl⟩ [] rfl (Nat.le_of_ble_eq_true rfl) hl.1 ⟨Nat.le_refl _, Nat.le_refl _⟩ dX2_isAllowed_104 (fun H locs hP hS => ?_)
  obtain ⟨hz, h⟩ := ite_n h
  obtain ⟨rfl, rfl⟩ := Prod.mk.inj (Option.some.inj h)
  exact hend _ _ _ _ dX2_isAllowed_107 (bz_n hz) hP hS
set_option maxHeartbeats 4000000 in
set_option maxRecDepth 100000 in
theorem ct_X2_read (l : Launch) (D : va_G) (a : Nat → Nat) (cA cT : ClassId) (hI : WI a TC) (g : MG) (x0 : Int32)  (g' : MG) (h : m_X2_read g x0 = some g') :
    CtV l D a cA cT TC yX2_read (Cond.code yX2_read cX2_read 2 none :: lw_all) (rmm 4 86) [.ref (a 3), .int x0] g g' := by
  refine CtV.of (by decide +kernel) (Nat.le_of_ble_eq_true rfl) ?_
  intro p e s m args below meth c Q ls hx hb hml hown hts hK hP hS hl hend
  have hl : lv_has ls 2 [(0, .ref (a 3)), (1, .int x0)] := hl
  unfold m_X2_read at h
  refine lv_aload_n hx hb dX2_read_0 rfl (lv_at hl 0 rfl) ?_
  refine x_get hx hb hts inX2 hown hK hP tF_3 (C := RX2) (F := TX2) (N := 14) rfl 1 (by decide) q139 rfl rfl dX2_read_1 ?_
  refine lv_sipush (v := (-1005 : Int32)) hx hb dX2_read_4 (by decide) ?_
  refine lv_icmp_ne (tgt := 26) hx hb dX2_read_7 (by decide) (fun hc => ?_) (fun hc => ?_)
  · have h := ite_f hc h
    refine lv_aload_n hx hb dX2_read_26 rfl (lv_at hl 0 rfl) ?_
    refine lv_dup hx hb dX2_read_27 rfl ?_
    refine x_get hx hb hts inX2 hown hK hP tF_3 (C := RX2) (F := TX2) (N := 14) rfl 0 (by decide) q137 rfl rfl dX2_read_28 ?_
    refine lv_iconst (v := (1 : Int32)) hx hb dX2_read_31 (by decide) ?_
    refine lv_iadd hx hb dX2_read_32 ?_
    refine x_put hx hb hts inX2 tyX2 tyX2_ok nmX2 hown hK hI hP hS tF_3 (C := RX2) (F := TX2) (N := 14) rfl 0 (by decide) q137 rfl rfl rfl rfl rfl dX2_read_33 (fun H locs hP hS => ?_)
    obtain rfl := Option.some.inj h
    exact hend _ _ _ _ dX2_read_36 hP hS
  · have h := ite_t hc h
    refine lv_aload_n hx hb dX2_read_10 rfl (lv_at hl 0 rfl) ?_
    refine lv_iload_n hx hb dX2_read_11 rfl (lv_at hl 1 rfl) ?_
    obtain ⟨r12, g12, hcal, h⟩ := bnd2_s h
    refine x_VI (As := [.int x0]) hx hb hml hown hts hK hP hS (ct_X2_isAllowed l D a cA cT hI g x0 r12 g12 hcal) tF_3 (C := RX2) (F := TX2) (N := 14) rfl (g_V q603 q604 q9 q41 q605) yd_X2_isAllowed ⟨Nat.le_of_ble_eq_true rfl, Nat.le_of_ble_eq_true rfl⟩ [] rfl (Nat.le_of_ble_eq_true rfl) hl.1 ⟨Nat.le_refl _, Nat.le_refl _⟩ dX2_read_12 (fun H locs hP hS => ?_)
    refine lv_if_ne (tgt := 26) hx hb dX2_read_15 (by decide) (fun hc => ?_) (fun hc => ?_)
    · have h := ite_f hc h
      refine lv_aload_n hx hb dX2_read_26 rfl (lv_at hl 0 rfl) ?_
      refine lv_dup hx hb dX2_read_27 rfl ?_
      refine x_get hx hb hts inX2 hown hK hP tF_3 (C := RX2) (F := TX2) (N := 14) rfl 0 (by decide) q137 rfl rfl dX2_read_28 ?_
      refine lv_iconst (v := (1 : Int32)) hx hb dX2_read_31 (by decide) ?_
      refine lv_iadd hx hb dX2_read_32 ?_
      refine x_put hx hb hts inX2 tyX2 tyX2_ok nmX2 hown hK hI hP hS tF_3 (C := RX2) (F := TX2) (N := 14) rfl 0 (by decide) q137 rfl rfl rfl rfl rfl dX2_read_33 (fun H locs hP hS => ?_)
      obtain rfl := Option.some.inj h
      exact hend _ _ _ _ dX2_read_36 hP hS
    · have h := ite_t hc h
      refine lv_aload_n hx hb dX2_read_18 rfl (lv_at hl 0 rfl) ?_
      refine lv_aload_n hx hb dX2_read_19 rfl (lv_at hl 0 rfl) ?_
      refine x_get hx hb hts inX2 hown hK hP tF_3 (C := RX2) (F := TX2) (N := 14) rfl 0 (by decide) q137 rfl rfl dX2_read_20 ?_
      refine x_put hx hb hts inX2 tyX2 tyX2_ok nmX2 hown hK hI hP hS tF_3 (C := RX2) (F := TX2) (N := 14) rfl 1 (by decide) q139 rfl rfl rfl rfl rfl dX2_read_23 (fun H locs hP hS => ?_)
      refine lv_aload_n hx hb dX2_read_26 rfl (lv_at hl 0 rfl) ?_
      refine lv_dup hx hb dX2_read_27 rfl ?_
      refine x_get hx hb hts inX2 hown hK hP tF_3 (C := RX2) (F := TX2) (N := 14) rfl 0 (by decide) q137 rfl rfl dX2_read_28 ?_
      refine lv_iconst (v := (1 : Int32)) hx hb dX2_read_31 (by decide) ?_
      refine lv_iadd hx hb dX2_read_32 ?_
      refine x_put hx hb hts inX2 tyX2 tyX2_ok nmX2 hown hK hI hP hS tF_3 (C := RX2) (F := TX2) (N := 14) rfl 0 (by decide) q137 rfl rfl rfl rfl rfl dX2_read_33 (fun H locs hP hS => ?_)
      obtain rfl := Option.some.inj h
      exact hend _ _ _ _ dX2_read_36 hP hS
set_option maxHeartbeats 4000000 in
set_option maxRecDepth 100000 in
theorem ct_X2_firstFault (l : Launch) (D : va_G) (a : Nat → Nat) (cA cT : ClassId) (hI : WI a TC) (g : MG)   (r : Int32) (h : m_X2_firstFault g = some r) :
    CtI l D a cA cT TC yX2_firstFault (Cond.code yX2_firstFault cX2_firstFault 2 (some .int) :: lw_all) (rmm 0 0) [.ref (a 3)] g r g := by
  refine CtI.of (by decide +kernel) (Nat.le_of_ble_eq_true rfl) ?_
  intro p e s m args below meth c Q ls hx hb hml hown hts hK hP hS hl hend
  have hl : lv_has ls 2 [(0, .ref (a 3))] := hl
  unfold m_X2_firstFault at h
  refine lv_aload_n hx hb dX2_firstFault_0 rfl (lv_at hl 0 rfl) ?_
  refine x_get hx hb hts inX2 hown hK hP tF_3 (C := RX2) (F := TX2) (N := 14) rfl 1 (by decide) q139 rfl rfl dX2_firstFault_1 ?_
  refine lv_sipush (v := (-1005 : Int32)) hx hb dX2_firstFault_4 (by decide) ?_
  refine lv_icmp_eq (tgt := 15) hx hb dX2_firstFault_7 (by decide) (fun hc => ?_) (fun hc => ?_)
  · have h := ite_t hc h
    refine lv_aload_n hx hb dX2_firstFault_15 rfl (lv_at hl 0 rfl) ?_
    refine x_get hx hb hts inX2 hown hK hP tF_3 (C := RX2) (F := TX2) (N := 14) rfl 2 (by decide) q140 rfl rfl dX2_firstFault_16 ?_
    refine lv_iconst (v := (4 : Int32)) hx hb dX2_firstFault_19 (by decide) ?_
    refine lv_icmp_eq (tgt := 31) hx hb dX2_firstFault_20 (by decide) (fun hc => ?_) (fun hc => ?_)
    · have h := ite_t hc h
      refine lv_iconst (v := (1 : Int32)) hx hb dX2_firstFault_31 (by decide) ?_
      refine lv_goto (tgt := 36) hx hb dX2_firstFault_32 (by decide) ?_
      refine lv_istore_n (lv' := [(1, .int (1 : Int32)), (0, .ref (a 3))]) hx hb dX2_firstFault_36 rfl hl (by decide) rfl (fun ls hl => ?_)
      refine lv_iload_n hx hb dX2_firstFault_37 rfl (lv_at hl 0 rfl) ?_
      refine lv_if_eq (tgt := 54) hx hb dX2_firstFault_38 (by decide) (fun hc => ?_) (fun hc => ?_)
      · have h := ite_t hc h
        refine lv_aload_n hx hb dX2_firstFault_54 rfl (lv_at hl 1 rfl) ?_
        refine x_get hx hb hts inX2 hown hK hP tF_3 (C := RX2) (F := TX2) (N := 14) rfl 0 (by decide) q137 rfl rfl dX2_firstFault_55 ?_
        obtain rfl := Option.some.inj h
        exact hend _ _ _ _ dX2_firstFault_58 rfl hP hS
      · have h := ite_f hc h
        refine lv_aload_n hx hb dX2_firstFault_41 rfl (lv_at hl 1 rfl) ?_
        refine x_get hx hb hts inX2 hown hK hP tF_3 (C := RX2) (F := TX2) (N := 14) rfl 3 (by decide) q141 rfl rfl dX2_firstFault_42 ?_
        refine lv_if_ne (tgt := 54) hx hb dX2_firstFault_45 (by decide) (fun hc => ?_) (fun hc => ?_)
        · have h := ite_f hc h
          refine lv_aload_n hx hb dX2_firstFault_54 rfl (lv_at hl 1 rfl) ?_
          refine x_get hx hb hts inX2 hown hK hP tF_3 (C := RX2) (F := TX2) (N := 14) rfl 0 (by decide) q137 rfl rfl dX2_firstFault_55 ?_
          obtain rfl := Option.some.inj h
          exact hend _ _ _ _ dX2_firstFault_58 rfl hP hS
        · have h := ite_t hc h
          refine lv_sipush (v := (-1005 : Int32)) hx hb dX2_firstFault_48 (by decide) ?_
          refine lv_goto (tgt := 58) hx hb dX2_firstFault_51 (by decide) ?_
          obtain rfl := Option.some.inj h
          exact hend _ _ _ _ dX2_firstFault_58 rfl hP hS
    · have h := ite_f hc h
      refine lv_aload_n hx hb dX2_firstFault_23 rfl (lv_at hl 0 rfl) ?_
      refine x_get hx hb hts inX2 hown hK hP tF_3 (C := RX2) (F := TX2) (N := 14) rfl 2 (by decide) q140 rfl rfl dX2_firstFault_24 ?_
      refine lv_iconst (v := (5 : Int32)) hx hb dX2_firstFault_27 (by decide) ?_
      refine lv_icmp_ne (tgt := 35) hx hb dX2_firstFault_28 (by decide) (fun hc => ?_) (fun hc => ?_)
      · have h := ite_f hc h
        refine lv_iconst (v := (0 : Int32)) hx hb dX2_firstFault_35 (by decide) ?_
        refine lv_istore_n (lv' := [(1, .int (0 : Int32)), (0, .ref (a 3))]) hx hb dX2_firstFault_36 rfl hl (by decide) rfl (fun ls hl => ?_)
        refine lv_iload_n hx hb dX2_firstFault_37 rfl (lv_at hl 0 rfl) ?_
        refine lv_if_eq (tgt := 54) hx hb dX2_firstFault_38 (by decide) (fun hc => ?_) (fun hc => ?_)
        · have h := ite_t hc h
          refine lv_aload_n hx hb dX2_firstFault_54 rfl (lv_at hl 1 rfl) ?_
          refine x_get hx hb hts inX2 hown hK hP tF_3 (C := RX2) (F := TX2) (N := 14) rfl 0 (by decide) q137 rfl rfl dX2_firstFault_55 ?_
          obtain rfl := Option.some.inj h
          exact hend _ _ _ _ dX2_firstFault_58 rfl hP hS
        · have h := ite_f hc h
          refine lv_aload_n hx hb dX2_firstFault_41 rfl (lv_at hl 1 rfl) ?_
          refine x_get hx hb hts inX2 hown hK hP tF_3 (C := RX2) (F := TX2) (N := 14) rfl 3 (by decide) q141 rfl rfl dX2_firstFault_42 ?_
          refine lv_if_ne (tgt := 54) hx hb dX2_firstFault_45 (by decide) (fun hc => ?_) (fun hc => ?_)
          · have h := ite_f hc h
            refine lv_aload_n hx hb dX2_firstFault_54 rfl (lv_at hl 1 rfl) ?_
            refine x_get hx hb hts inX2 hown hK hP tF_3 (C := RX2) (F := TX2) (N := 14) rfl 0 (by decide) q137 rfl rfl dX2_firstFault_55 ?_
            obtain rfl := Option.some.inj h
            exact hend _ _ _ _ dX2_firstFault_58 rfl hP hS
          · have h := ite_t hc h
            refine lv_sipush (v := (-1005 : Int32)) hx hb dX2_firstFault_48 (by decide) ?_
            refine lv_goto (tgt := 58) hx hb dX2_firstFault_51 (by decide) ?_
            obtain rfl := Option.some.inj h
            exact hend _ _ _ _ dX2_firstFault_58 rfl hP hS
      · have h := ite_t hc h
        refine lv_iconst (v := (1 : Int32)) hx hb dX2_firstFault_31 (by decide) ?_
        refine lv_goto (tgt := 36) hx hb dX2_firstFault_32 (by decide) ?_
        refine lv_istore_n (lv' := [(1, .int (1 : Int32)), (0, .ref (a 3))]) hx hb dX2_firstFault_36 rfl hl (by decide) rfl (fun ls hl => ?_)
        refine lv_iload_n hx hb dX2_firstFault_37 rfl (lv_at hl 0 rfl) ?_
        refine lv_if_eq (tgt := 54) hx hb dX2_firstFault_38 (by decide) (fun hc => ?_) (fun hc => ?_)
        · have h := ite_t hc h
          refine lv_aload_n hx hb dX2_firstFault_54 rfl (lv_at hl 1 rfl) ?_
          refine x_get hx hb hts inX2 hown hK hP tF_3 (C := RX2) (F := TX2) (N := 14) rfl 0 (by decide) q137 rfl rfl dX2_firstFault_55 ?_
          obtain rfl := Option.some.inj h
          exact hend _ _ _ _ dX2_firstFault_58 rfl hP hS
        · have h := ite_f hc h
          refine lv_aload_n hx hb dX2_firstFault_41 rfl (lv_at hl 1 rfl) ?_
          refine x_get hx hb hts inX2 hown hK hP tF_3 (C := RX2) (F := TX2) (N := 14) rfl 3 (by decide) q141 rfl rfl dX2_firstFault_42 ?_
          refine lv_if_ne (tgt := 54) hx hb dX2_firstFault_45 (by decide) (fun hc => ?_) (fun hc => ?_)
          · have h := ite_f hc h
            refine lv_aload_n hx hb dX2_firstFault_54 rfl (lv_at hl 1 rfl) ?_
            refine x_get hx hb hts inX2 hown hK hP tF_3 (C := RX2) (F := TX2) (N := 14) rfl 0 (by decide) q137 rfl rfl dX2_firstFault_55 ?_
            obtain rfl := Option.some.inj h
            exact hend _ _ _ _ dX2_firstFault_58 rfl hP hS
          · have h := ite_t hc h
            refine lv_sipush (v := (-1005 : Int32)) hx hb dX2_firstFault_48 (by decide) ?_
            refine lv_goto (tgt := 58) hx hb dX2_firstFault_51 (by decide) ?_
            obtain rfl := Option.some.inj h
            exact hend _ _ _ _ dX2_firstFault_58 rfl hP hS
  · have h := ite_f hc h
    refine lv_aload_n hx hb dX2_firstFault_10 rfl (lv_at hl 0 rfl) ?_
    refine x_get hx hb hts inX2 hown hK hP tF_3 (C := RX2) (F := TX2) (N := 14) rfl 1 (by decide) q139 rfl rfl dX2_firstFault_11 ?_
    obtain rfl := Option.some.inj h
    exact hend _ _ _ _ dX2_firstFault_14 rfl hP hS
set_option maxHeartbeats 4000000 in
set_option maxRecDepth 100000 in
theorem ct_X2_isFaulty (l : Launch) (D : va_G) (a : Nat → Nat) (cA cT : ClassId) (hI : WI a TC) (g : MG)   (r : Int32) (h : m_X2_isFaulty g = some r) :
    CtI l D a cA cT TC yX2_isFaulty (Cond.code yX2_isFaulty cX2_isFaulty 1 (some .boolean) :: lw_all) (rmm 1 21) [.ref (a 3)] g r g := by
  refine CtI.of (by decide +kernel) (Nat.le_of_ble_eq_true rfl) ?_
  intro p e s m args below meth c Q ls hx hb hml hown hts hK hP hS hl hend
  have hl : lv_has ls 1 [(0, .ref (a 3))] := hl
  unfold m_X2_isFaulty at h
  refine lv_aload_n hx hb dX2_isFaulty_0 rfl (lv_at hl 0 rfl) ?_
  obtain ⟨r1, hcal, h⟩ := bnd_s h
  refine x_VI (As := []) hx hb hml hown hts hK hP hS (ct_X2_firstFault l D a cA cT hI g r1 hcal) tF_3 (C := RX2) (F := TX2) (N := 14) rfl (g_V q639 q640 q641 q41 q642) yd_X2_firstFault ⟨Nat.le_of_ble_eq_true rfl, Nat.le_of_ble_eq_true rfl⟩ [] rfl (Nat.le_of_ble_eq_true rfl) hl.1 ⟨Nat.le_refl _, Nat.le_refl _⟩ dX2_isFaulty_1 (fun H locs hP hS => ?_)
  refine lv_sipush (v := (-1005 : Int32)) hx hb dX2_isFaulty_4 (by decide) ?_
  refine lv_icmp_eq (tgt := 14) hx hb dX2_isFaulty_7 (by decide) (fun hc => ?_) (fun hc => ?_)
  · have h := ite_t hc h
    refine lv_iconst (v := (0 : Int32)) hx hb dX2_isFaulty_14 (by decide) ?_
    obtain rfl := Option.some.inj h
    exact hend _ _ _ _ dX2_isFaulty_15 rfl hP hS
  · have h := ite_f hc h
    refine lv_iconst (v := (1 : Int32)) hx hb dX2_isFaulty_10 (by decide) ?_
    refine lv_goto (tgt := 15) hx hb dX2_isFaulty_11 (by decide) ?_
    obtain rfl := Option.some.inj h
    exact hend _ _ _ _ dX2_isFaulty_15 rfl hP hS
set_option maxHeartbeats 4000000 in
set_option maxRecDepth 100000 in
theorem ct_X2_startDepth (l : Launch) (D : va_G) (a : Nat → Nat) (cA cT : ClassId) (hI : WI a TC) (g : MG) (x0 : Int32)  (g' : MG) (h : m_X2_startDepth g x0 = some g') :
    CtV l D a cA cT TC yX2_startDepth (Cond.code yX2_startDepth cX2_startDepth 2 none :: lw_all) (rmm 1 22) [.ref (a 3), .int x0] g g' := by
  refine CtV.of (by decide +kernel) (Nat.le_of_ble_eq_true rfl) ?_
  intro p e s m args below meth c Q ls hx hb hml hown hts hK hP hS hl hend
  have hl : lv_has ls 2 [(0, .ref (a 3)), (1, .int x0)] := hl
  unfold m_X2_startDepth at h
  refine lv_aload_n hx hb dX2_startDepth_0 rfl (lv_at hl 0 rfl) ?_
  refine x_getr hx hb hts inX2 hown hK hP tF_3 (C := RX2) (F := TX2) (N := 14) rfl 11 (by decide) q149 rfl 14 rfl dX2_startDepth_1 ?_
  refine lv_iload_n hx hb dX2_startDepth_4 rfl (lv_at hl 1 rfl) ?_
  refine lv_iconst (v := (0 : Int32)) hx hb dX2_startDepth_5 (by decide) ?_
  obtain ⟨g6, hcal, h⟩ := bnd_s h
  refine x_VV (As := [.int x0, .int (0 : Int32)]) hx hb hml hown hts hK hP hS (ct_X0_write l D a cA cT hI g 15 6 x0 (0 : Int32) 14 tF_14 tF_15 g6 hcal) tF_14 (C := RX0) (F := TX0) (N := 1) rfl (g_V q612 q424 q425 q38 q426) yd_X0_write ⟨Nat.le_of_ble_eq_true rfl, Nat.le_of_ble_eq_true rfl⟩ [] rfl (Nat.le_of_ble_eq_true rfl) hl.1 ⟨Nat.le_refl _, Nat.le_refl _⟩ dX2_startDepth_6 (fun H locs hP hS => ?_)
  refine lv_aload_n hx hb dX2_startDepth_9 rfl (lv_at hl 0 rfl) ?_
  refine x_getr hx hb hts inX2 hown hK hP tF_3 (C := RX2) (F := TX2) (N := 14) rfl 12 (by decide) q150 rfl 16 rfl dX2_startDepth_10 ?_
  refine lv_iload_n hx hb dX2_startDepth_13 rfl (lv_at hl 1 rfl) ?_
  refine lv_iconst (v := (2 : Int32)) hx hb dX2_startDepth_14 (by decide) ?_
  obtain ⟨g15, hcal, h⟩ := bnd_s h
  refine x_VV (As := [.int x0, .int (2 : Int32)]) hx hb hml hown hts hK hP hS (ct_X0_write l D a cA cT hI g6 17 6 x0 (2 : Int32) 16 tF_16 tF_17 g15 hcal) tF_16 (C := RX0) (F := TX0) (N := 1) rfl (g_V q612 q424 q425 q38 q426) yd_X0_write ⟨Nat.le_of_ble_eq_true rfl, Nat.le_of_ble_eq_true rfl⟩ [] rfl (Nat.le_of_ble_eq_true rfl) hl.1 ⟨Nat.le_refl _, Nat.le_refl _⟩ dX2_startDepth_15 (fun H locs hP hS => ?_)
  refine lv_aload_n hx hb dX2_startDepth_18 rfl (lv_at hl 0 rfl) ?_
  refine x_getr hx hb hts inX2 hown hK hP tF_3 (C := RX2) (F := TX2) (N := 14) rfl 13 (by decide) q151 rfl 18 rfl dX2_startDepth_19 ?_
  refine lv_iload_n hx hb dX2_startDepth_22 rfl (lv_at hl 1 rfl) ?_
  refine lv_iconst (v := (0 : Int32)) hx hb dX2_startDepth_23 (by decide) ?_
  obtain ⟨g24, hcal, h⟩ := bnd_s h
  refine x_VV (As := [.int x0, .int (0 : Int32)]) hx hb hml hown hts hK hP hS (ct_X0_write l D a cA cT hI g15 19 6 x0 (0 : Int32) 18 tF_18 tF_19 g24 hcal) tF_18 (C := RX0) (F := TX0) (N := 1) rfl (g_V q612 q424 q425 q38 q426) yd_X0_write ⟨Nat.le_of_ble_eq_true rfl, Nat.le_of_ble_eq_true rfl⟩ [] rfl (Nat.le_of_ble_eq_true rfl) hl.1 ⟨Nat.le_refl _, Nat.le_refl _⟩ dX2_startDepth_24 (fun H locs hP hS => ?_)
  obtain rfl := Option.some.inj h
  exact hend _ _ _ _ dX2_startDepth_27 hP hS
set_option maxHeartbeats 4000000 in
set_option maxRecDepth 100000 in
theorem ct_X2_truthOf (l : Launch) (D : va_G) (a : Nat → Nat) (cA cT : ClassId) (hI : WI a TC) (g : MG) (x0 : Int32) (x1 : Int32)  (r : Int32) (h : m_X2_truthOf g x0 x1 = some r) :
    CtI l D a cA cT TC yX2_truthOf (Cond.code yX2_truthOf cX2_truthOf 2 (some .int) :: lw_all) (rmm 0 0) [.int x0, .int x1] g r g := by
  refine CtI.of (by decide +kernel) (Nat.le_of_ble_eq_true rfl) ?_
  intro p e s m args below meth c Q ls hx hb hml hown hts hK hP hS hl hend
  have hl : lv_has ls 2 [(0, .int x0), (1, .int x1)] := hl
  unfold m_X2_truthOf at h
  refine lv_iload_n hx hb dX2_truthOf_0 rfl (lv_at hl 1 rfl) ?_
  refine lv_if_eq (tgt := 8) hx hb dX2_truthOf_1 (by decide) (fun hc => ?_) (fun hc => ?_)
  · have h := ite_t hc h
    refine lv_iload_n hx hb dX2_truthOf_8 rfl (lv_at hl 0 rfl) ?_
    refine lv_if_eq (tgt := 16) hx hb dX2_truthOf_9 (by decide) (fun hc => ?_) (fun hc => ?_)
    · have h := ite_t hc h
      refine lv_iconst (v := (0 : Int32)) hx hb dX2_truthOf_16 (by decide) ?_
      obtain rfl := Option.some.inj h
      exact hend _ _ _ _ dX2_truthOf_17 rfl hP hS
    · have h := ite_f hc h
      refine lv_iconst (v := (1 : Int32)) hx hb dX2_truthOf_12 (by decide) ?_
      refine lv_goto (tgt := 17) hx hb dX2_truthOf_13 (by decide) ?_
      obtain rfl := Option.some.inj h
      exact hend _ _ _ _ dX2_truthOf_17 rfl hP hS
  · have h := ite_f hc h
    refine lv_iconst (v := (2 : Int32)) hx hb dX2_truthOf_4 (by decide) ?_
    refine lv_goto (tgt := 17) hx hb dX2_truthOf_5 (by decide) ?_
    obtain rfl := Option.some.inj h
    exact hend _ _ _ _ dX2_truthOf_17 rfl hP hS
set_option maxHeartbeats 4000000 in
set_option maxRecDepth 100000 in
theorem ct_X2_testTruth (l : Launch) (D : va_G) (a : Nat → Nat) (cA cT : ClassId) (hI : WI a TC) (g : MG) (x0 : Int32) (x1 : Int32) (x2 : Int32)  (r : Int32) (h : m_X2_testTruth g x0 x1 x2 = some r) :
    CtI l D a cA cT TC yX2_testTruth (Cond.code yX2_testTruth cX2_testTruth 7 (some .int) :: lw_all) (rmm 1 21) [.ref (a 3), .int x0, .int x1, .int x2] g r g := by
  refine CtI.of (by decide +kernel) (Nat.le_of_ble_eq_true rfl) ?_
  intro p e s m args below meth c Q ls hx hb hml hown hts hK hP hS hl hend
  have hl : lv_has ls 7 [(0, .ref (a 3)), (1, .int x0), (2, .int x1), (3, .int x2)] := hl
  unfold m_X2_testTruth at h
  have J121 : ∀ (v4 : Int32) (w0 : Int32) (H : Heap) (locs : List Loc) (ls : Array Slot), WP D a cA cT TC g H → va_S (AA a TC) s.heap H locs → lv_has ls 7 [(2, .int x1), (4, .int v4)] → m_X2_testTruth_J121 x0 x1 x2 g v4 w0 = some r → W p l e (rmm 1 21) s m args below meth c H locs 0 0 Q (F0 m 121 ls [.int w0]) := by
    intro v4 w0 H locs ls hP hS hl h
    unfold m_X2_testTruth_J121 at h
    refine lv_iload_n hx hb dX2_testTruth_121 rfl (lv_at hl 0 rfl) ?_
    refine lv_iload hx hb dX2_testTruth_122 (lv_at hl 1 rfl) ?_
    refine lv_icmp_le (tgt := 131) hx hb dX2_testTruth_124 (by decide) (fun hc => ?_) (fun hc => ?_)
    · have h := ite_t hc h
      refine lv_iconst (v := (0 : Int32)) hx hb dX2_testTruth_131 (by decide) ?_
      obtain ⟨r132, hcal, h⟩ := bnd_s h
      refine x_SI (As := [.int w0, .int (0 : Int32)]) hx hb hml hown hts hK hP hS (ct_X2_truthOf l D a cA cT hI g w0 (0 : Int32) r132 hcal) (g_S q657 q658 q41 q659) yd_X2_truthOf ⟨Nat.le_of_ble_eq_true rfl, Nat.le_of_ble_eq_true rfl⟩ [] rfl (Nat.le_of_ble_eq_true rfl) hl.1 ⟨Nat.le_refl _, Nat.le_refl _⟩ dX2_testTruth_132 (fun H locs hP hS => ?_)
      obtain rfl := Option.some.inj h
      exact hend _ _ _ _ dX2_testTruth_135 rfl hP hS
    · have h := ite_f hc h
      refine lv_iconst (v := (1 : Int32)) hx hb dX2_testTruth_127 (by decide) ?_
      refine lv_goto (tgt := 132) hx hb dX2_testTruth_128 (by decide) ?_
      obtain ⟨r132, hcal, h⟩ := bnd_s h
      refine x_SI (As := [.int w0, .int (1 : Int32)]) hx hb hml hown hts hK hP hS (ct_X2_truthOf l D a cA cT hI g w0 (1 : Int32) r132 hcal) (g_S q657 q658 q41 q659) yd_X2_truthOf ⟨Nat.le_of_ble_eq_true rfl, Nat.le_of_ble_eq_true rfl⟩ [] rfl (Nat.le_of_ble_eq_true rfl) hl.1 ⟨Nat.le_refl _, Nat.le_refl _⟩ dX2_testTruth_132 (fun H locs hP hS => ?_)
      obtain rfl := Option.some.inj h
      exact hend _ _ _ _ dX2_testTruth_135 rfl hP hS
  have J95 : ∀ (v4 : Int32) (w0 : Int32) (H : Heap) (locs : List Loc) (ls : Array Slot), WP D a cA cT TC g H → va_S (AA a TC) s.heap H locs → lv_has ls 7 [(3, .int x2), (4, .int v4)] → m_X2_testTruth_J95 x0 x1 x2 g v4 w0 = some r → W p l e (rmm 1 21) s m args below meth c H locs 0 0 Q (F0 m 95 ls [.int w0]) := by
    intro v4 w0 H locs ls hP hS hl h
    unfold m_X2_testTruth_J95 at h
    refine lv_iload_n hx hb dX2_testTruth_95 rfl (lv_at hl 0 rfl) ?_
    refine lv_iload hx hb dX2_testTruth_96 (lv_at hl 1 rfl) ?_
    refine lv_icmp_ge (tgt := 105) hx hb dX2_testTruth_98 (by decide) (fun hc => ?_) (fun hc => ?_)
    · have h := ite_t hc h
      refine lv_iconst (v := (0 : Int32)) hx hb dX2_testTruth_105 (by decide) ?_
      obtain ⟨r106, hcal, h⟩ := bnd_s h
      refine x_SI (As := [.int w0, .int (0 : Int32)]) hx hb hml hown hts hK hP hS (ct_X2_truthOf l D a cA cT hI g w0 (0 : Int32) r106 hcal) (g_S q657 q658 q41 q659) yd_X2_truthOf ⟨Nat.le_of_ble_eq_true rfl, Nat.le_of_ble_eq_true rfl⟩ [] rfl (Nat.le_of_ble_eq_true rfl) hl.1 ⟨Nat.le_refl _, Nat.le_refl _⟩ dX2_testTruth_106 (fun H locs hP hS => ?_)
      obtain rfl := Option.some.inj h
      exact hend _ _ _ _ dX2_testTruth_109 rfl hP hS
    · have h := ite_f hc h
      refine lv_iconst (v := (1 : Int32)) hx hb dX2_testTruth_101 (by decide) ?_
      refine lv_goto (tgt := 106) hx hb dX2_testTruth_102 (by decide) ?_
      obtain ⟨r106, hcal, h⟩ := bnd_s h
      refine x_SI (As := [.int w0, .int (1 : Int32)]) hx hb hml hown hts hK hP hS (ct_X2_truthOf l D a cA cT hI g w0 (1 : Int32) r106 hcal) (g_S q657 q658 q41 q659) yd_X2_truthOf ⟨Nat.le_of_ble_eq_true rfl, Nat.le_of_ble_eq_true rfl⟩ [] rfl (Nat.le_of_ble_eq_true rfl) hl.1 ⟨Nat.le_refl _, Nat.le_refl _⟩ dX2_testTruth_106 (fun H locs hP hS => ?_)
      obtain rfl := Option.some.inj h
      exact hend _ _ _ _ dX2_testTruth_109 rfl hP hS
  have J46 : ∀ (v4 : Int32) (v5 : Int32) (w0 : Int32) (H : Heap) (locs : List Loc) (ls : Array Slot), WP D a cA cT TC g H → va_S (AA a TC) s.heap H locs → lv_has ls 7 [(0, .ref (a 3)), (1, .int x0), (2, .int x1), (3, .int x2), (4, .int v4), (5, .int v5)] → m_X2_testTruth_J46 x0 x1 x2 g v4 v5 w0 = some r → W p l e (rmm 1 21) s m args below meth c H locs 0 0 Q (F0 m 46 ls [.int w0]) := by
    intro v4 v5 w0 H locs ls hP hS hl h
    unfold m_X2_testTruth_J46 at h
    refine lv_istore (lv' := [(6, .int w0), (0, .ref (a 3)), (1, .int x0), (2, .int x1), (3, .int x2), (4, .int v4), (5, .int v5)]) hx hb dX2_testTruth_46 hl (by decide) rfl (fun ls hl => ?_)
    refine lv_aload_n hx hb dX2_testTruth_48 rfl (lv_at hl 1 rfl) ?_
    refine x_getr hx hb hts inX2 hown hK hP tF_3 (C := RX2) (F := TX2) (N := 14) rfl 9 (by decide) q147 rfl 10 rfl dX2_testTruth_49 ?_
    refine lv_iload_n hx hb dX2_testTruth_52 rfl (lv_at hl 2 rfl) ?_
    obtain ⟨r53, hcal, h⟩ := bnd_s h
    refine x_VI (As := [.int x0]) hx hb hml hown hts hK hP hS (ct_X0_at l D a cA cT hI g 11 60 x0 10 tF_10 tF_11 r53 hcal) tF_10 (C := RX0) (F := TX0) (N := 1) rfl (g_V q653 q229 q230 q38 q231) yd_X0_at ⟨Nat.le_of_ble_eq_true rfl, Nat.le_of_ble_eq_true rfl⟩ [] rfl (Nat.le_of_ble_eq_true rfl) hl.1 ⟨Nat.le_refl _, Nat.le_refl _⟩ dX2_testTruth_53 (fun H locs hP hS => ?_)
    by_cases hs60 : r53 = (60 : Int32)
    · have h := ite_t hs60 h
      refine lv_tableIn (off := 28) (tgt := 84) hx hb dX2_testTruth_56 (by rw [hs60]; decide) (by rw [hs60]; decide) (by rw [hs60]; rfl) (by decide) ?_
      refine lv_iload_n hx hb dX2_testTruth_84 rfl (lv_at hl 3 rfl) ?_
      refine lv_iload hx hb dX2_testTruth_85 (lv_at hl 5 rfl) ?_
      refine lv_icmp_ge (tgt := 94) hx hb dX2_testTruth_87 (by decide) (fun hc => ?_) (fun hc => ?_)
      · have h := ite_t hc h
        refine lv_iconst (v := (0 : Int32)) hx hb dX2_testTruth_94 (by decide) ?_
        exact J95 v4 (0 : Int32) _ _ _ hP hS (lv_sub hl [4, 5] rfl) h
      · have h := ite_f hc h
        refine lv_iconst (v := (1 : Int32)) hx hb dX2_testTruth_90 (by decide) ?_
        refine lv_goto (tgt := 95) hx hb dX2_testTruth_91 (by decide) ?_
        exact J95 v4 (1 : Int32) _ _ _ hP hS (lv_sub hl [4, 5] rfl) h
    have h := ite_f hs60 h
    by_cases hs61 : r53 = (61 : Int32)
    · have h := ite_t hs61 h
      refine lv_tableIn (off := 80) (tgt := 136) hx hb dX2_testTruth_56 (by rw [hs61]; decide) (by rw [hs61]; decide) (by rw [hs61]; rfl) (by decide) ?_
      refine lv_iload hx hb dX2_testTruth_136 (lv_at hl 6 rfl) ?_
      refine lv_if_ne (tgt := 145) hx hb dX2_testTruth_138 (by decide) (fun hc => ?_) (fun hc => ?_)
      · have h := ite_f hc h
        refine lv_iconst (v := (0 : Int32)) hx hb dX2_testTruth_145 (by decide) ?_
        refine lv_iload hx hb dX2_testTruth_146 (lv_at hl 0 rfl) ?_
        obtain ⟨r148, hcal, h⟩ := bnd_s h
        refine x_SI (As := [.int (0 : Int32), .int w0]) hx hb hml hown hts hK hP hS (ct_X2_truthOf l D a cA cT hI g (0 : Int32) w0 r148 hcal) (g_S q657 q658 q41 q659) yd_X2_truthOf ⟨Nat.le_of_ble_eq_true rfl, Nat.le_of_ble_eq_true rfl⟩ [] rfl (Nat.le_of_ble_eq_true rfl) hl.1 ⟨Nat.le_refl _, Nat.le_refl _⟩ dX2_testTruth_148 (fun H locs hP hS => ?_)
        obtain rfl := Option.some.inj h
        exact hend _ _ _ _ dX2_testTruth_151 rfl hP hS
      · have h := ite_t hc h
        refine lv_iconst (v := (1 : Int32)) hx hb dX2_testTruth_141 (by decide) ?_
        refine lv_goto (tgt := 146) hx hb dX2_testTruth_142 (by decide) ?_
        refine lv_iload hx hb dX2_testTruth_146 (lv_at hl 0 rfl) ?_
        obtain ⟨r148, hcal, h⟩ := bnd_s h
        refine x_SI (As := [.int (1 : Int32), .int w0]) hx hb hml hown hts hK hP hS (ct_X2_truthOf l D a cA cT hI g (1 : Int32) w0 r148 hcal) (g_S q657 q658 q41 q659) yd_X2_truthOf ⟨Nat.le_of_ble_eq_true rfl, Nat.le_of_ble_eq_true rfl⟩ [] rfl (Nat.le_of_ble_eq_true rfl) hl.1 ⟨Nat.le_refl _, Nat.le_refl _⟩ dX2_testTruth_148 (fun H locs hP hS => ?_)
        obtain rfl := Option.some.inj h
        exact hend _ _ _ _ dX2_testTruth_151 rfl hP hS
    have h := ite_f hs61 h
    by_cases hs62 : r53 = (62 : Int32)
    · have h := ite_t hs62 h
      refine lv_tableIn (off := 54) (tgt := 110) hx hb dX2_testTruth_56 (by rw [hs62]; decide) (by rw [hs62]; decide) (by rw [hs62]; rfl) (by decide) ?_
      refine lv_iload_n hx hb dX2_testTruth_110 rfl (lv_at hl 4 rfl) ?_
      refine lv_iload hx hb dX2_testTruth_111 (lv_at hl 5 rfl) ?_
      refine lv_icmp_le (tgt := 120) hx hb dX2_testTruth_113 (by decide) (fun hc => ?_) (fun hc => ?_)
      · have h := ite_t hc h
        refine lv_iconst (v := (0 : Int32)) hx hb dX2_testTruth_120 (by decide) ?_
        exact J121 v4 (0 : Int32) _ _ _ hP hS (lv_sub hl [3, 5] rfl) h
      · have h := ite_f hc h
        refine lv_iconst (v := (1 : Int32)) hx hb dX2_testTruth_116 (by decide) ?_
        refine lv_goto (tgt := 121) hx hb dX2_testTruth_117 (by decide) ?_
        exact J121 v4 (1 : Int32) _ _ _ hP hS (lv_sub hl [3, 5] rfl) h
    have h := ite_f hs62 h
    have hq : r53.toInt ≠ 60 ∧ r53.toInt ≠ 61 ∧ r53.toInt ≠ 62 := ⟨sw_ne hs60 rfl, sw_ne hs61 rfl, sw_ne hs62 rfl⟩
    refine lv_tableOut (tgt := 152) hx hb dX2_testTruth_56 (by omega) (by decide) ?_
    refine lv_iload hx hb dX2_testTruth_152 (lv_at hl 0 rfl) ?_
    refine lv_if_ne (tgt := 161) hx hb dX2_testTruth_154 (by decide) (fun hc => ?_) (fun hc => ?_)
    · have h := ite_f hc h
      refine lv_iconst (v := (0 : Int32)) hx hb dX2_testTruth_161 (by decide) ?_
      refine lv_iload hx hb dX2_testTruth_162 (lv_at hl 6 rfl) ?_
      obtain ⟨r164, hcal, h⟩ := bnd_s h
      refine x_SI (As := [.int (0 : Int32), .int v5]) hx hb hml hown hts hK hP hS (ct_X2_truthOf l D a cA cT hI g (0 : Int32) v5 r164 hcal) (g_S q657 q658 q41 q659) yd_X2_truthOf ⟨Nat.le_of_ble_eq_true rfl, Nat.le_of_ble_eq_true rfl⟩ [] rfl (Nat.le_of_ble_eq_true rfl) hl.1 ⟨Nat.le_refl _, Nat.le_refl _⟩ dX2_testTruth_164 (fun H locs hP hS => ?_)
      obtain rfl := Option.some.inj h
      exact hend _ _ _ _ dX2_testTruth_167 rfl hP hS
    · have h := ite_t hc h
      refine lv_iconst (v := (1 : Int32)) hx hb dX2_testTruth_157 (by decide) ?_
      refine lv_goto (tgt := 162) hx hb dX2_testTruth_158 (by decide) ?_
      refine lv_iload hx hb dX2_testTruth_162 (lv_at hl 6 rfl) ?_
      obtain ⟨r164, hcal, h⟩ := bnd_s h
      refine x_SI (As := [.int (1 : Int32), .int v5]) hx hb hml hown hts hK hP hS (ct_X2_truthOf l D a cA cT hI g (1 : Int32) v5 r164 hcal) (g_S q657 q658 q41 q659) yd_X2_truthOf ⟨Nat.le_of_ble_eq_true rfl, Nat.le_of_ble_eq_true rfl⟩ [] rfl (Nat.le_of_ble_eq_true rfl) hl.1 ⟨Nat.le_refl _, Nat.le_refl _⟩ dX2_testTruth_164 (fun H locs hP hS => ?_)
      obtain rfl := Option.some.inj h
      exact hend _ _ _ _ dX2_testTruth_167 rfl hP hS
  have J27 : ∀ (v4 : Int32) (w0 : Int32) (H : Heap) (locs : List Loc) (ls : Array Slot), WP D a cA cT TC g H → va_S (AA a TC) s.heap H locs → lv_has ls 7 [(0, .ref (a 3)), (1, .int x0), (2, .int x1), (3, .int x2), (4, .int v4)] → m_X2_testTruth_J27 x0 x1 x2 g v4 w0 = some r → W p l e (rmm 1 21) s m args below meth c H locs 0 0 Q (F0 m 27 ls [.int w0]) := by
    intro v4 w0 H locs ls hP hS hl h
    unfold m_X2_testTruth_J27 at h
    refine lv_istore (lv' := [(5, .int w0), (0, .ref (a 3)), (1, .int x0), (2, .int x1), (3, .int x2), (4, .int v4)]) hx hb dX2_testTruth_27 hl (by decide) rfl (fun ls hl => ?_)
    refine lv_iload hx hb dX2_testTruth_29 (lv_at hl 5 rfl) ?_
    refine lv_iload_n hx hb dX2_testTruth_31 rfl (lv_at hl 3 rfl) ?_
    refine lv_icmp_ne (tgt := 45) hx hb dX2_testTruth_32 (by decide) (fun hc => ?_) (fun hc => ?_)
    · have h := ite_f hc h
      refine lv_iconst (v := (0 : Int32)) hx hb dX2_testTruth_45 (by decide) ?_
      exact J46 v4 w0 (0 : Int32) _ _ _ hP hS (lv_sub hl [1, 2, 3, 4, 5, 0] rfl) h
    · have h := ite_t hc h
      refine lv_iload hx hb dX2_testTruth_35 (lv_at hl 5 rfl) ?_
      refine lv_iload_n hx hb dX2_testTruth_37 rfl (lv_at hl 4 rfl) ?_
      refine lv_icmp_ne (tgt := 45) hx hb dX2_testTruth_38 (by decide) (fun hc => ?_) (fun hc => ?_)
      · have h := ite_f hc h
        refine lv_iconst (v := (0 : Int32)) hx hb dX2_testTruth_45 (by decide) ?_
        exact J46 v4 w0 (0 : Int32) _ _ _ hP hS (lv_sub hl [1, 2, 3, 4, 5, 0] rfl) h
      · have h := ite_t hc h
        refine lv_iconst (v := (1 : Int32)) hx hb dX2_testTruth_41 (by decide) ?_
        refine lv_goto (tgt := 46) hx hb dX2_testTruth_42 (by decide) ?_
        exact J46 v4 w0 (1 : Int32) _ _ _ hP hS (lv_sub hl [1, 2, 3, 4, 5, 0] rfl) h
  refine lv_aload_n hx hb dX2_testTruth_0 rfl (lv_at hl 0 rfl) ?_
  refine x_getr hx hb hts inX2 hown hK hP tF_3 (C := RX2) (F := TX2) (N := 14) rfl 10 (by decide) q148 rfl 12 rfl dX2_testTruth_1 ?_
  refine lv_iload_n hx hb dX2_testTruth_4 rfl (lv_at hl 1 rfl) ?_
  obtain ⟨r5, hcal, h⟩ := bnd_s h
  refine x_VI (As := [.int x0]) hx hb hml hown hts hK hP hS (ct_X0_at l D a cA cT hI g 13 60 x0 12 tF_12 tF_13 r5 hcal) tF_12 (C := RX0) (F := TX0) (N := 1) rfl (g_V q653 q229 q230 q38 q231) yd_X0_at ⟨Nat.le_of_ble_eq_true rfl, Nat.le_of_ble_eq_true rfl⟩ [] rfl (Nat.le_of_ble_eq_true rfl) hl.1 ⟨Nat.le_refl _, Nat.le_refl _⟩ dX2_testTruth_5 (fun H locs hP hS => ?_)
  refine lv_istore (lv' := [(4, .int r5), (0, .ref (a 3)), (1, .int x0), (2, .int x1), (3, .int x2)]) hx hb dX2_testTruth_8 hl (by decide) rfl (fun ls hl => ?_)
  refine lv_iload hx hb dX2_testTruth_10 (lv_at hl 0 rfl) ?_
  refine lv_iload_n hx hb dX2_testTruth_12 rfl (lv_at hl 3 rfl) ?_
  refine lv_icmp_lt (tgt := 22) hx hb dX2_testTruth_13 (by decide) (fun hc => ?_) (fun hc => ?_)
  · have h := ite_t hc h
    refine lv_iconst (v := (1 : Int32)) hx hb dX2_testTruth_22 (by decide) ?_
    refine lv_goto (tgt := 27) hx hb dX2_testTruth_23 (by decide) ?_
    exact J27 r5 (1 : Int32) _ _ _ hP hS (lv_sub hl [1, 2, 3, 4, 0] rfl) h
  · have h := ite_f hc h
    refine lv_iload hx hb dX2_testTruth_16 (lv_at hl 0 rfl) ?_
    refine lv_iload_n hx hb dX2_testTruth_18 rfl (lv_at hl 4 rfl) ?_
    refine lv_icmp_le (tgt := 26) hx hb dX2_testTruth_19 (by decide) (fun hc => ?_) (fun hc => ?_)
    · have h := ite_t hc h
      refine lv_iconst (v := (0 : Int32)) hx hb dX2_testTruth_26 (by decide) ?_
      exact J27 r5 (0 : Int32) _ _ _ hP hS (lv_sub hl [1, 2, 3, 4, 0] rfl) h
    · have h := ite_f hc h
      refine lv_iconst (v := (1 : Int32)) hx hb dX2_testTruth_22 (by decide) ?_
      refine lv_goto (tgt := 27) hx hb dX2_testTruth_23 (by decide) ?_
      exact J27 r5 (1 : Int32) _ _ _ hP hS (lv_sub hl [1, 2, 3, 4, 0] rfl) h
