/-! spared: a share as a double, of a run that may draw -/
/-- what the double is: 0: -1.0, 1: 0.0, 2: one less a quotient of two ints -/
def DR (c x z : Int32) (r : UInt64) : Prop := (c = 0 ∧ r = 13830554455654793216) ∨ (c = 1 ∧ r = FP.dconst0) ∨ (c = 2 ∧ ∃ q : UInt64, alike64 q (FP.ddiv (FP.i2d x) (FP.i2d z)) = true ∧ alike64 r (FP.dsub FP.dconst1 q) = true)
def CtD (l : Launch) (D : va_G) (a : Nat → Nat) (cA cT : ClassId) (T : List LE) (y : MethodName) (ws : List Cond) (rm : Room) (As : List Value) (g : MG) (r : Int32 × Int32 × Int32) (g' : MG) : Prop :=
  MetD lw_cs l y ws rm (va_Pc As (Wd D a cA cT T g)) (va_Qd (fun (x : UInt64) (_ : Unit) => DR r.1 r.2.1 r.2.2 x) (fun _ => Wd D a cA cT T g') (AA a T)) 0 0 (AA a T)
theorem CtD.of {l : Launch} {D : va_G} {a : Nat → Nat} {cA cT : ClassId} {T : List LE} {g g' : MG} {y : MethodName} {cc : ByteArray} {maxL f n : Nat} {As : List Value} {r : Int32 × Int32 × Int32} (hy : plainName y.cls = true) (hn : (lg_sl As).length ≤ maxL)
    (body : ∀ (p : Program) (e : Env) (s0 : State) (m : MethodId) (args : Array Value) (below : List Frame) (meth : Method) (c : Code) (Q : State → Prop) (ls : Array Slot), s0.drawn.sameBut s0.drawn lw_cs → p.tables.exec = Jvm.exec → c.code = cc → c.maxLocals = maxL → (s0.setDrawn s0.drawn).vm.findClass y.cls = some m.cls → (∀ w ∈ lw_all, w.before args (s0.setDrawn s0.drawn) = true) → va_K D vwCl (TY cA cT) (s0.setDrawn s0.drawn) → WP D a cA cT T g s0.heap → va_S (AA a T) s0.heap s0.heap [] → lv_has ls maxL (lv_args 0 As) →
      (∀ (d1 : Drawn), s0.drawn.sameBut d1 lw_cs → ∀ (H : Heap) (locs : List Loc) (pc : Nat) (ls : Array Slot) (x : UInt64), decode cc pc = .ok (.dreturn, 1) → DR r.1 r.2.1 r.2.2 x → WP D a cA cT T g' H → va_S (AA a T) s0.heap H locs → W p l e (rmm f n) (s0.setDrawn d1) m args below meth c H locs 0 0 Q (F0 m pc ls [.double x])) →
      W p l e (rmm f n) (s0.setDrawn s0.drawn) m args below meth c s0.heap [] 0 0 Q (F0 m 0 ls [])) :
    CtD l D a cA cT T y (Cond.code y cc maxL (some .double) :: lw_all) (rmm f n) As g r g' := by
  refine MetD.ofW (cc := cc) (maxL := maxL) (ret := some .double) hy rfl ?_
  intro p e s m args below meth c s₁ B hml hv hd0
  obtain ⟨rfl, hP, hK⟩ := hv
  have hr := B.returns
  have hlocks := B.notSynchronized
  have hl := lv_entry As (n := maxL) hn
  rw [lg_entry_eq]
  have hown : s.vm.findClass y.cls = some m.cls := findClass_of_methodNamed B.named
  have hts : ∀ w ∈ lw_all, w.before As.toArray s = true := fun w hw => atoms_spec B.pre w (List.mem_cons_of_mem _ hw)
  refine body p e s m As.toArray below meth c _ _ hd0 B.exec B.bytes hml hown (dr_words hts _) hK hP va_S.rf hl ?_
  intro d1 hd1 H locs pc ls x hdg hdr hP1 hS1
  refine W.endD hd1 ?_
  exact W.dret B.exec B.bytes hr (fun t ht hW => ⟨⟨x, (), rfl, hdr, by rw [← ht] at hP1; exact ⟨hP1, va_K.moved hW.alike hK⟩⟩, hS1.F ht⟩) hS1.2.2 hdg

theorem qd719 : (Cond.constantDouble RX6 277 (13830554455654793216 : UInt64)) ∈ lw_all := List.mem_of_getElem? (i := 719) (by decide +kernel)
def m_X6_spared (g : MG)  : Option ((Int32 × Int32 × Int32) × MG) :=
  bnd (m_X2_isFaulty g) fun (r4 : Int32) =>
 if r4 = 0 then
 bnd (m_X3_amountInTable g 0) fun (r21 : Int32) =>
 if 0 < r21 then
 bnd (m_X6_markLooked g (g.1 (20 + 15 * 0) 3)) fun (g39 : MG) =>
 bnd (m_X6_lookedRows g39) fun (r44 : Int32) =>
 some ((2, r44, r21), g39)
 else
 some ((1, 0, 0), g)
 else
 some ((0, 0, 0), g)
set_option maxHeartbeats 4000000 in
set_option maxRecDepth 100000 in
theorem ct_X6_spared (l : Launch) (D : va_G) (a : Nat → Nat) (cA cT : ClassId) (hI : WI a TC) (g : MG)   (r : Int32 × Int32 × Int32) (g' : MG) (h : m_X6_spared g = some (r, g')) :
    CtD l D a cA cT TC yX6_spared (Cond.code yX6_spared cX6_spared 2 (some .double) :: lw_all) (rmm 7 168) [.ref (a 0)] g r g' := by
  refine CtD.of (by decide +kernel) (Nat.le_of_ble_eq_true rfl) ?_
  intro p e s0 m args below meth c Q ls hd0 hx hb hml hown hts hK hP hS hl hend
  have hl : lv_has ls 2 [(0, .ref (a 0))] := hl
  unfold m_X6_spared at h
  refine lv_aload_n hx hb dX6_spared_0 rfl (lv_at hl 0 rfl) ?_
  refine x_getr hx hb hts inX6 hown hK hP tF_0 (C := RX6) (F := TX6) (N := 5) rfl 2 (by decide) q170 rfl 3 rfl dX6_spared_1 ?_
  obtain ⟨r4, hcal, h⟩ := bnd_s h
  refine x_VI (As := []) hx hb hml hown hts hK hP hS (ct_X2_isFaulty l D a cA cT hI g r4 hcal) tF_3 (C := RX2) (F := TX2) (N := 14) rfl (g_V q635 q636 q637 q41 q638) yd_X2_isFaulty ⟨Nat.le_of_ble_eq_true rfl, Nat.le_of_ble_eq_true rfl⟩ [] rfl (Nat.le_of_ble_eq_true rfl) hl.1 ⟨Nat.le_refl _, Nat.le_refl _⟩ dX6_spared_4 (fun H locs hP hS => ?_)
  refine lv_if_eq (tgt := 14) hx hb dX6_spared_7 (by decide) (fun hc => ?_) (fun hc => ?_)
  · have h := ite_t hc h
    refine lv_aload_n hx hb dX6_spared_14 rfl (lv_at hl 0 rfl) ?_
    refine x_getr hx hb hts inX6 hown hK hP tF_0 (C := RX6) (F := TX6) (N := 5) rfl 0 (by decide) q168 rfl (20 + 15 * 0) rfl dX6_spared_15 ?_
    refine x_getr hx hb hts inX5 hown hK hP (tT_20 hz0) (C := RX5) (F := TX5) (N := 5) rfl 0 (by decide) q101 rfl (21 + 15 * 0) rfl dX6_spared_18 ?_
    obtain ⟨r21, hcal, h⟩ := bnd_s h
    refine x_VI (As := []) hx hb hml hown hts hK hP hS (ct_X3_amountInTable l D a cA cT hI g 0 hz0 r21 hcal) (tT_21 hz0) (C := RX3) (F := TX3) (N := 4) rfl (g_V q216 q217 q218 q37 q219) yd_X3_amountInTable ⟨Nat.le_of_ble_eq_true rfl, Nat.le_of_ble_eq_true rfl⟩ [] rfl (Nat.le_of_ble_eq_true rfl) hl.1 ⟨Nat.le_refl _, Nat.le_refl _⟩ dX6_spared_21 (fun H locs hP hS => ?_)
    refine lv_istore_n (lv' := [(1, .int r21), (0, .ref (a 0))]) hx hb dX6_spared_24 rfl hl (by decide) rfl (fun ls hl => ?_)
    refine lv_iload_n hx hb dX6_spared_25 rfl (lv_at hl 0 rfl) ?_
    refine lv_if_gt (tgt := 31) hx hb dX6_spared_26 (by decide) (fun hc => ?_) (fun hc => ?_)
    · have h := ite_t hc h
      refine lv_aload_n hx hb dX6_spared_31 rfl (lv_at hl 1 rfl) ?_
      refine lv_aload_n hx hb dX6_spared_32 rfl (lv_at hl 1 rfl) ?_
      refine x_getr hx hb hts inX6 hown hK hP tF_0 (C := RX6) (F := TX6) (N := 5) rfl 0 (by decide) q168 rfl (20 + 15 * 0) rfl dX6_spared_33 ?_
      refine x_get hx hb hts inX5 hown hK hP (tT_20 hz0) (C := RX5) (F := TX5) (N := 5) rfl 3 (by decide) q107 rfl rfl dX6_spared_36 ?_
      obtain ⟨g39, hcal, h⟩ := bnd_s h
      refine x_VV (As := [.int (g.1 (20 + 15 * 0) 3)]) hx hb hml hown hts hK hP hS (ct_X6_markLooked l D a cA cT hI g (g.1 (20 + 15 * 0) 3) g39 hcal) tF_0 (C := RX6) (F := TX6) (N := 5) rfl (g_V q672 q673 q23 q35 q674) yd_X6_markLooked ⟨Nat.le_of_ble_eq_true rfl, Nat.le_of_ble_eq_true rfl⟩ [] rfl (Nat.le_of_ble_eq_true rfl) hl.1 ⟨Nat.le_refl _, Nat.le_refl _⟩ dX6_spared_39 (fun H locs hP hS => ?_)
      refine lv_dconst1 hx hb dX6_spared_42 ?_
      refine lv_aload_n hx hb dX6_spared_43 rfl (lv_at hl 1 rfl) ?_
      obtain ⟨r44, hcal, h⟩ := bnd_s h
      refine x_VI (As := []) hx hb hml hown hts hK hP hS (ct_X6_lookedRows l D a cA cT hI g39 r44 hcal) tF_0 (C := RX6) (F := TX6) (N := 5) rfl (g_V q704 q705 q32 q35 q706) yd_X6_lookedRows ⟨Nat.le_of_ble_eq_true rfl, Nat.le_of_ble_eq_true rfl⟩ [.double FP.dconst1] rfl (Nat.le_of_ble_eq_true rfl) hl.1 ⟨Nat.le_refl _, Nat.le_refl _⟩ dX6_spared_44 (fun H locs hP hS => ?_)
      refine lv_i2d hx hb dX6_spared_47 ?_
      refine lv_iload_n hx hb dX6_spared_48 rfl (lv_at hl 0 rfl) ?_
      refine lv_i2d hx hb dX6_spared_49 ?_
      refine lv_ddiv_any hd0 lw_bits hx hb dX6_spared_50 (fun rq d1 hal1 hd0 => ?_)
      refine lv_dsub_any hd0 lw_bits hx hb dX6_spared_51 (fun rr d1 hal2 hd0 => ?_)
      obtain ⟨rfl, rfl⟩ := Prod.mk.inj (Option.some.inj h)
      exact hend _ hd0 _ _ _ _ _ dX6_spared_52 (Or.inr (Or.inr ⟨rfl, rq, hal1, hal2⟩)) hP hS
    · have h := ite_f hc h
      refine lv_dconst0 hx hb dX6_spared_29 ?_
      obtain ⟨rfl, rfl⟩ := Prod.mk.inj (Option.some.inj h)
      exact hend _ hd0 _ _ _ _ _ dX6_spared_30 (Or.inr (Or.inl ⟨rfl, rfl⟩)) hP hS
  · have h := ite_f hc h
    refine lv_ldc2d hx hb hown (hts _ qd719) dX6_spared_10 ?_
    obtain ⟨rfl, rfl⟩ := Prod.mk.inj (Option.some.inj h)
    exact hend _ hd0 _ _ _ _ _ dX6_spared_13 (Or.inl ⟨rfl, rfl⟩) hP hS
theorem yd_X6_spared : yX6_spared.cls = RX6 ∧ yX6_spared.cls ≠ "java/lang/invoke/MethodHandle" ∧ yX6_spared.cls ≠ "java/lang/invoke/VarHandle" ∧ (parseMethodDescriptor yX6_spared.desc).map (fun d => d.parameters.length) = some 0 := by decide +kernel
