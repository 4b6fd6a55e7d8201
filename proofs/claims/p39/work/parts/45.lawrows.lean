/-! THE LAW'S OWN ROWS: over the class's world and rows of 64 ints beside it -/
def ar (cA : ClassId) (q : Nat) (f : Nat → Int32) : Nat × va_E := (q, .inl (cA, 64, .inl f))
def An2 (a : Nat → Nat) (sz : Nat) : Nat → Prop := fun q => AA a TC q ∨ sz ≤ q
abbrev rma (f n : Nat) : Room := { frames := f, cells := 1, slots := 64, locals := n }
theorem rm_c {k : Nat} (h : k ≤ 600000) : k ≤ room_1.cells := h
theorem rm_s {k : Nat} (h : k ≤ 7302250) : k ≤ room_1.slots := h
theorem ap_0 {a : Nat → Nat} : ∀ (k : Nat) (z : Nat × va_E), ([] : va_W)[k]? = some z → ¬ AA a TC z.1 := fun k z h => by simp at h
theorem ap_c {a : Nat → Nat} {cA : ClassId} {q : Nat} {f : Nat → Int32} {ws : va_W} (hq : ¬ AA a TC q) (h : ∀ (k : Nat) (z : Nat × va_E), ws[k]? = some z → ¬ AA a TC z.1) : ∀ (k : Nat) (z : Nat × va_E), (ar cA q f :: ws)[k]? = some z → ¬ AA a TC z.1
  | 0, z, e => by
    have e : ar cA q f = z := by simpa using e
    subst e; exact hq
  | k + 1, z, e => h k z (by simpa using e)
theorem va_P_l {D : va_G} {w1 w2 : va_W} {H : Heap} (h : va_P D vwCl (w1 ++ w2) H) : va_P D vwCl w1 H := fun k z hz => h k z (by
  rw [List.getElem?_append_left (List.getElem?_eq_some_iff.mp hz).1]; exact hz)
theorem va_P_r {D : va_G} {w1 w2 : va_W} {H : Heap} (h : va_P D vwCl (w1 ++ w2) H) : va_P D vwCl w2 H := fun k z hz => h (w1.length + k) z (by
  rw [List.getElem?_append_right (Nat.le_add_right _ _), Nat.add_sub_cancel_left]; exact hz)
theorem va_D_l {A : Nat → Prop} {w1 w2 : va_W} (h : va_D A (w1 ++ w2)) : va_D A w1 := by
  have hk : ∀ (k : Nat) (z : Nat × va_E), w1[k]? = some z → (w1 ++ w2)[k]? = some z := fun k z hz => by
    rw [List.getElem?_append_left (List.getElem?_eq_some_iff.mp hz).1]; exact hz
  exact ⟨fun i j u v hu hv e => h.1 i j u v (hk i u hu) (hk j v hv) e, fun k z hz => h.2 k z (hk k z hz)⟩
theorem va_D_1 {A : Nat → Prop} {z : Nat × va_E} (h : A z.1) : va_D A [z] := by
  refine ⟨fun i j u v hu hv _ => ?_, fun k u hu => ?_⟩
  · have h1 := (List.getElem?_eq_some_iff.mp hu).1
    have h2 := (List.getElem?_eq_some_iff.mp hv).1
    simp only [List.length_cons, List.length_nil] at h1 h2
    omega
  · have h1 := (List.getElem?_eq_some_iff.mp hu).1
    simp only [List.length_cons, List.length_nil] at h1
    have h0 : k = 0 := by omega
    subst h0
    have e : z = u := by simpa using hu
    subst e; exact h
theorem wi_of {A : Nat → Prop} {a : Nat → Nat} {cA cT : ClassId} {T : List LE} {g : MG} (h : va_D A (wl a cA cT g 0 T)) : WI a T := fun i j hi hj e =>
  h.1 i j _ _ (wl_get0 (List.getElem?_eq_getElem hi)) (wl_get0 (List.getElem?_eq_getElem hj)) e
theorem aa_of {A : Nat → Prop} {a : Nat → Nat} {cA cT : ClassId} {T : List LE} {g : MG} (h : va_D A (wl a cA cT g 0 T)) : ∀ q, AA a T q → A q := fun q hq => by
  obtain ⟨k, hk, rfl⟩ := hq
  exact h.2 k _ (wl_get0 (List.getElem?_eq_getElem hk))
theorem aa_lt {D : va_G} {a : Nat → Nat} {cA cT : ClassId} {T : List LE} {g : MG} {H : Heap} (h : WP D a cA cT T g H) {q : Nat} (hq : AA a T q) : q < H.size := by
  obtain ⟨k, hk, rfl⟩ := hq
  have := (h k _ (wl_get0 (List.getElem?_eq_getElem hk))).lt
  exact this
/-- contracts: a method that makes one row of ints and answers it; one that makes one, may draw, and answers an int; one that compares two rows; one that reads the script -/
def CtA (l : Launch) (D : va_G) (a : Nat → Nat) (cA cT : ClassId) (y : MethodName) (ws : List Cond) (f n : Nat) (As : List Value) (g : MG) (r : Nat → Int32) : Prop :=
  ∀ sz : Nat, Met l y ws (rma f n) (va_Pc As (fun U => U.heap.size = sz ∧ Wd D a cA cT TC g U)) (va_Qr (fun (_ : Unit) => True) (fun _ q t => WP D a cA cT TC g t.heap ∧ va_P D vwCl [ar cA q r] t.heap ∧ sz ≤ q) (An2 a sz)) 1 64 (An2 a sz)
def CtU (l : Launch) (D : va_G) (a : Nat → Nat) (cA cT : ClassId) (y : MethodName) (ws : List Cond) (f n : Nat) (As : List Value) (g : MG) (r : Int32) (g' : MG) : Prop :=
  ∀ sz : Nat, MetD lw_cs l y ws (rma f n) (va_Pc As (fun U => U.heap.size = sz ∧ Wd D a cA cT TC g U)) (va_Qi (fun (x : Int32) (_ : Unit) => x = r) (fun _ t => WP D a cA cT TC g' t.heap) (An2 a sz)) 1 64 (An2 a sz)
def CtS (l : Launch) (D : va_G) (cA cT : ClassId) (y : MethodName) (ws : List Cond) (f n : Nat) (q1 q2 : Nat) (f1 f2 : Nat → Int32) (r : Int32) : Prop :=
  Met l y ws (rmm f n) (va_Pc [.ref q1, .ref q2] (fun U => va_P D vwCl [ar cA q1 f1, ar cA q2 f2] U.heap ∧ va_K D vwCl (TY cA cT) U)) (va_Qi (fun (x : Int32) (_ : Unit) => x = r) (fun _ _ => True) (fun _ => False)) 0 0 (fun _ => False)
def CtX (l : Launch) (y : MethodName) (ws : List Cond) (f n : Nat) (b L : Nat) (xs : Nat → Int32) (k r : Int32) : Prop :=
  Met l y ws (rmm f n) (va_Pc [.ref b, .int k] (fun U => b < U.heap.size ∧ va_X b L xs U U.heap)) (va_Qi (fun (x : Int32) (_ : Unit) => x = r) (fun _ _ => True) (fun _ => False)) 0 0 (fun _ => False)
section
variable {p : Program} {l : Launch} {e : Env} {R : Room} {s : State} {m : MethodId} {args : Array Value} {below : List Frame} {meth : Method} {c : Code} {H : Heap} {locs : List Loc} {cells slots : Nat} {Q : State → Prop}
variable {cc : ByteArray} {pc : Nat} {ls : Array Slot} {rest : List Value} {H0 : Heap}
variable {D : va_G} {a : Nat → Nat} {cA cT : ClassId} {T : List LE} {g g' : MG} {A : Nat → Prop} {ws2 : va_W}
theorem y_VI (hx : p.tables.exec = Jvm.exec) (hb : c.code = cc) {nL : Nat} (hml : c.maxLocals = nL) {own C : String} (hown : s.vm.findClass own = some m.cls) (hts : ∀ w ∈ lw_all, w.before args s = true) (hK : va_K D vwCl (TY cA cT) s) (hP : WP D a cA cT T g H) (hS : va_S A H0 H locs) (hAA : ∀ q, AA a T q → A q) (hP2 : va_P D vwCl ws2 H) (hap : ∀ (k : Nat) (z : Nat × va_E), ws2[k]? = some z → ¬ AA a T z.1) {y : MethodName} {bytes : ByteArray} {maxL f n index : Nat} {ret : Option FieldType} {As : List Value} {r : Int32} {k ci N : Nat} {F : u_T} {fs : List (Option Nat)}
    (hM : CtI l D a cA cT T y (Cond.code y bytes maxL ret :: lw_all) (rmm f n) (.ref (a k) :: As) g r g') (hT : T[k]? = some (.inl (ci, fs))) (hc : vwCl[ci]? = some (C, F, N)) (hg : GoodIn lw_all (wsV own index C y (Cond.code y bytes maxL ret :: lw_all)))
    (hd : y.cls = C ∧ y.cls ≠ "java/lang/invoke/MethodHandle" ∧ y.cls ≠ "java/lang/invoke/VarHandle" ∧ (parseMethodDescriptor y.desc).map (fun d => d.parameters.length) = some As.length) (hR : f + 1 ≤ R.frames ∧ 8 + (maxL + 11) + n ≤ R.locals) {st : List Value} (rest : List Value) (hst : st = As.reverse ++ .ref (a k) :: rest) (hrest : (rest.map fun v => v.category).sum ≤ 8) (hsz : ls.size = nL) (hf : cells ≤ R.cells ∧ slots ≤ R.slots) (hdg : decode cc pc = .ok (.invokevirtual index, 3))
    (kk : ∀ (H1 : Heap) (locs1 : List Loc), WP D a cA cT T g' H1 → va_P D vwCl ws2 H1 → va_S A H0 H1 locs1 → W p l e R s m args below meth c H1 locs1 cells slots Q (F0 m (pc + 3) ls (.int r :: rest))) : W p l e R s m args below meth c H locs cells slots Q (F0 m pc ls st) := by
  subst hst
  refine va_calli (va_runV (As := As) (rest := rest) ⟨hx, hb, hml, hown, hts⟩ hM (cwV As.length hts hg rfl rfl rfl hd hR) ⟨wd_blind, va_recv hK hP hc (wl_get0 hT), fun U hU hW => ⟨rfl, by rw [hU]; exact hP, va_K.moved hW.alike hK⟩⟩ rfl rfl hsz rfl (lv_room hrest) hdg hf) hS (fun q _ h => hAA q h) hAA (fun x u t H1 locs1 ht hvm hw hB hz1 hk1 hS1 => ?_)
  subst hw
  obtain ⟨hP1, -⟩ := hB
  rw [ht] at hP1
  exact kk H1 locs1 hP1 (hP2.kept (fun k z hz => hk1 z.1 ((hP2 k z hz).lt) (hap k z hz))) hS1
theorem y_VD {d0 : Drawn} (hd0 : s.drawn.sameBut d0 lw_cs) (hx : p.tables.exec = Jvm.exec) (hb : c.code = cc) {nL : Nat} (hml : c.maxLocals = nL) {own C : String} (hown : s.vm.findClass own = some m.cls) (hts : ∀ w ∈ lw_all, w.before args s = true) (hK : va_K D vwCl (TY cA cT) s) (hP : WP D a cA cT T g H) (hS : va_S A H0 H locs) (hAA : ∀ q, AA a T q → A q) (hP2 : va_P D vwCl ws2 H) (hap : ∀ (k : Nat) (z : Nat × va_E), ws2[k]? = some z → ¬ AA a T z.1) {y : MethodName} {bytes : ByteArray} {maxL f n index : Nat} {ret : Option FieldType} {As : List Value} {r : Int32 × Int32 × Int32} {k ci N : Nat} {F : u_T} {fs : List (Option Nat)}
    (hM : CtD l D a cA cT T y (Cond.code y bytes maxL ret :: lw_all) (rmm f n) (.ref (a k) :: As) g r g') (hT : T[k]? = some (.inl (ci, fs))) (hc : vwCl[ci]? = some (C, F, N)) (hg : GoodIn lw_all (wsV own index C y (Cond.code y bytes maxL ret :: lw_all)))
    (hd : y.cls = C ∧ y.cls ≠ "java/lang/invoke/MethodHandle" ∧ y.cls ≠ "java/lang/invoke/VarHandle" ∧ (parseMethodDescriptor y.desc).map (fun d => d.parameters.length) = some As.length) (hR : f + 1 ≤ R.frames ∧ 8 + (maxL + 11) + n ≤ R.locals) {st : List Value} (rest : List Value) (hst : st = As.reverse ++ .ref (a k) :: rest) (hrest : (rest.map fun v => v.category).sum ≤ 8) (hsz : ls.size = nL) (hf : cells ≤ R.cells ∧ slots ≤ R.slots) (hdg : decode cc pc = .ok (.invokevirtual index, 3))
    (kk : ∀ (x : UInt64) (d1 : Drawn) (H1 : Heap) (locs1 : List Loc), DR r.1 r.2.1 r.2.2 x → s.drawn.sameBut d1 lw_cs → WP D a cA cT T g' H1 → va_P D vwCl ws2 H1 → va_S A H0 H1 locs1 → W p l e R (s.setDrawn d1) m args below meth c H1 locs1 cells slots Q (F0 m (pc + 3) ls (.double x :: rest))) : W p l e R (s.setDrawn d0) m args below meth c H locs cells slots Q (F0 m pc ls st) := by
  subst hst
  have hts' := dr_words hts d0
  have hK' : va_K D vwCl (TY cA cT) (s.setDrawn d0) := hK
  refine va_calldD hd0 (va_runV_D (As := As) (rest := rest) ⟨hx, hb, hml, hown, hts'⟩ hM (cwV As.length hts' hg rfl rfl rfl hd hR) ⟨wd_blind, va_recv hK' hP hc (wl_get0 hT), fun U hU hW => ⟨rfl, by rw [hU]; exact hP, va_K.moved hW.alike hK'⟩⟩ rfl rfl hsz rfl (lv_room hrest) hdg hf) hS (fun q _ h => hAA q h) hAA (fun x u t H1 locs1 ht hvm hw hB hz1 hk1 hS1 d1 hd1 => ?_)
  obtain ⟨hP1, -⟩ := hB
  rw [ht] at hP1
  exact kk x d1 H1 locs1 hw hd1 hP1 (hP2.kept (fun k z hz => hk1 z.1 ((hP2 k z hz).lt) (hap k z hz))) hS1
theorem y_SI (hx : p.tables.exec = Jvm.exec) (hb : c.code = cc) {nL : Nat} (hml : c.maxLocals = nL) {own : String} (hown : s.vm.findClass own = some m.cls) (hts : ∀ w ∈ lw_all, w.before args s = true) (hK : va_K D vwCl (TY cA cT) s) (hP : WP D a cA cT T g H) (hS : va_S A H0 H locs) (hAA : ∀ q, AA a T q → A q) (hP2 : va_P D vwCl ws2 H) (hap : ∀ (k : Nat) (z : Nat × va_E), ws2[k]? = some z → ¬ AA a T z.1) {y : MethodName} {bytes : ByteArray} {maxL f n index : Nat} {ret : Option FieldType} {As : List Value} {r : Int32}
    (hM : CtI l D a cA cT T y (Cond.code y bytes maxL ret :: lw_all) (rmm f n) As g r g') (hg : GoodIn lw_all (va_wsS own index y (Cond.code y bytes maxL ret :: lw_all)))
    (hd : y.cls ≠ "java/lang/invoke/MethodHandle" ∧ y.cls ≠ "java/lang/invoke/VarHandle" ∧ (parseMethodDescriptor y.desc).map (fun d => d.parameters.length) = some As.length) (hR : f + 1 ≤ R.frames ∧ 8 + (maxL + 11) + n ≤ R.locals) {st : List Value} (rest : List Value) (hst : st = As.reverse ++ rest) (hrest : (rest.map fun v => v.category).sum ≤ 8) (hsz : ls.size = nL) (hf : cells ≤ R.cells ∧ slots ≤ R.slots) (hdg : decode cc pc = .ok (.invokestatic index, 3))
    (kk : ∀ (H1 : Heap) (locs1 : List Loc), WP D a cA cT T g' H1 → va_P D vwCl ws2 H1 → va_S A H0 H1 locs1 → W p l e R s m args below meth c H1 locs1 cells slots Q (F0 m (pc + 3) ls (.int r :: rest))) : W p l e R s m args below meth c H locs cells slots Q (F0 m pc ls st) := by
  subst hst
  refine va_calli (va_runS (As := As) (rest := rest) ⟨hx, hb, hml, hown, hts⟩ hM (va_cwS As.length hts hg rfl rfl rfl hd hR) ⟨wd_blind, fun U hU hW => ⟨rfl, by rw [hU]; exact hP, va_K.moved hW.alike hK⟩⟩ rfl rfl hsz rfl (lv_room hrest) hdg hf) hS (fun q _ h => hAA q h) hAA (fun x u t H1 locs1 ht hvm hw hB hz1 hk1 hS1 => ?_)
  subst hw
  obtain ⟨hP1, -⟩ := hB
  rw [ht] at hP1
  exact kk H1 locs1 hP1 (hP2.kept (fun k z hz => hk1 z.1 ((hP2 k z hz).lt) (hap k z hz))) hS1
/-- a new row of 64 ints -/
theorem y_newa (hx : p.tables.exec = Jvm.exec) (hb : c.code = cc) (hts : ∀ w ∈ lw_all, w.before args s = true) (harr : Cond.arrayClass .int ∈ lw_all) (hK : va_K D vwCl (TY cA cT) s) (hI : WI a TC) (hP : WP D a cA cT TC g H) (hS : va_S A H0 H locs) (hAA : ∀ q, AA a TC q → A q) (hA : ∀ q, H0.size ≤ q → A q) {n : Int32} (hn : ¬ n < 0) (hN : n.toNatClampNeg = 64) (hcells : cells + 1 ≤ R.cells) (hslots : slots + 64 ≤ R.slots) (hdg : decode cc pc = .ok (.newarray .int, 2))
    (kk : ∀ (q : Nat) (H1 : Heap), WP D a cA cT TC g H1 → va_P D vwCl [ar cA q (fun _ => 0)] H1 → va_S A H0 H1 locs → ¬ AA a TC q → A q → H0.size ≤ q → W p l e R s m args below meth c H1 locs (cells + 1) (slots + 64) Q (F0 m (pc + 2) ls (.ref q :: rest))) : W p l e R s m args below meth c H locs cells slots Q (F0 m pc ls (.int n :: rest)) := by
  refine va_newaK (atype := .int) hx hb (hts _ harr) rfl hdg rfl hn hN (Nat.le_of_ble_eq_true rfl) hcells hslots rfl (fun H1 cB e1 z1 o1 hAr hNm => ?_)
  have h1 : s.vm.findClass ("[" ++ FieldType.int.toString) = some cA := (hK.2 0 (cA, .int) rfl).2
  have e2 : cA = cB := Option.some.inj (h1.symm.trans hNm)
  subst e2
  refine kk H.size H1 (hP.kept (fun k z hz => o1 z.1 ((hP k z hz).lt))) (fun k z hz => ?_) ⟨Nat.le_trans hS.1 (by omega), fun x h1 h2 => (o1 x (Nat.lt_of_lt_of_le h1 hS.1)).trans (hS.2.1 x h1 h2), hS.2.2⟩ (fun h => Nat.lt_irrefl _ (aa_lt hP h)) (hA _ hS.1) hS.1
  have hl := (List.getElem?_eq_some_iff.mp hz).1
  simp only [List.length_cons, List.length_nil] at hl
  have h0 : k = 0 := by omega
  subst h0
  cases hz
  exact e1
theorem y_ast (hx : p.tables.exec = Jvm.exec) (hb : c.code = cc) (hK : va_K D vwCl (TY cA cT) s) (hI : WI a TC) (hP : WP D a cA cT TC g H) (hS : va_S A H0 H locs) (hAA : ∀ q, AA a TC q → A q) {q : Nat} {f : Nat → Int32} (hW : va_P D vwCl [ar cA q f] H) (hqa : ¬ AA a TC q) (hqA : A q) {i x : Int32} (hin : vp_in i 64) (hdg : decode cc pc = .ok (.iastore, 1))
    (kk : ∀ (H1 : Heap) (locs1 : List Loc), WP D a cA cT TC g H1 → va_P D vwCl [ar cA q (upd f i.toNatClampNeg x)] H1 → va_S A H0 H1 locs1 → W p l e R s m args below meth c H1 locs1 cells slots Q (F0 m (pc + 1) ls rest)) : W p l e R s m args below meth c H locs cells slots Q (F0 m pc ls (.int x :: .int i :: .ref q :: rest)) := by
  have hD : va_D A ([ar cA q f] ++ wl a cA cT g 0 TC) := (va_D_1 (z := ar cA q f) hqA).app ((wl_D hI).weaken (fun k z _ h => hAA _ h)) (fun i j u v hu hv h => by
    have hl := (List.getElem?_eq_some_iff.mp hu).1
    simp only [List.length_cons, List.length_nil] at hl
    have h0 : i = 0 := by omega
    subst h0
    cases hu
    obtain ⟨h1, h2⟩ := wl_inv hv
    exact hqa ⟨j, h1, by rw [← h2]; exact h.symm⟩)
  refine va_iast hx hb hK (hW.app hP) hD hS 0 0 rfl rfl hin hdg (fun H1 locs1 hP1 hD1 hS1 => ?_)
  have hP1 : va_P D vwCl ([ar cA q (upd f i.toNatClampNeg x)] ++ wl a cA cT g 0 TC) H1 := hP1
  exact kk H1 locs1 (va_P_r hP1) (va_P_l hP1) hS1
theorem an_in {sz : Nat} (hAA : ∀ q, AA a TC q → A q) (hA : ∀ q, H0.size ≤ q → A q) (hz : H0.size ≤ sz) : ∀ q, An2 a sz q → A q := fun q h => by
  rcases h with h | h
  · exact hAA q h
  · exact hA q (Nat.le_trans hz h)
theorem ws_kept {H1 : Heap} (hP2 : va_P D vwCl ws2 H) (hap : ∀ (k : Nat) (z : Nat × va_E), ws2[k]? = some z → ¬ AA a TC z.1) (hk1 : ∀ q : Nat, q < H.size → ¬ An2 a H.size q → H1[q]? = H[q]?) : va_P D vwCl ws2 H1 :=
  hP2.kept (fun k z hz => hk1 z.1 ((hP2 k z hz).lt) (fun h => by
    rcases h with h | h
    · exact hap k z hz h
    · exact absurd ((hP2 k z hz).lt) (Nat.not_lt.mpr h)))
theorem y_T (hx : p.tables.exec = Jvm.exec) (hb : c.code = cc) {nL : Nat} (hml : c.maxLocals = nL) {own : String} (hown : s.vm.findClass own = some m.cls) (hts : ∀ w ∈ lw_all, w.before args s = true) (hK : va_K D vwCl (TY cA cT) s) (hP : WP D a cA cT TC g H) (hS : va_S A H0 H locs) (hAA : ∀ q, AA a TC q → A q) (hP2 : va_P D vwCl ws2 H) (hap : ∀ (k : Nat) (z : Nat × va_E), ws2[k]? = some z → ¬ AA a TC z.1) (hA : ∀ q, H0.size ≤ q → A q) {y : MethodName} {bytes : ByteArray} {maxL f n index : Nat} {ret : Option FieldType} {r : Nat → Int32}
    (hM : CtA l D a cA cT y (Cond.code y bytes maxL ret :: lw_all) f n [.ref (a 0)] g r) (hg : GoodIn lw_all (va_wsS own index y (Cond.code y bytes maxL ret :: lw_all)))
    (hd : y.cls ≠ "java/lang/invoke/MethodHandle" ∧ y.cls ≠ "java/lang/invoke/VarHandle" ∧ (parseMethodDescriptor y.desc).map (fun d => d.parameters.length) = some 1) (hR : f + 1 ≤ R.frames ∧ 8 + (maxL + 11) + n ≤ R.locals) {st : List Value} (rest : List Value) (hst : st = .ref (a 0) :: rest) (hrest : (rest.map fun v => v.category).sum ≤ 8) (hsz : ls.size = nL) (hf : cells + 1 ≤ R.cells ∧ slots + 64 ≤ R.slots) (hdg : decode cc pc = .ok (.invokestatic index, 3))
    (kk : ∀ (q : Nat) (H1 : Heap) (locs1 : List Loc), WP D a cA cT TC g H1 → va_P D vwCl (ar cA q r :: ws2) H1 → va_S A H0 H1 locs1 → ¬ AA a TC q → W p l e R s m args below meth c H1 locs1 (cells + 1) (slots + 64) Q (F0 m (pc + 3) ls (.ref q :: rest))) : W p l e R s m args below meth c H locs cells slots Q (F0 m pc ls st) := by
  subst hst
  refine va_callr (va_runS (As := [.ref (a 0)]) (rest := rest) ⟨hx, hb, hml, hown, hts⟩ (hM H.size) (va_cwS 1 hts hg rfl rfl rfl hd hR) ⟨fun a' U g' mk q => ⟨q.1, q.2.1, q.2.2.1, va_K.moved (u := U) (U := U.calling g' mk a') (Vm.Alike.refl U.vm) q.2.2.2⟩, fun U hU hW => ⟨rfl, by rw [hU], by rw [hU]; exact hP, va_K.moved hW.alike hK⟩⟩ rfl rfl hsz rfl (lv_room hrest) hdg hf) hS (fun q _ h => an_in hAA hA hS.1 q h) (an_in hAA hA hS.1) (fun u q t H1 locs1 ht hvm hw hB hz1 hk1 hS1 => ?_)
  obtain ⟨hP1, hW1, hq⟩ := hB
  rw [ht] at hP1 hW1
  exact kk q H1 locs1 hP1 (hW1.app (ws_kept hP2 hap hk1)) hS1 (fun h => absurd (aa_lt hP h) (Nat.not_lt.mpr hq))
theorem y_U {d0 : Drawn} (hd0 : s.drawn.sameBut d0 lw_cs) (hx : p.tables.exec = Jvm.exec) (hb : c.code = cc) {nL : Nat} (hml : c.maxLocals = nL) {own : String} (hown : s.vm.findClass own = some m.cls) (hts : ∀ w ∈ lw_all, w.before args s = true) (hK : va_K D vwCl (TY cA cT) s) (hP : WP D a cA cT TC g H) (hS : va_S A H0 H locs) (hAA : ∀ q, AA a TC q → A q) (hP2 : va_P D vwCl ws2 H) (hap : ∀ (k : Nat) (z : Nat × va_E), ws2[k]? = some z → ¬ AA a TC z.1) (hA : ∀ q, H0.size ≤ q → A q) {y : MethodName} {bytes : ByteArray} {maxL f n index : Nat} {ret : Option FieldType} {v r : Int32}
    (hM : CtU l D a cA cT y (Cond.code y bytes maxL ret :: lw_all) f n [.ref (a 0), .int v] g r g') (hg : GoodIn lw_all (va_wsS own index y (Cond.code y bytes maxL ret :: lw_all)))
    (hd : y.cls ≠ "java/lang/invoke/MethodHandle" ∧ y.cls ≠ "java/lang/invoke/VarHandle" ∧ (parseMethodDescriptor y.desc).map (fun d => d.parameters.length) = some 2) (hR : f + 1 ≤ R.frames ∧ 8 + (maxL + 11) + n ≤ R.locals) {st : List Value} (rest : List Value) (hst : st = .int v :: .ref (a 0) :: rest) (hrest : (rest.map fun v => v.category).sum ≤ 8) (hsz : ls.size = nL) (hf : cells + 1 ≤ R.cells ∧ slots + 64 ≤ R.slots) (hdg : decode cc pc = .ok (.invokestatic index, 3))
    (kk : ∀ (d1 : Drawn) (H1 : Heap) (locs1 : List Loc), s.drawn.sameBut d1 lw_cs → WP D a cA cT TC g' H1 → va_P D vwCl ws2 H1 → va_S A H0 H1 locs1 → W p l e R (s.setDrawn d1) m args below meth c H1 locs1 (cells + 1) (slots + 64) Q (F0 m (pc + 3) ls (.int r :: rest))) : W p l e R (s.setDrawn d0) m args below meth c H locs cells slots Q (F0 m pc ls st) := by
  subst hst
  have hts' := dr_words hts d0
  have hK' : va_K D vwCl (TY cA cT) (s.setDrawn d0) := hK
  refine va_calliD hd0 (va_runS_D (As := [.ref (a 0), .int v]) (rest := rest) ⟨hx, hb, hml, hown, hts'⟩ (hM H.size) (va_cwS 2 hts' hg rfl rfl rfl hd hR) ⟨fun a' U g' mk q => ⟨q.1, q.2.1, q.2.2.1, va_K.moved (u := U) (U := U.calling g' mk a') (Vm.Alike.refl U.vm) q.2.2.2⟩, fun U hU hW => ⟨rfl, by rw [hU], by rw [hU]; exact hP, va_K.moved hW.alike hK'⟩⟩ rfl rfl hsz rfl (lv_room hrest) hdg hf) hS (fun q _ h => an_in hAA hA hS.1 q h) (an_in hAA hA hS.1) (fun x u t H1 locs1 ht hvm hw hB hz1 hk1 hS1 d1 hd1 => ?_)
  subst hw
  have hP1 : WP D a cA cT TC g' t.heap := hB
  rw [ht] at hP1
  exact kk d1 H1 locs1 hd1 hP1 (ws_kept hP2 hap hk1) hS1
theorem y_SS (hx : p.tables.exec = Jvm.exec) (hb : c.code = cc) {nL : Nat} (hml : c.maxLocals = nL) {own : String} (hown : s.vm.findClass own = some m.cls) (hts : ∀ w ∈ lw_all, w.before args s = true) (hK : va_K D vwCl (TY cA cT) s) (hP : WP D a cA cT TC g H) (hS : va_S A H0 H locs) (hAA : ∀ q, AA a TC q → A q) (hP2 : va_P D vwCl ws2 H) (hap : ∀ (k : Nat) (z : Nat × va_E), ws2[k]? = some z → ¬ AA a TC z.1) {q1 q2 : Nat} {f1 f2 : Nat → Int32} (hsub : va_P D vwCl [ar cA q1 f1, ar cA q2 f2] H) {y : MethodName} {bytes : ByteArray} {maxL f n index : Nat} {ret : Option FieldType} {r : Int32}
    (hM : CtS l D cA cT y (Cond.code y bytes maxL ret :: lw_all) f n q1 q2 f1 f2 r) (hg : GoodIn lw_all (va_wsS own index y (Cond.code y bytes maxL ret :: lw_all)))
    (hd : y.cls ≠ "java/lang/invoke/MethodHandle" ∧ y.cls ≠ "java/lang/invoke/VarHandle" ∧ (parseMethodDescriptor y.desc).map (fun d => d.parameters.length) = some 2) (hR : f + 1 ≤ R.frames ∧ 8 + (maxL + 11) + n ≤ R.locals) {st : List Value} (rest : List Value) (hst : st = .ref q2 :: .ref q1 :: rest) (hrest : (rest.map fun v => v.category).sum ≤ 8) (hsz : ls.size = nL) (hf : cells ≤ R.cells ∧ slots ≤ R.slots) (hdg : decode cc pc = .ok (.invokestatic index, 3))
    (kk : ∀ (H1 : Heap) (locs1 : List Loc), WP D a cA cT TC g H1 → va_P D vwCl ws2 H1 → va_S A H0 H1 locs1 → W p l e R s m args below meth c H1 locs1 cells slots Q (F0 m (pc + 3) ls (.int r :: rest))) : W p l e R s m args below meth c H locs cells slots Q (F0 m pc ls st) := by
  subst hst
  refine va_calli (va_runS (As := [.ref q1, .ref q2]) (rest := rest) ⟨hx, hb, hml, hown, hts⟩ hM (va_cwS 2 hts hg rfl rfl rfl hd hR) ⟨fun a' U g' mk q => ⟨q.1, q.2.1, va_K.moved (u := U) (U := U.calling g' mk a') (Vm.Alike.refl U.vm) q.2.2⟩, fun U hU hW => ⟨rfl, by rw [hU]; exact hsub, va_K.moved hW.alike hK⟩⟩ rfl rfl hsz rfl (lv_room hrest) hdg hf) hS (fun q _ h => h.elim) (fun q h => h.elim) (fun x u t H1 locs1 ht hvm hw hB hz1 hk1 hS1 => ?_)
  subst hw
  have hk2 : ∀ q : Nat, q < H.size → H1[q]? = H[q]? := fun q hq => hk1 q hq (fun h => h)
  exact kk H1 locs1 (hP.kept (fun k z hz => hk2 z.1 ((hP k z hz).lt))) (hP2.kept (fun k z hz => hk2 z.1 ((hP2 k z hz).lt))) hS1
theorem y_C (hx : p.tables.exec = Jvm.exec) (hb : c.code = cc) {nL : Nat} (hml : c.maxLocals = nL) {own : String} (hown : s.vm.findClass own = some m.cls) (hts : ∀ w ∈ lw_all, w.before args s = true) (hK : va_K D vwCl (TY cA cT) s) (hP : WP D a cA cT TC g H) (hS : va_S A H0 H locs) (hAA : ∀ q, AA a TC q → A q) (hP2 : va_P D vwCl ws2 H) (hap : ∀ (k : Nat) (z : Nat × va_E), ws2[k]? = some z → ¬ AA a TC z.1) {b L : Nat} {xs : Nat → Int32} (hX : va_X b L xs s H0) (hbl : b < H0.size) (hbA : ¬ A b) {y : MethodName} {bytes : ByteArray} {maxL f n index : Nat} {ret : Option FieldType} {v r : Int32}
    (hM : CtX l y (Cond.code y bytes maxL ret :: lw_all) f n b L xs v r) (hg : GoodIn lw_all (va_wsS own index y (Cond.code y bytes maxL ret :: lw_all)))
    (hd : y.cls ≠ "java/lang/invoke/MethodHandle" ∧ y.cls ≠ "java/lang/invoke/VarHandle" ∧ (parseMethodDescriptor y.desc).map (fun d => d.parameters.length) = some 2) (hR : f + 1 ≤ R.frames ∧ 8 + (maxL + 11) + n ≤ R.locals) {st : List Value} (rest : List Value) (hst : st = .int v :: .ref b :: rest) (hrest : (rest.map fun v => v.category).sum ≤ 8) (hsz : ls.size = nL) (hf : cells ≤ R.cells ∧ slots ≤ R.slots) (hdg : decode cc pc = .ok (.invokestatic index, 3))
    (kk : ∀ (H1 : Heap) (locs1 : List Loc), WP D a cA cT TC g H1 → va_P D vwCl ws2 H1 → va_S A H0 H1 locs1 → W p l e R s m args below meth c H1 locs1 cells slots Q (F0 m (pc + 3) ls (.int r :: rest))) : W p l e R s m args below meth c H locs cells slots Q (F0 m pc ls st) := by
  subst hst
  refine va_calli (va_runS (As := [.ref b, .int v]) (rest := rest) ⟨hx, hb, hml, hown, hts⟩ hM (va_cwS 2 hts hg rfl rfl rfl hd hR) ⟨fun a' U g' mk q => ⟨q.1, q.2.1, va_X.moved (u := U) (U := U.calling g' mk a') (Vm.Alike.refl U.vm) q.2.2⟩, fun U hU hW => ⟨rfl, by rw [hU]; exact Nat.lt_of_lt_of_le hbl hS.1, by rw [hU]; exact va_X.moved hW.alike (hX.kept (hS.2.1 b hbl hbA))⟩⟩ rfl rfl hsz rfl (lv_room hrest) hdg hf) hS (fun q _ h => h.elim) (fun q h => h.elim) (fun x u t H1 locs1 ht hvm hw hB hz1 hk1 hS1 => ?_)
  subst hw
  have hk2 : ∀ q : Nat, q < H.size → H1[q]? = H[q]? := fun q hq => hk1 q hq (fun h => h)
  exact kk H1 locs1 (hP.kept (fun k z hz => hk2 z.1 ((hP k z hz).lt))) (hP2.kept (fun k z hz => hk2 z.1 ((hP2 k z hz).lt))) hS1
end
/-! how the law's contracts are begun and ended -/
section
variable {l : Launch} {D : va_G} {a : Nat → Nat} {cA cT : ClassId} {g g' : MG} {y : MethodName} {cc : ByteArray} {maxL f n : Nat} {As : List Value}
theorem CtA.of {r : Nat → Int32} (hy : plainName y.cls = true) (hn : (lg_sl As).length ≤ maxL)
    (body : ∀ (p : Program) (e : Env) (s : State) (m : MethodId) (args : Array Value) (below : List Frame) (meth : Method) (c : Code) (Q : State → Prop) (ls : Array Slot), p.tables.exec = Jvm.exec → c.code = cc → c.maxLocals = maxL → s.vm.findClass y.cls = some m.cls → (∀ w ∈ lw_all, w.before args s = true) → va_K D vwCl (TY cA cT) s → WP D a cA cT TC g s.heap → va_S (An2 a s.heap.size) s.heap s.heap [] → (∀ q, AA a TC q → An2 a s.heap.size q) → (∀ q, s.heap.size ≤ q → An2 a s.heap.size q) → lv_has ls maxL (lv_args 0 As) →
      (∀ (H : Heap) (locs : List Loc) (pc : Nat) (ls : Array Slot) (q : Nat), decode cc pc = .ok (.areturn, 1) → WP D a cA cT TC g H → va_P D vwCl [ar cA q r] H → s.heap.size ≤ q → va_S (An2 a s.heap.size) s.heap H locs → W p l e (rma f n) s m args below meth c H locs 1 64 Q (F0 m pc ls [.ref q])) →
      W p l e (rma f n) s m args below meth c s.heap [] 0 0 Q (F0 m 0 ls [])) :
    CtA l D a cA cT y (Cond.code y cc maxL (some (.array .int)) :: lw_all) f n As g r := by
  intro sz
  refine Met.ofW (cc := cc) (maxL := maxL) (ret := some (.array .int)) hy rfl ?_
  intro p e s m args below meth c s₁ B hml hv
  obtain ⟨rfl, hsz, hP, hK⟩ := hv
  subst hsz
  have hr := B.returns
  have hlocks := B.notSynchronized
  have hl := lv_entry As (n := maxL) hn
  rw [lg_entry_eq]
  refine body p e s m As.toArray below meth c _ _ B.exec B.bytes hml (findClass_of_methodNamed B.named) (fun w hw => atoms_spec B.pre w (List.mem_cons_of_mem _ hw)) hK hP va_S.rf (fun q h => Or.inl h) (fun q h => Or.inr h) hl ?_
  intro H locs pc ls q hdg hP1 hW1 hq hS1
  exact W.aret B.exec B.bytes hr (Or.inr ⟨_, rfl⟩) (Or.inr ⟨_, rfl⟩) (fun t ht hW => ⟨⟨(), q, rfl, trivial, by rw [← ht] at hP1 hW1; exact ⟨hP1, hW1, hq⟩⟩, hS1.F ht⟩) hS1.2.2 hdg
theorem CtU.of {ty : FieldType} {r : Int32} (hy : plainName y.cls = true) (hn : (lg_sl As).length ≤ maxL)
    (body : ∀ (p : Program) (e : Env) (s : State) (m : MethodId) (args : Array Value) (below : List Frame) (meth : Method) (c : Code) (Q : State → Prop) (ls : Array Slot) (d0 : Drawn), s.drawn.sameBut d0 lw_cs → p.tables.exec = Jvm.exec → c.code = cc → c.maxLocals = maxL → s.vm.findClass y.cls = some m.cls → (∀ w ∈ lw_all, w.before args s = true) → va_K D vwCl (TY cA cT) s → WP D a cA cT TC g s.heap → va_S (An2 a s.heap.size) s.heap s.heap [] → (∀ q, AA a TC q → An2 a s.heap.size q) → (∀ q, s.heap.size ≤ q → An2 a s.heap.size q) → lv_has ls maxL (lv_args 0 As) →
      (∀ (d1 : Drawn), s.drawn.sameBut d1 lw_cs → ∀ (H : Heap) (locs : List Loc) (pc : Nat) (ls : Array Slot), decode cc pc = .ok (.ireturn, 1) → narrow ty (.int r) = .int r → WP D a cA cT TC g' H → va_S (An2 a s.heap.size) s.heap H locs → W p l e (rma f n) (s.setDrawn d1) m args below meth c H locs 1 64 Q (F0 m pc ls [.int r])) →
      W p l e (rma f n) (s.setDrawn d0) m args below meth c s.heap [] 0 0 Q (F0 m 0 ls [])) :
    CtU l D a cA cT y (Cond.code y cc maxL (some ty) :: lw_all) f n As g r g' := by
  intro sz
  refine MetD.ofW (cc := cc) (maxL := maxL) (ret := some ty) hy rfl ?_
  intro p e s m args below meth c s₁ B hml hv hd0
  obtain ⟨rfl, hsz, hP, hK⟩ := hv
  subst hsz
  have hr := B.returns
  have hlocks := B.notSynchronized
  have hl := lv_entry As (n := maxL) hn
  rw [lg_entry_eq]
  refine body p e s m As.toArray below meth c _ _ s.drawn hd0 B.exec B.bytes hml (findClass_of_methodNamed B.named) (fun w hw => atoms_spec B.pre w (List.mem_cons_of_mem _ hw)) hK hP va_S.rf (fun q h => Or.inl h) (fun q h => Or.inr h) hl ?_
  intro d1 hd1 H locs pc ls hdg hnar hP1 hS1
  refine W.endD hd1 ?_
  exact W.zret B.exec B.bytes hr hnar (fun t ht hW => ⟨⟨r, (), rfl, rfl, by rw [← ht] at hP1; exact hP1⟩, hS1.F ht⟩) hS1.2.2 hdg
end
