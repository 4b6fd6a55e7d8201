/-! THE ROWS over the world of part 06: an instruction each; then calls; then how a contract is begun and ended. -/
section
variable {p : Program} {l : Launch} {e : Env} {R : Room} {s : State} {m : MethodId} {args : Array Value} {below : List Frame} {meth : Method} {c : Code} {H : Heap} {locs : List Loc} {cells slots : Nat} {Q : State → Prop}
variable {cc : ByteArray} {pc : Nat} {ls : Array Slot} {rest : List Value} {H0 : Heap}
variable {D : va_G} {a : Nat → Nat} {cA cT : ClassId} {T : List LE} {g g' : MG}
theorem x_get (hx : p.tables.exec = Jvm.exec) (hb : c.code = cc) {own ref C : String} {F : u_T} {N ci index : Nat} (hts : ∀ w ∈ lw_all, w.before args s = true) (hin : ∀ w ∈ u_ws C F N, w ∈ lw_all) (hown : s.vm.findClass own = some m.cls) (hK : va_K D vwCl (TY cA cT) s) (hP : WP D a cA cT T g H) {k : Nat} {fs : List (Option Nat)} (hT : T[k]? = some (.inl (ci, fs))) (hc : vwCl[ci]? = some (C, F, N)) (j : Nat) (hj : j < N) (hlink : Cond.fieldLink own index ref (F j).2.1 (F j).2.2.1 ∈ lw_all) (href : (F j).1 = ref) (hf : fs[j]? = some none) (hdg : decode cc pc = .ok (.getfield index, 3))
    (kk : W p l e R s m args below meth c H locs cells slots Q (F0 m (pc + 3) ls (.int (g.1 k j) :: rest))) : W p l e R s m args below meth c H locs cells slots Q (F0 m pc ls (.ref (a k) :: rest)) := by
  subst href
  have hv := fv_get (a := a) (f := g.1 k) fs 0 j hf
  rw [Nat.zero_add] at hv
  exact va_get hx hb hts hin hown hK hP k (wl_get0 hT) hc j hj (hts _ hlink) (fun _ h => h) hv hdg kk
theorem x_getr (hx : p.tables.exec = Jvm.exec) (hb : c.code = cc) {own ref C : String} {F : u_T} {N ci index : Nat} (hts : ∀ w ∈ lw_all, w.before args s = true) (hin : ∀ w ∈ u_ws C F N, w ∈ lw_all) (hown : s.vm.findClass own = some m.cls) (hK : va_K D vwCl (TY cA cT) s) (hP : WP D a cA cT T g H) {k : Nat} {fs : List (Option Nat)} (hT : T[k]? = some (.inl (ci, fs))) (hc : vwCl[ci]? = some (C, F, N)) (j : Nat) (hj : j < N) (hlink : Cond.fieldLink own index ref (F j).2.1 (F j).2.2.1 ∈ lw_all) (href : (F j).1 = ref) (k' : Nat) (hf : fs[j]? = some (some k')) (hdg : decode cc pc = .ok (.getfield index, 3))
    (kk : W p l e R s m args below meth c H locs cells slots Q (F0 m (pc + 3) ls (.ref (a k') :: rest))) : W p l e R s m args below meth c H locs cells slots Q (F0 m pc ls (.ref (a k) :: rest)) := by
  subst href
  exact va_get hx hb hts hin hown hK hP k (wl_get0 hT) hc j hj (hts _ hlink) (fun _ h => h) (fv_getr (a := a) (f := g.1 k) fs 0 j hf) hdg kk
theorem x_put (hx : p.tables.exec = Jvm.exec) (hb : c.code = cc) {own ref C : String} {F : u_T} {N ci index : Nat} (hts : ∀ w ∈ lw_all, w.before args s = true) (hin : ∀ w ∈ u_ws C F N, w ∈ lw_all) (ty0 : Nat → FieldType) (hty : ∀ k, k < N → parseFieldDescriptor (F k).2.2.1 = some (ty0 k)) (hnm : ∀ a, a < N → ∀ b, b < N → a ≠ b → (F a).2.1 ≠ (F b).2.1) (hown : s.vm.findClass own = some m.cls) (hK : va_K D vwCl (TY cA cT) s) (hI : WI a T) (hP : WP D a cA cT T g H) (hS : va_S (AA a T) H0 H locs) {k : Nat} {fs : List (Option Nat)} (hT : T[k]? = some (.inl (ci, fs))) (hc : vwCl[ci]? = some (C, F, N)) (j : Nat) (hj : j < N) (hlink : Cond.fieldLink own index ref (F j).2.1 (F j).2.2.1 ∈ lw_all) (href : (F j).1 = ref) (hf : fs[j]? = some none) (hfin : (F j).2.2.2 = false) {v : Int32} (hn : narrow (ty0 j) (.int v) = .int v) (hfit : fits (ty0 j) (.int v) = true) (hdg : decode cc pc = .ok (.putfield index, 3))
    (kk : ∀ (H1 : Heap) (locs1 : List Loc), WP D a cA cT T (g_w g k j v) H1 → va_S (AA a T) H0 H1 locs1 → W p l e R s m args below meth c H1 locs1 cells slots Q (F0 m (pc + 3) ls rest)) : W p l e R s m args below meth c H locs cells slots Q (F0 m pc ls (.int v :: .ref (a k) :: rest)) := by
  subst href
  have hjl : j < fs.length := (List.getElem?_eq_some_iff.mp hf).1
  refine va_put hx hb hts hin ty0 hty hnm hown hK hP (wl_D hI) hS k (wl_get0 hT) hc j hj (hts _ hlink) (fun _ h => h) hfin (hty j hj) hn hfit (by rw [fv_len]; exact hjl) hdg (fun H1 locs1 hP1 hD1 hS1 => kk H1 locs1 ?_ hS1)
  have e1 := fv_set (a := a) (f := g.1 k) (v := v) fs 0 j hf
  rw [Nat.zero_add] at e1
  rw [e1] at hP1
  have e2 := wl_set1 (a := a) (cA := cA) (cT := cT) (g := g) hT (f := upd (g.1 k) j v)
  rw [show ce a cA cT (va_up g.1 k (upd (g.1 k) j v), g.2) k (.inl (ci, fs)) = .inr (ci, fv a (upd (g.1 k) j v) 0 fs) by simp only [ce, va_up_self]] at e2
  rw [e2] at hP1
  exact hP1
theorem x_len (hx : p.tables.exec = Jvm.exec) (hb : c.code = cc) (hK : va_K D vwCl (TY cA cT) s) (hP : WP D a cA cT T g H) {k n : Nat} (hT : T[k]? = some (.inr (.inl n))) (hdg : decode cc pc = .ok (.arraylength, 1))
    (kk : W p l e R s m args below meth c H locs cells slots Q (F0 m (pc + 1) ls (.int (nI n) :: rest))) : W p l e R s m args below meth c H locs cells slots Q (F0 m pc ls (.ref (a k) :: rest)) :=
  va_alen hx hb hK hP k 0 (wl_get0 hT) (ty := .int) rfl rfl hdg kk
theorem x_lenT (hx : p.tables.exec = Jvm.exec) (hb : c.code = cc) (hK : va_K D vwCl (TY cA cT) s) (hP : WP D a cA cT T g H) {k n : Nat} (hT : T[k]? = some (.inr (.inr n))) (hdg : decode cc pc = .ok (.arraylength, 1))
    (kk : W p l e R s m args below meth c H locs cells slots Q (F0 m (pc + 1) ls (.int (nI n) :: rest))) : W p l e R s m args below meth c H locs cells slots Q (F0 m pc ls (.ref (a k) :: rest)) :=
  va_alen hx hb hK hP k 1 (wl_get0 hT) (ty := .object "PrunedSlices$Table") rfl rfl hdg kk
theorem x_ald (hx : p.tables.exec = Jvm.exec) (hb : c.code = cc) (hK : va_K D vwCl (TY cA cT) s) (hP : WP D a cA cT T g H) {k n : Nat} (hT : T[k]? = some (.inr (.inl n))) {i : Int32} (hin : vp_in i n) (hdg : decode cc pc = .ok (.iaload, 1))
    (kk : W p l e R s m args below meth c H locs cells slots Q (F0 m (pc + 1) ls (.int (g.1 k i.toNatClampNeg) :: rest))) : W p l e R s m args below meth c H locs cells slots Q (F0 m pc ls (.int i :: .ref (a k) :: rest)) :=
  va_iald hx hb hK hP k 0 (wl_get0 hT) rfl hin hdg kk
theorem x_ast (hx : p.tables.exec = Jvm.exec) (hb : c.code = cc) (hK : va_K D vwCl (TY cA cT) s) (hI : WI a T) (hP : WP D a cA cT T g H) (hS : va_S (AA a T) H0 H locs) {k n : Nat} (hT : T[k]? = some (.inr (.inl n))) {i x : Int32} (hin : vp_in i n) (hdg : decode cc pc = .ok (.iastore, 1))
    (kk : ∀ (H1 : Heap) (locs1 : List Loc), WP D a cA cT T (g_w g k i.toNatClampNeg x) H1 → va_S (AA a T) H0 H1 locs1 → W p l e R s m args below meth c H1 locs1 cells slots Q (F0 m (pc + 1) ls rest)) : W p l e R s m args below meth c H locs cells slots Q (F0 m pc ls (.int x :: .int i :: .ref (a k) :: rest)) := by
  refine va_iast hx hb hK hP (wl_D hI) hS k 0 (wl_get0 hT) rfl hin hdg (fun H1 locs1 hP1 hD1 hS1 => kk H1 locs1 ?_ hS1)
  have e2 := wl_set1 (a := a) (cA := cA) (cT := cT) (g := g) hT (f := upd (g.1 k) i.toNatClampNeg x)
  rw [show ce a cA cT (va_up g.1 k (upd (g.1 k) i.toNatClampNeg x), g.2) k (.inr (.inl n)) = .inl (cA, n, .inl (upd (g.1 k) i.toNatClampNeg x)) by simp only [ce, va_up_self]] at e2
  rw [e2] at hP1
  exact hP1
theorem x_aldT (hx : p.tables.exec = Jvm.exec) (hb : c.code = cc) (hK : va_K D vwCl (TY cA cT) s) (hP : WP D a cA cT T g H) {k n : Nat} (hT : T[k]? = some (.inr (.inr n))) {i : Int32} (hin : vp_in i n) (hdg : decode cc pc = .ok (.aaload, 1))
    (kk : W p l e R s m args below meth c H locs cells slots Q (F0 m (pc + 1) ls (.ref (a (20 + 15 * g.2 i.toNatClampNeg)) :: rest))) : W p l e R s m args below meth c H locs cells slots Q (F0 m pc ls (.int i :: .ref (a k) :: rest)) :=
  va_aldq hx hb hK hP k 1 (wl_get0 hT) (C := "PrunedSlices$Table") rfl hin hdg kk
theorem x_astT (hx : p.tables.exec = Jvm.exec) (hb : c.code = cc) (hK : va_K D vwCl (TY cA cT) s) (hI : WI a T) (hP : WP D a cA cT T g H) (hS : va_S (AA a T) H0 H locs) {k n : Nat} (hT : T[k]? = some (.inr (.inr n))) (hu : ∀ j, j ≠ k → ∀ n, T[j]? ≠ some (.inr (.inr n))) {t : Nat} {fs : List (Option Nat)} (hT2 : T[20 + 15 * t]? = some (.inl (5, fs))) {i : Int32} (hin : vp_in i n) (hdg : decode cc pc = .ok (.aastore, 1))
    (kk : ∀ (H1 : Heap) (locs1 : List Loc), WP D a cA cT T (g_p g i.toNatClampNeg t) H1 → va_S (AA a T) H0 H1 locs1 → W p l e R s m args below meth c H1 locs1 cells slots Q (F0 m (pc + 1) ls rest)) : W p l e R s m args below meth c H locs cells slots Q (F0 m pc ls (.ref (a (20 + 15 * t)) :: .int i :: .ref (a k) :: rest)) := by
  refine va_astq (ci := 5) (r := (RX5, TX5, 5)) hx hb hK hP (wl_D hI) hS k 1 (20 + 15 * t) (wl_get0 hT) rfl (wl_get0 hT2) rfl hin hdg (fun H1 locs1 hP1 hD1 hS1 => kk H1 locs1 ?_ hS1)
  have e2 := wl_setP (a := a) (cA := cA) (cT := cT) (g := g) hT hu (f := va_up g.2 i.toNatClampNeg t)
  rw [show ce a cA cT (g.1, va_up g.2 i.toNatClampNeg t) k (.inr (.inr n)) = .inl (cT, n, .inr (.inr (.inr (.inr (va_up (fun j => some (a (20 + 15 * g.2 j))) i.toNatClampNeg (some (a (20 + 15 * t)))))))) by
    simp only [ce]
    congr 7
    funext j
    by_cases hj : j = i.toNatClampNeg
    · subst hj; rw [va_up_self, va_up_self]
    · rw [va_up_ne _ _ hj, va_up_ne _ _ hj]] at e2
  rw [e2] at hP1
  exact hP1
theorem x_copy (hx : p.tables.exec = Jvm.exec) (hb : c.code = cc) (hml : c.maxLocals = ls.size) {own : String} {index : Nat} (hts : ∀ w ∈ lw_all, w.before args s = true) (hown : s.vm.findClass own = some m.cls) (hlink : Cond.methodLink own index arraycopyName ∈ lw_all) (hnat : Cond.native arraycopyName ∈ lw_all) (hstat : Cond.static arraycopyName ∈ lw_all) (hini : Cond.initialized "java/lang/System" ∈ lw_all)
    (hK : va_K D vwCl (TY cA cT) s) (hI : WI a T) (hP : WP D a cA cT T g H) (hS : va_S (AA a T) H0 H locs) {k0 k1 n0 n1 : Nat} (hT0 : T[k0]? = some (.inr (.inl n0))) (hT1 : T[k1]? = some (.inr (.inl n1))) {n : Int32} (h3 : ¬ n < 0 ∧ n.toNatClampNeg ≤ n0 ∧ n.toNatClampNeg ≤ n1) (hframes : 1 ≤ R.frames) (hlocals : (rest.map fun v => v.category).sum + 18 ≤ R.locals) (hdg : decode cc pc = .ok (.invokestatic index, 3))
    (kk : ∀ (H1 : Heap) (locs1 : List Loc), WP D a cA cT T (g_c g k1 (va_cpy (g.1 k0) (g.1 k1) 0 0 n.toNatClampNeg)) H1 → va_S (AA a T) H0 H1 locs1 → W p l e R s m args below meth c H1 locs1 cells slots Q (F0 m (pc + 3) ls rest)) : W p l e R s m args below meth c H locs cells slots Q (F0 m pc ls (.int n :: .int 0 :: .ref (a k1) :: .int 0 :: .ref (a k0) :: rest)) := by
  have z0 : (0 : Int32).toNatClampNeg = 0 := rfl
  refine va_copyi hx hb hml hown (hts _ hlink) (hts _ hnat) (hts _ hstat) (hts _ hini) hK hP (wl_D hI) hS k0 k1 0 0 (wl_get0 hT0) (wl_get0 hT1) (ty := .int) rfl rfl rfl (by decide) (by decide) h3.1 (by rw [z0, Nat.zero_add]; exact h3.2.1) (by rw [z0, Nat.zero_add]; exact h3.2.2) (fun _ _ => rfl) hframes hlocals hdg (fun H1 locs1 hP1 hD1 hS1 => kk H1 locs1 ?_ hS1)
  rw [z0] at hP1
  have e2 := wl_set1 (a := a) (cA := cA) (cT := cT) (g := g) hT1 (f := va_cpy (g.1 k0) (g.1 k1) 0 0 n.toNatClampNeg)
  rw [show ce a cA cT (va_up g.1 k1 (va_cpy (g.1 k0) (g.1 k1) 0 0 n.toNatClampNeg), g.2) k1 (.inr (.inl n1)) = .inl (cA, n1, .inl (va_cpy (g.1 k0) (g.1 k1) 0 0 n.toNatClampNeg)) by simp only [ce, va_up_self]] at e2
  rw [e2] at hP1
  exact hP1
/-! calls -/
theorem g_V {own C : String} {index : Nat} {y : MethodName} {bytes : ByteArray} {maxL : Nat} {ret : Option FieldType} (h1 : Cond.methodLink own index y ∈ lw_all) (h2 : Cond.instanceMethod y ∈ lw_all) (h3 : Cond.selects C y y ∈ lw_all) (h4 : Cond.initialized C ∈ lw_all) (h5 : Cond.code y bytes maxL ret ∈ lw_all) : GoodIn lw_all (wsV own index C y (Cond.code y bytes maxL ret :: lw_all)) := by
  intro w hw
  apply lw_gg
  unfold wsV at hw
  rcases List.mem_append.mp hw with hw | hw
  · simp only [List.mem_cons, List.not_mem_nil, or_false] at hw
    rcases hw with rfl | rfl | rfl | rfl <;> assumption
  · rcases List.mem_cons.mp hw with rfl | hw
    · exact h5
    · exact hw
theorem g_S {own : String} {index : Nat} {y : MethodName} {bytes : ByteArray} {maxL : Nat} {ret : Option FieldType} (h1 : Cond.methodLink own index y ∈ lw_all) (h2 : Cond.static y ∈ lw_all) (h4 : Cond.initialized y.cls ∈ lw_all) (h5 : Cond.code y bytes maxL ret ∈ lw_all) : GoodIn lw_all (va_wsS own index y (Cond.code y bytes maxL ret :: lw_all)) := by
  intro w hw
  apply lw_gg
  unfold va_wsS at hw
  rcases List.mem_append.mp hw with hw | hw
  · simp only [List.mem_cons, List.not_mem_nil, or_false] at hw
    rcases hw with rfl | rfl | rfl <;> assumption
  · rcases List.mem_cons.mp hw with rfl | hw
    · exact h5
    · exact hw
theorem wd_blind {As : List Value} : FrameBlind (va_Pc As (Wd D a cA cT T g)) := fun a' U g' mk q => ⟨q.1, q.2.1, va_K.moved (u := U) (U := U.calling g' mk a') (Vm.Alike.refl U.vm) q.2.2⟩
theorem x_VI (hx : p.tables.exec = Jvm.exec) (hb : c.code = cc) {nL : Nat} (hml : c.maxLocals = nL) {own C : String} (hown : s.vm.findClass own = some m.cls) (hts : ∀ w ∈ lw_all, w.before args s = true) (hK : va_K D vwCl (TY cA cT) s) (hP : WP D a cA cT T g H) (hS : va_S (AA a T) H0 H locs) {y : MethodName} {bytes : ByteArray} {maxL f n index : Nat} {ret : Option FieldType} {As : List Value} {r : Int32} {k ci N : Nat} {F : u_T} {fs : List (Option Nat)}
    (hM : CtI l D a cA cT T y (Cond.code y bytes maxL ret :: lw_all) (rmm f n) (.ref (a k) :: As) g r g') (hT : T[k]? = some (.inl (ci, fs))) (hc : vwCl[ci]? = some (C, F, N)) (hg : GoodIn lw_all (wsV own index C y (Cond.code y bytes maxL ret :: lw_all)))
    (hd : y.cls = C ∧ y.cls ≠ "java/lang/invoke/MethodHandle" ∧ y.cls ≠ "java/lang/invoke/VarHandle" ∧ (parseMethodDescriptor y.desc).map (fun d => d.parameters.length) = some As.length) (hR : f + 1 ≤ R.frames ∧ 8 + (maxL + 11) + n ≤ R.locals) {st : List Value} (rest : List Value) (hst : st = As.reverse ++ .ref (a k) :: rest) (hrest : (rest.map fun v => v.category).sum ≤ 8) (hsz : ls.size = nL) (hf : cells ≤ R.cells ∧ slots ≤ R.slots) (hdg : decode cc pc = .ok (.invokevirtual index, 3))
    (kk : ∀ (H1 : Heap) (locs1 : List Loc), WP D a cA cT T g' H1 → va_S (AA a T) H0 H1 locs1 → W p l e R s m args below meth c H1 locs1 cells slots Q (F0 m (pc + 3) ls (.int r :: rest))) : W p l e R s m args below meth c H locs cells slots Q (F0 m pc ls st) := by
  subst hst
  refine va_calli (va_runV (As := As) (rest := rest) ⟨hx, hb, hml, hown, hts⟩ hM (cwV As.length hts hg rfl rfl rfl hd hR) ⟨wd_blind, va_recv hK hP hc (wl_get0 hT), fun U hU hW => ⟨rfl, by rw [hU]; exact hP, va_K.moved hW.alike hK⟩⟩ rfl rfl hsz rfl (lv_room hrest) hdg hf) hS (fun q _ h => h) (fun q h => h) (fun x u t H1 locs1 ht hvm hw hB hz1 hk1 hS1 => ?_)
  subst hw
  obtain ⟨hP1, -⟩ := hB
  rw [ht] at hP1
  exact kk H1 locs1 hP1 hS1
theorem x_VV (hx : p.tables.exec = Jvm.exec) (hb : c.code = cc) {nL : Nat} (hml : c.maxLocals = nL) {own C : String} (hown : s.vm.findClass own = some m.cls) (hts : ∀ w ∈ lw_all, w.before args s = true) (hK : va_K D vwCl (TY cA cT) s) (hP : WP D a cA cT T g H) (hS : va_S (AA a T) H0 H locs) {y : MethodName} {bytes : ByteArray} {maxL f n index : Nat} {ret : Option FieldType} {As : List Value} {k ci N : Nat} {F : u_T} {fs : List (Option Nat)}
    (hM : CtV l D a cA cT T y (Cond.code y bytes maxL ret :: lw_all) (rmm f n) (.ref (a k) :: As) g g') (hT : T[k]? = some (.inl (ci, fs))) (hc : vwCl[ci]? = some (C, F, N)) (hg : GoodIn lw_all (wsV own index C y (Cond.code y bytes maxL ret :: lw_all)))
    (hd : y.cls = C ∧ y.cls ≠ "java/lang/invoke/MethodHandle" ∧ y.cls ≠ "java/lang/invoke/VarHandle" ∧ (parseMethodDescriptor y.desc).map (fun d => d.parameters.length) = some As.length) (hR : f + 1 ≤ R.frames ∧ 8 + (maxL + 11) + n ≤ R.locals) {st : List Value} (rest : List Value) (hst : st = As.reverse ++ .ref (a k) :: rest) (hrest : (rest.map fun v => v.category).sum ≤ 8) (hsz : ls.size = nL) (hf : cells ≤ R.cells ∧ slots ≤ R.slots) (hdg : decode cc pc = .ok (.invokevirtual index, 3))
    (kk : ∀ (H1 : Heap) (locs1 : List Loc), WP D a cA cT T g' H1 → va_S (AA a T) H0 H1 locs1 → W p l e R s m args below meth c H1 locs1 cells slots Q (F0 m (pc + 3) ls rest)) : W p l e R s m args below meth c H locs cells slots Q (F0 m pc ls st) := by
  subst hst
  refine va_callv (va_runV (As := As) (rest := rest) ⟨hx, hb, hml, hown, hts⟩ hM (cwV As.length hts hg rfl rfl rfl hd hR) ⟨wd_blind, va_recv hK hP hc (wl_get0 hT), fun U hU hW => ⟨rfl, by rw [hU]; exact hP, va_K.moved hW.alike hK⟩⟩ rfl rfl hsz rfl (lv_room hrest) hdg hf) hS (fun q _ h => h) (fun q h => h) (fun u t H1 locs1 ht hvm hw hB hz1 hk1 hS1 => ?_)
  obtain ⟨hP1, -⟩ := hB
  rw [ht] at hP1
  exact kk H1 locs1 hP1 hS1
theorem x_VQ (hx : p.tables.exec = Jvm.exec) (hb : c.code = cc) {nL : Nat} (hml : c.maxLocals = nL) {own C : String} (hown : s.vm.findClass own = some m.cls) (hts : ∀ w ∈ lw_all, w.before args s = true) (hK : va_K D vwCl (TY cA cT) s) (hP : WP D a cA cT T g H) (hS : va_S (AA a T) H0 H locs) {y : MethodName} {bytes : ByteArray} {maxL f n index : Nat} {ret : Option FieldType} {As : List Value} {r : Option Nat} {k ci N : Nat} {F : u_T} {fs : List (Option Nat)}
    (hM : CtQ l D a cA cT T y (Cond.code y bytes maxL ret :: lw_all) (rmm f n) (.ref (a k) :: As) g r g') (hT : T[k]? = some (.inl (ci, fs))) (hc : vwCl[ci]? = some (C, F, N)) (hg : GoodIn lw_all (wsV own index C y (Cond.code y bytes maxL ret :: lw_all)))
    (hd : y.cls = C ∧ y.cls ≠ "java/lang/invoke/MethodHandle" ∧ y.cls ≠ "java/lang/invoke/VarHandle" ∧ (parseMethodDescriptor y.desc).map (fun d => d.parameters.length) = some As.length) (hR : f + 1 ≤ R.frames ∧ 8 + (maxL + 11) + n ≤ R.locals) {st : List Value} (rest : List Value) (hst : st = As.reverse ++ .ref (a k) :: rest) (hrest : (rest.map fun v => v.category).sum ≤ 8) (hsz : ls.size = nL) (hf : cells ≤ R.cells ∧ slots ≤ R.slots) (hdg : decode cc pc = .ok (.invokevirtual index, 3))
    (kk : ∀ (H1 : Heap) (locs1 : List Loc), WP D a cA cT T g' H1 → va_S (AA a T) H0 H1 locs1 → W p l e R s m args below meth c H1 locs1 cells slots Q (F0 m (pc + 3) ls (va_rf (r.map (fun t => a (20 + 15 * t))) :: rest))) : W p l e R s m args below meth c H locs cells slots Q (F0 m pc ls st) := by
  subst hst
  refine va_callq (va_runV (As := As) (rest := rest) ⟨hx, hb, hml, hown, hts⟩ hM (cwV As.length hts hg rfl rfl rfl hd hR) ⟨wd_blind, va_recv hK hP hc (wl_get0 hT), fun U hU hW => ⟨rfl, by rw [hU]; exact hP, va_K.moved hW.alike hK⟩⟩ rfl rfl hsz rfl (lv_room hrest) hdg hf) hS (fun q _ h => h) (fun q h => h) (fun x u t H1 locs1 ht hvm hw hB hz1 hk1 hS1 => ?_)
  subst hw
  obtain ⟨hP1, -⟩ := hB
  rw [ht] at hP1
  exact kk H1 locs1 hP1 hS1
theorem x_SI (hx : p.tables.exec = Jvm.exec) (hb : c.code = cc) {nL : Nat} (hml : c.maxLocals = nL) {own : String} (hown : s.vm.findClass own = some m.cls) (hts : ∀ w ∈ lw_all, w.before args s = true) (hK : va_K D vwCl (TY cA cT) s) (hP : WP D a cA cT T g H) (hS : va_S (AA a T) H0 H locs) {y : MethodName} {bytes : ByteArray} {maxL f n index : Nat} {ret : Option FieldType} {As : List Value} {r : Int32}
    (hM : CtI l D a cA cT T y (Cond.code y bytes maxL ret :: lw_all) (rmm f n) As g r g') (hg : GoodIn lw_all (va_wsS own index y (Cond.code y bytes maxL ret :: lw_all)))
    (hd : y.cls ≠ "java/lang/invoke/MethodHandle" ∧ y.cls ≠ "java/lang/invoke/VarHandle" ∧ (parseMethodDescriptor y.desc).map (fun d => d.parameters.length) = some As.length) (hR : f + 1 ≤ R.frames ∧ 8 + (maxL + 11) + n ≤ R.locals) {st : List Value} (rest : List Value) (hst : st = As.reverse ++ rest) (hrest : (rest.map fun v => v.category).sum ≤ 8) (hsz : ls.size = nL) (hf : cells ≤ R.cells ∧ slots ≤ R.slots) (hdg : decode cc pc = .ok (.invokestatic index, 3))
    (kk : ∀ (H1 : Heap) (locs1 : List Loc), WP D a cA cT T g' H1 → va_S (AA a T) H0 H1 locs1 → W p l e R s m args below meth c H1 locs1 cells slots Q (F0 m (pc + 3) ls (.int r :: rest))) : W p l e R s m args below meth c H locs cells slots Q (F0 m pc ls st) := by
  subst hst
  refine va_calli (va_runS (As := As) (rest := rest) ⟨hx, hb, hml, hown, hts⟩ hM (va_cwS As.length hts hg rfl rfl rfl hd hR) ⟨wd_blind, fun U hU hW => ⟨rfl, by rw [hU]; exact hP, va_K.moved hW.alike hK⟩⟩ rfl rfl hsz rfl (lv_room hrest) hdg hf) hS (fun q _ h => h) (fun q h => h) (fun x u t H1 locs1 ht hvm hw hB hz1 hk1 hS1 => ?_)
  subst hw
  obtain ⟨hP1, -⟩ := hB
  rw [ht] at hP1
  exact kk H1 locs1 hP1 hS1
end
/-! contracts: what their bodies owe -/
section
variable {l : Launch} {D : va_G} {a : Nat → Nat} {cA cT : ClassId} {T : List LE} {g g' : MG} {y : MethodName} {cc : ByteArray} {maxL f n : Nat} {As : List Value}
theorem CtI.of {ty : FieldType} {r : Int32} (hy : plainName y.cls = true) (hn : (lg_sl As).length ≤ maxL)
    (body : ∀ (p : Program) (e : Env) (s : State) (m : MethodId) (args : Array Value) (below : List Frame) (meth : Method) (c : Code) (Q : State → Prop) (ls : Array Slot), p.tables.exec = Jvm.exec → c.code = cc → c.maxLocals = maxL → s.vm.findClass y.cls = some m.cls → (∀ w ∈ lw_all, w.before args s = true) → va_K D vwCl (TY cA cT) s → WP D a cA cT T g s.heap → va_S (AA a T) s.heap s.heap [] → lv_has ls maxL (lv_args 0 As) →
      (∀ (H : Heap) (locs : List Loc) (pc : Nat) (ls : Array Slot), decode cc pc = .ok (.ireturn, 1) → narrow ty (.int r) = .int r → WP D a cA cT T g' H → va_S (AA a T) s.heap H locs → W p l e (rmm f n) s m args below meth c H locs 0 0 Q (F0 m pc ls [.int r])) →
      W p l e (rmm f n) s m args below meth c s.heap [] 0 0 Q (F0 m 0 ls [])) :
    CtI l D a cA cT T y (Cond.code y cc maxL (some ty) :: lw_all) (rmm f n) As g r g' := by
  refine Met.ofW (cc := cc) (maxL := maxL) (ret := some ty) hy rfl ?_
  intro p e s m args below meth c s₁ B hml hv
  obtain ⟨rfl, hP, hK⟩ := hv
  have hr := B.returns
  have hlocks := B.notSynchronized
  have hl := lv_entry As (n := maxL) hn
  rw [lg_entry_eq]
  refine body p e s m As.toArray below meth c _ _ B.exec B.bytes hml (findClass_of_methodNamed B.named) (fun w hw => atoms_spec B.pre w (List.mem_cons_of_mem _ hw)) hK hP va_S.rf hl ?_
  intro H locs pc ls hdg hnar hP1 hS1
  exact W.zret B.exec B.bytes hr hnar (fun t ht hW => ⟨⟨r, (), rfl, rfl, by rw [← ht] at hP1; exact ⟨hP1, va_K.moved hW.alike hK⟩⟩, hS1.F ht⟩) hS1.2.2 hdg
theorem CtV.of (hy : plainName y.cls = true) (hn : (lg_sl As).length ≤ maxL)
    (body : ∀ (p : Program) (e : Env) (s : State) (m : MethodId) (args : Array Value) (below : List Frame) (meth : Method) (c : Code) (Q : State → Prop) (ls : Array Slot), p.tables.exec = Jvm.exec → c.code = cc → c.maxLocals = maxL → s.vm.findClass y.cls = some m.cls → (∀ w ∈ lw_all, w.before args s = true) → va_K D vwCl (TY cA cT) s → WP D a cA cT T g s.heap → va_S (AA a T) s.heap s.heap [] → lv_has ls maxL (lv_args 0 As) →
      (∀ (H : Heap) (locs : List Loc) (pc : Nat) (ls : Array Slot), decode cc pc = .ok (.return_, 1) → WP D a cA cT T g' H → va_S (AA a T) s.heap H locs → W p l e (rmm f n) s m args below meth c H locs 0 0 Q (F0 m pc ls [])) →
      W p l e (rmm f n) s m args below meth c s.heap [] 0 0 Q (F0 m 0 ls [])) :
    CtV l D a cA cT T y (Cond.code y cc maxL none :: lw_all) (rmm f n) As g g' := by
  refine Met.ofW (cc := cc) (maxL := maxL) (ret := none) hy rfl ?_
  intro p e s m args below meth c s₁ B hml hv
  obtain ⟨rfl, hP, hK⟩ := hv
  have hr := B.returns
  have hlocks := B.notSynchronized
  have hl := lv_entry As (n := maxL) hn
  rw [lg_entry_eq]
  refine body p e s m As.toArray below meth c _ _ B.exec B.bytes hml (findClass_of_methodNamed B.named) (fun w hw => atoms_spec B.pre w (List.mem_cons_of_mem _ hw)) hK hP va_S.rf hl ?_
  intro H locs pc ls hdg hP1 hS1
  exact W.vret B.exec B.bytes hr (fun t ht hW => ⟨⟨(), rfl, trivial, by rw [← ht] at hP1; exact ⟨hP1, va_K.moved hW.alike hK⟩⟩, hS1.F ht⟩) hS1.2.2 hdg
theorem CtQ.of {r : Option Nat} (hy : plainName y.cls = true) (hn : (lg_sl As).length ≤ maxL)
    (body : ∀ (p : Program) (e : Env) (s : State) (m : MethodId) (args : Array Value) (below : List Frame) (meth : Method) (c : Code) (Q : State → Prop) (ls : Array Slot), p.tables.exec = Jvm.exec → c.code = cc → c.maxLocals = maxL → s.vm.findClass y.cls = some m.cls → (∀ w ∈ lw_all, w.before args s = true) → va_K D vwCl (TY cA cT) s → WP D a cA cT T g s.heap → va_S (AA a T) s.heap s.heap [] → lv_has ls maxL (lv_args 0 As) →
      (∀ (H : Heap) (locs : List Loc) (pc : Nat) (ls : Array Slot), decode cc pc = .ok (.areturn, 1) → WP D a cA cT T g' H → va_S (AA a T) s.heap H locs → W p l e (rmm f n) s m args below meth c H locs 0 0 Q (F0 m pc ls [va_rf (r.map (fun t => a (20 + 15 * t)))])) →
      W p l e (rmm f n) s m args below meth c s.heap [] 0 0 Q (F0 m 0 ls [])) :
    CtQ l D a cA cT T y (Cond.code y cc maxL (some (.object "PrunedSlices$Table")) :: lw_all) (rmm f n) As g r g' := by
  refine Met.ofW (cc := cc) (maxL := maxL) (ret := some (.object "PrunedSlices$Table")) hy rfl ?_
  intro p e s m args below meth c s₁ B hml hv
  obtain ⟨rfl, hP, hK⟩ := hv
  have hr := B.returns
  have hlocks := B.notSynchronized
  have hl := lv_entry As (n := maxL) hn
  rw [lg_entry_eq]
  refine body p e s m As.toArray below meth c _ _ B.exec B.bytes hml (findClass_of_methodNamed B.named) (fun w hw => atoms_spec B.pre w (List.mem_cons_of_mem _ hw)) hK hP va_S.rf hl ?_
  intro H locs pc ls hdg hP1 hS1
  exact W.aret B.exec B.bytes hr (Or.inl ⟨_, rfl⟩) (va_rf_or _) (fun t ht hW => ⟨⟨_, (), rfl, rfl, by rw [← ht] at hP1; exact ⟨hP1, va_K.moved hW.alike hK⟩⟩, hS1.F ht⟩) hS1.2.2 hdg
end
