/-! MAKERS (constructors): from the one fresh cell a maker comes to a list of cells at addresses that it chooses. -/
def KK (D : va_G) (cA cT : ClassId) (U : State) : Prop := va_K D vwCl (TY cA cT) U ∧ va_AO RX5 U ∧ va_Nw (.methodLinkNest RX6 9 yX5_init RX6) U ∧ va_Nw (.methodLinkNest RX5 11 yX3_init RX6) U ∧ va_Nw (.methodLinkNest RX5 20 yX4_init RX6) U ∧ va_Nw (.methodLinkNest RX1 17 yX5_init RX6) U ∧ va_Nw (.methodLinkNest RX6 25 yX2_init RX6) U
theorem KK.same {D : va_G} {cA cT : ClassId} {u U : State} (h : u.vm = U.vm) (hk : KK D cA cT u) : KK D cA cT U := by
  obtain ⟨h1, h2, h3, h4, h5, h6, h7⟩ := hk
  have ha : u.vm.Alike U.vm := by rw [← h]; exact Vm.Alike.refl u.vm
  exact ⟨va_K.moved ha h1, va_AO.moved ha h2, va_Nw.same rfl h h3, va_Nw.same rfl h h4, va_Nw.same rfl h h5, va_Nw.same rfl h h6, va_Nw.same rfl h h7⟩
theorem KK.warm {D : va_G} {cA cT : ClassId} {s U : State} (hW : s.WarmedH U.vm) (hk : KK D cA cT s) : KK D cA cT U := by
  obtain ⟨h1, h2, h3, h4, h5, h6, h7⟩ := hk
  exact ⟨va_K.moved hW.alike h1, va_AO.moved hW.alike h2, va_Nw.warmM hW h3, va_Nw.warmM hW h4, va_Nw.warmM hW h5, va_Nw.warmM hW h6, va_Nw.warmM hW h7⟩
def An (q sz : Nat) : Nat → Prop := fun x => x = q ∨ sz ≤ x
def CtN (l : Launch) (D : va_G) (cA cT : ClassId) (y : MethodName) (ws : List Cond) (f n mc ms q : Nat) (As : List Value) (e0 : va_E) (res : (Nat → Nat) → va_W) : Prop :=
  ∀ sz : Nat, Met l y ws { frames := f, cells := mc, slots := ms, locals := n } (va_Pc (.ref q :: As) (fun U => U.heap.size = sz ∧ va_P D vwCl [(q, e0)] U.heap ∧ KK D cA cT U)) (va_Qv (fun (_ : Nat → Nat) => True) (fun α t => va_P D vwCl (res α) t.heap ∧ va_D (An q sz) (res α)) (An q sz)) mc ms (An q sz)
theorem CtN.of {l : Launch} {D : va_G} {cA cT : ClassId} {y : MethodName} {cc : ByteArray} {maxL f n mc ms q : Nat} {As : List Value} {e0 : va_E} {res : (Nat → Nat) → va_W} (hy : plainName y.cls = true) (hn : (lg_sl (.ref q :: As)).length ≤ maxL) (hnm : y.name = "<init>")
    (body : ∀ (p : Program) (e : Env) (s : State) (m : MethodId) (args : Array Value) (below : List Frame) (meth : Method) (c : Code) (Q : State → Prop) (ls : Array Slot), p.tables.exec = Jvm.exec → c.code = cc → c.maxLocals = maxL → s.vm.findClass y.cls = some m.cls → (∀ w ∈ lw_all, w.before args s = true) → KK D cA cT s → meth.name = "<init>" → va_P D vwCl [(q, e0)] s.heap → va_D (An q s.heap.size) [(q, e0)] → va_S (An q s.heap.size) s.heap s.heap [] → (∀ x, s.heap.size ≤ x → An q s.heap.size x) → lv_has ls maxL (lv_args 0 (.ref q :: As)) →
      (∀ (α : Nat → Nat) (H : Heap) (locs : List Loc) (pc : Nat) (ls : Array Slot), decode cc pc = .ok (.return_, 1) → va_P D vwCl (res α) H → va_D (An q s.heap.size) (res α) → va_S (An q s.heap.size) s.heap H locs → W p l e { frames := f, cells := mc, slots := ms, locals := n } s m args below meth c H locs mc ms Q (F0 m pc ls [])) →
      W p l e { frames := f, cells := mc, slots := ms, locals := n } s m args below meth c s.heap [] 0 0 Q (F0 m 0 ls [])) :
    CtN l D cA cT y (Cond.code y cc maxL none :: lw_all) f n mc ms q As e0 res := by
  intro sz
  refine Met.ofW (cc := cc) (maxL := maxL) (ret := none) hy rfl ?_
  intro p e s m args below meth c s₁ B hml hv
  obtain ⟨rfl, hsz, hP, hK⟩ := hv
  subst hsz
  have hr := B.returns
  have hlocks := B.notSynchronized
  have hl := lv_entry (.ref q :: As) (n := maxL) hn
  rw [lg_entry_eq]
  have hD : va_D (An q s.heap.size) [(q, e0)] := by
    refine ⟨fun i j p q' hp hq _ => ?_, fun k q' hq => ?_⟩
    · have h1 := (List.getElem?_eq_some_iff.mp hp).1
      have h2 := (List.getElem?_eq_some_iff.mp hq).1
      simp only [List.length_cons, List.length_nil] at h1 h2
      omega
    · have h1 := (List.getElem?_eq_some_iff.mp hq).1
      simp only [List.length_cons, List.length_nil] at h1
      have h0 : k = 0 := by omega
      subst h0
      cases hq
      exact Or.inl rfl
  refine body p e s m _ below meth c _ _ B.exec B.bytes hml (findClass_of_methodNamed B.named) (fun w hw => atoms_spec B.pre w (List.mem_cons_of_mem _ hw)) hK ((name_of_methodNamed B.named B.method).1.trans hnm) hP hD va_S.rf (fun x h => Or.inr h) hl ?_
  intro α H locs pc ls hdg hP1 hD1 hS1
  exact W.vret B.exec B.bytes hr (fun t ht hW => ⟨⟨α, rfl, trivial, by rw [← ht] at hP1; exact ⟨hP1, hD1⟩⟩, hS1.F ht⟩) hS1.2.2 hdg
section
variable {p : Program} {l : Launch} {e : Env} {R : Room} {s : State} {m : MethodId} {args : Array Value} {below : List Frame} {meth : Method} {c : Code} {H : Heap} {locs : List Loc} {cells slots : Nat} {Q : State → Prop}
variable {cc : ByteArray} {pc : Nat} {ls : Array Slot} {rest : List Value} {H0 : Heap}
variable {D : va_G} {cA cT : ClassId} {A : Nat → Prop} {ws pre : va_W}
theorem x_IN0 {q mc ms : Nat} {e0 : va_E} {res : (Nat → Nat) → va_W} {st0 : List Value} {a : Array Value} (hP : va_P D vwCl (pre ++ [(q, e0)]) H) (hD : va_D A (pre ++ [(q, e0)])) (hS : va_S A H0 H locs) (hA : ∀ x, H0.size ≤ x → A x)
    (hr : va_Run p l e R s m args below meth c H locs cells slots mc ms (F0 m pc ls st0) rest (va_Qv (fun (_ : Nat → Nat) => True) (fun α t => va_P D vwCl (res α) t.heap ∧ va_D (An q H.size) (res α)) (An q H.size) a) (An q H.size))
    (kk : ∀ (α : Nat → Nat) (H1 : Heap) (locs1 : List Loc), va_P D vwCl (pre ++ res α) H1 → va_D A (pre ++ res α) → va_S A H0 H1 locs1 → W p l e R s m args below meth c H1 locs1 (cells + mc) (slots + ms) Q (F0 m (pc + 3) ls rest)) : W p l e R s m args below meth c H locs cells slots Q (F0 m pc ls st0) := by
  have hq : (pre ++ [(q, e0)])[pre.length]? = some (q, e0) := by
    rw [List.getElem?_append_right (Nat.le_refl _), Nat.sub_self]; rfl
  have hAn : ∀ x, An q H.size x → A x := fun x h => by
    rcases h with rfl | h
    · exact hD.2 _ _ hq
    · exact hA x (Nat.le_trans hS.1 h)
  have hpre : ∀ (k : Nat) (z : Nat × va_E), pre[k]? = some z → (pre ++ [(q, e0)])[k]? = some z ∧ k < pre.length := fun k z hz => by
    have hl := (List.getElem?_eq_some_iff.mp hz).1
    exact ⟨by rw [List.getElem?_append_left hl]; exact hz, hl⟩
  have hout : ∀ (k : Nat) (z : Nat × va_E), pre[k]? = some z → z.1 < H.size ∧ ¬ An q H.size z.1 := fun k z hz => by
    obtain ⟨h1, h2⟩ := hpre k z hz
    have hlt := (hP k z h1).lt
    refine ⟨hlt, fun h => ?_⟩
    rcases h with h | h
    · have := hD.1 _ _ _ _ h1 hq h
      omega
    · omega
  refine va_callv hr hS (fun x _ h => hAn x h) hAn (fun α t H1 locs1 ht hvm hw hB hz1 hk1 hS1 => ?_)
  obtain ⟨hP1, hD1⟩ := hB
  rw [ht] at hP1
  have hPp : va_P D vwCl pre H := fun k z hz => hP k z (hpre k z hz).1
  have hDp : va_D A pre := ⟨fun i j u v hu hv h => hD.1 i j u v (hpre i u hu).1 (hpre j v hv).1 h, fun k z hz => hD.2 k z (hpre k z hz).1⟩
  refine kk α H1 locs1 ((hPp.kept (fun k z hz => hk1 z.1 (hout k z hz).1 (hout k z hz).2)).app hP1) (hDp.app (hD1.weaken (fun k z _ h => hAn _ h)) (fun i j u v hu hv h => ?_)) hS1
  have h2 := hD1.2 j v hv
  rw [← h] at h2
  exact (hout i u hu).2 h2
theorem x_newa {n : Int32} {N' : Nat} (hx : p.tables.exec = Jvm.exec) (hb : c.code = cc) (hts : ∀ w ∈ lw_all, w.before args s = true) (harr : Cond.arrayClass .int ∈ lw_all) (hKK : KK D cA cT s) (hP : va_P D vwCl ws H) (hD : va_D A ws) (hS : va_S A H0 H locs) (hA : ∀ q, H0.size ≤ q → A q)
    (hn : ¬ n < 0) (hN : n.toNatClampNeg = N') (hbytes : N' * 4 ≤ 536870912) (hcells : cells + 1 ≤ R.cells) (hslots : slots + N' ≤ R.slots) (hdg : decode cc pc = .ok (.newarray .int, 2))
    (kk : ∀ (q : Nat) (H1 : Heap), va_P D vwCl (ws ++ [(q, .inl (cA, N', .inl (fun _ => 0)))]) H1 → va_D A (ws ++ [(q, .inl (cA, N', .inl (fun _ => 0)))]) → va_S A H0 H1 locs → W p l e R s m args below meth c H1 locs (cells + 1) (slots + N') Q (F0 m (pc + 2) ls (.ref q :: rest))) : W p l e R s m args below meth c H locs cells slots Q (F0 m pc ls (.int n :: rest)) := by
  refine va_newa (atype := .int) (ty := .int) (a0 := (N', .inl (fun _ => 0))) hx hb (hts _ harr) rfl hKK.1 hP hD hS hA (fun _ => rfl) hn hN hbytes hcells hslots hdg (fun q cB H1 hK1 hP1 hD1 hS1 => ?_)
  have h1 : s.vm.findClass ("[" ++ FieldType.int.toString) = some cA := (hKK.1.2 0 (cA, .int) rfl).2
  have h2 : s.vm.findClass ("[" ++ FieldType.int.toString) = some cB := (hK1.2 2 (cB, .int) rfl).2
  have e1 : cA = cB := Option.some.inj (h1.symm.trans h2)
  subst e1
  exact kk q H1 hP1 hD1 hS1
theorem x_newT {n : Int32} {N' : Nat} (hx : p.tables.exec = Jvm.exec) (hb : c.code = cc) {own : String} {index : Nat} (hts : ∀ w ∈ lw_all, w.before args s = true) (hown : s.vm.findClass own = some m.cls) (hclink : Cond.classLink own index RX5 ∈ lw_all) (hKK : KK D cA cT s) (hP : va_P D vwCl ws H) (hD : va_D A ws) (hS : va_S A H0 H locs) (hA : ∀ q, H0.size ≤ q → A q)
    (hn : ¬ n < 0) (hN : n.toNatClampNeg = N') (hbytes : N' * 4 ≤ 536870912) (hcells : cells + 1 ≤ R.cells) (hslots : slots + N' ≤ R.slots) (hdg : decode cc pc = .ok (.anewarray index, 3))
    (kk : ∀ (q : Nat) (H1 : Heap), va_P D vwCl (ws ++ [(q, .inl (cT, N', .inr (.inr (.inr (.inr (fun _ => none))))))]) H1 → va_D A (ws ++ [(q, .inl (cT, N', .inr (.inr (.inr (.inr (fun _ => none))))))]) → va_S A H0 H1 locs → W p l e R s m args below meth c H1 locs (cells + 1) (slots + N') Q (F0 m (pc + 3) ls (.ref q :: rest))) : W p l e R s m args below meth c H locs cells slots Q (F0 m pc ls (.int n :: rest)) := by
  refine va_newq hx hb hown (hts _ hclink) hKK.2.1 hKK.1 hP hD hS hA hn hN hbytes hcells hslots hdg (fun q cB H1 hK1 hP1 hD1 hS1 => ?_)
  have h1 : s.vm.findClass ("[" ++ (FieldType.object RX5).toString) = some cT := by
    obtain ⟨kA, comp, -, -, -, h⟩ := (hKK.1.2 1 (cT, .object "PrunedSlices$Table") rfl).2
    exact h
  have h2 : s.vm.findClass ("[" ++ (FieldType.object RX5).toString) = some cB := by
    obtain ⟨kA, comp, -, -, -, h⟩ := (hK1.2 2 (cB, .object RX5) rfl).2
    exact h
  have e1 : cT = cB := Option.some.inj (h1.symm.trans h2)
  subst e1
  exact kk q H1 hP1 hD1 hS1
theorem kk_blind {q sz : Nat} {e0 : va_E} {As : List Value} : FrameBlind (va_Pc As (fun U => U.heap.size = sz ∧ va_P D vwCl [(q, e0)] U.heap ∧ KK D cA cT U)) := fun a' U g' mk h => ⟨h.1, h.2.1, h.2.2.1, KK.same (u := U) (U := U.calling g' mk a') rfl h.2.2.2⟩
/-- a maker is called by a link of its own class' words -/
theorem x_INp (hx : p.tables.exec = Jvm.exec) (hb : c.code = cc) {nL : Nat} (hml : c.maxLocals = nL) {own : String} (hown : s.vm.findClass own = some m.cls) (hts : ∀ w ∈ lw_all, w.before args s = true) (hKK : KK D cA cT s) {y : MethodName} {bytes : ByteArray} {maxL f n mc ms q index : Nat} {As : List Value} {e0 : va_E} {res : (Nat → Nat) → va_W}
    (hP : va_P D vwCl (pre ++ [(q, e0)]) H) (hD : va_D A (pre ++ [(q, e0)])) (hS : va_S A H0 H locs) (hA : ∀ x, H0.size ≤ x → A x) (hM : CtN l D cA cT y (Cond.code y bytes maxL none :: lw_all) f n mc ms q As e0 res)
    (h1 : Cond.methodLink own index y ∈ lw_all) (h2 : Cond.instanceMethod y ∈ lw_all) (h4 : Cond.initialized y.cls ∈ lw_all) (h5 : Cond.code y bytes maxL none ∈ lw_all) (hnm : y.name = "<init>")
    (hd : y.cls ≠ "java/lang/invoke/MethodHandle" ∧ y.cls ≠ "java/lang/invoke/VarHandle" ∧ (parseMethodDescriptor y.desc).map (fun d => d.parameters.length) = some As.length) (hR : f + 1 ≤ R.frames ∧ 8 + (maxL + 11) + n ≤ R.locals) {st : List Value} (rest : List Value) (hst : st = As.reverse ++ .ref q :: rest) (hrest : (rest.map fun v => v.category).sum ≤ 8) (hsz : ls.size = nL) (hf : cells + mc ≤ R.cells ∧ slots + ms ≤ R.slots) (hdg : decode cc pc = .ok (.invokespecial index, 3))
    (kk : ∀ (α : Nat → Nat) (H1 : Heap) (locs1 : List Loc), va_P D vwCl (pre ++ res α) H1 → va_D A (pre ++ res α) → va_S A H0 H1 locs1 → W p l e R s m args below meth c H1 locs1 (cells + mc) (slots + ms) Q (F0 m (pc + 3) ls rest)) : W p l e R s m args below meth c H locs cells slots Q (F0 m pc ls st) := by
  subst hst
  have hPc : va_P D vwCl [(q, e0)] H := fun k z hz => by
    have h1 := (List.getElem?_eq_some_iff.mp hz).1
    simp only [List.length_cons, List.length_nil] at h1
    have h0 : k = 0 := by omega
    subst h0
    refine hP pre.length z ?_
    rw [List.getElem?_append_right (Nat.le_refl _), Nat.sub_self]; exact hz
  exact x_IN0 hP hD hS hA (va_runI (As := As) (rest := rest) ⟨hx, hb, hml, hown, hts⟩ (hM H.size) (cwI As.length hts (fun w hw => lw_gg w ((List.mem_cons.mp hw).elim (fun h => h ▸ h5) id)) rfl rfl rfl (hts _ h4) (hts _ h1) (hts _ h2) hnm hd hR) ⟨kk_blind, fun U hU hW => ⟨rfl, by rw [hU], by rw [hU]; exact hPc, hKK.warm hW⟩⟩ rfl rfl hsz rfl (lv_room hrest) hdg hf) kk
/-- a maker is called by a link of a nest mate -/
theorem x_INn (hx : p.tables.exec = Jvm.exec) (hb : c.code = cc) {nL : Nat} (hml : c.maxLocals = nL) {own host : String} (hown : s.vm.findClass own = some m.cls) (hts : ∀ w ∈ lw_all, w.before args s = true) (hKK : KK D cA cT s) {y : MethodName} {bytes : ByteArray} {maxL f n mc ms q index : Nat} {As : List Value} {e0 : va_E} {res : (Nat → Nat) → va_W}
    (hP : va_P D vwCl (pre ++ [(q, e0)]) H) (hD : va_D A (pre ++ [(q, e0)])) (hS : va_S A H0 H locs) (hA : ∀ x, H0.size ≤ x → A x) (hM : CtN l D cA cT y (Cond.code y bytes maxL none :: lw_all) f n mc ms q As e0 res)
    (h1 : va_Nw (.methodLinkNest own index y host) s) (h2 : Cond.instanceMethod y ∈ lw_all) (h4 : Cond.initialized y.cls ∈ lw_all) (h5 : Cond.code y bytes maxL none ∈ lw_all) (hnm : y.name = "<init>")
    (hd : y.cls ≠ "java/lang/invoke/MethodHandle" ∧ y.cls ≠ "java/lang/invoke/VarHandle" ∧ (parseMethodDescriptor y.desc).map (fun d => d.parameters.length) = some As.length) (hR : f + 1 ≤ R.frames ∧ 8 + (maxL + 11) + n ≤ R.locals) {st : List Value} (rest : List Value) (hst : st = As.reverse ++ .ref q :: rest) (hrest : (rest.map fun v => v.category).sum ≤ 8) (hsz : ls.size = nL) (hf : cells + mc ≤ R.cells ∧ slots + ms ≤ R.slots) (hdg : decode cc pc = .ok (.invokespecial index, 3))
    (kk : ∀ (α : Nat → Nat) (H1 : Heap) (locs1 : List Loc), va_P D vwCl (pre ++ res α) H1 → va_D A (pre ++ res α) → va_S A H0 H1 locs1 → W p l e R s m args below meth c H1 locs1 (cells + mc) (slots + ms) Q (F0 m (pc + 3) ls rest)) : W p l e R s m args below meth c H locs cells slots Q (F0 m pc ls st) := by
  subst hst
  have hPc : va_P D vwCl [(q, e0)] H := fun k z hz => by
    have h1 := (List.getElem?_eq_some_iff.mp hz).1
    simp only [List.length_cons, List.length_nil] at h1
    have h0 : k = 0 := by omega
    subst h0
    refine hP pre.length z ?_
    rw [List.getElem?_append_right (Nat.le_refl _), Nat.sub_self]; exact hz
  exact x_IN0 hP hD hS hA (va_runIN (As := As) (rest := rest) ⟨hx, hb, hml, hown, hts⟩ (hM H.size) ⟨va_cnB As.length hts (fun w hw => lw_gg w ((List.mem_cons.mp hw).elim (fun h => h ▸ h5) id)) rfl rfl rfl h1 (hts _ h4) hd hR, hnm, hts _ h2⟩ ⟨kk_blind, fun U hU hW => ⟨rfl, by rw [hU], by rw [hU]; exact hPc, hKK.warm hW⟩⟩ rfl rfl hsz rfl (lv_room hrest) hdg hf) kk
end
