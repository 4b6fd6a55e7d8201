/-! THE LAW over the two worlds -/
theorem dr_alike {c x z : Int32} {r r' : UInt64} (hn : ∀ q : UInt64, isNaN64 q = true → isNaN64 (FP.dsub FP.dconst1 q) = true) (h : DR c x z r) (h' : DR c x z r') : alike64 r r' = true := by
  have hrefl : ∀ q : UInt64, alike64 q q = true := fun q => by simp [alike64]
  have hcase : ∀ p q : UInt64, alike64 p q = true → p = q ∨ (isNaN64 p = true ∧ isNaN64 q = true) := fun p q h => by
    simpa [alike64] using h
  have hmk : ∀ p q : UInt64, isNaN64 p = true → isNaN64 q = true → alike64 p q = true := fun p q h1 h2 => by simp [alike64, h1, h2]
  rcases h with ⟨rfl, rfl⟩ | ⟨rfl, rfl⟩ | ⟨rfl, q, h1, h2⟩
  · rcases h' with ⟨-, rfl⟩ | ⟨h, -⟩ | ⟨h, -⟩
    · exact hrefl _
    · exact absurd h (by decide)
    · exact absurd h (by decide)
  · rcases h' with ⟨h, -⟩ | ⟨-, rfl⟩ | ⟨h, -⟩
    · exact absurd h (by decide)
    · exact hrefl _
    · exact absurd h (by decide)
  · rcases h' with ⟨h, -⟩ | ⟨h, -⟩ | ⟨-, q', h3, h4⟩
    · exact absurd h (by decide)
    · exact absurd h (by decide)
    · by_cases hX : isNaN64 (FP.ddiv (FP.i2d x) (FP.i2d z)) = true
      · have hq : isNaN64 q = true := by
          rcases hcase _ _ h1 with rfl | h
          · exact hX
          · exact h.1
        have hq' : isNaN64 q' = true := by
          rcases hcase _ _ h3 with rfl | h
          · exact hX
          · exact h.1
        have hr : isNaN64 r = true := by
          rcases hcase _ _ h2 with rfl | h
          · exact hn _ hq
          · exact h.1
        have hr' : isNaN64 r' = true := by
          rcases hcase _ _ h4 with rfl | h
          · exact hn _ hq'
          · exact h.1
        exact hmk _ _ hr hr'
      · have e1 : q = FP.ddiv (FP.i2d x) (FP.i2d z) := by
          rcases hcase _ _ h1 with h | h
          · exact h
          · exact absurd h.2 hX
        have e2 : q' = FP.ddiv (FP.i2d x) (FP.i2d z) := by
          rcases hcase _ _ h3 with h | h
          · exact h
          · exact absurd h.2 hX
        subst e1; subst e2
        rcases hcase _ _ h2 with rfl | h
        · rcases hcase _ _ h4 with rfl | h'
          · exact hrefl _
          · exact hmk _ _ h'.2 h'.1
        · rcases hcase _ _ h4 with rfl | h'
          · exact hmk _ _ h.1 h.2
          · exact hmk _ _ h.1 h'.1
section
variable {p : Program} {l : Launch} {e : Env} {R : Room} {s : State} {m : MethodId} {args : Array Value} {below : List Frame} {meth : Method} {c : Code} {H : Heap} {locs : List Loc} {cells slots : Nat} {Q : State → Prop}
variable {cc : ByteArray} {pc : Nat} {ls : Array Slot} {rest : List Value} {H0 : Heap}
variable {D : va_G} {a : Nat → Nat} {cA cT : ClassId} {T : List LE} {g g' : MG} {A : Nat → Prop} {ws2 : va_W}
theorem y_VI (hx : p.tables.exec = Jvm.exec) (hb : c.code = cc) {nL : Nat} (hml : c.maxLocals = nL) {own C : String} (hown : s.vm.findClass own = some m.cls) (hts : ∀ w ∈ lw_all, w.before args s = true) (hK : va_K D vwCl (TY cA cT) s) (hP : WP D a cA cT T g H) (hS : va_S A H0 H locs) (hAA : ∀ q, AA a T q → A q) (hP2 : va_P D vwCl ws2 H) (hap : ∀ (k : Nat) (z : Nat × va_E), ws2[k]? = some z → ¬ AA a T z.1) {y : MethodName} {bytes : ByteArray} {maxL f n index : Nat} {ret : Option FieldType} {As : List Value} {r : Int32} {k ci N : Nat} {F : u_T} {fs : List (Option Nat)}
    (hM : CtI l D a cA cT T y (Cond.code y bytes maxL ret :: lw_all) (rmm f n) (.ref (a k) :: As) g r g') (hT : T[k]? = some (.inl (ci, fs))) (hc : vwCl[ci]? = some (C, F, N)) (hg : GoodIn lw_all (wsV own index C y (Cond.code y bytes maxL ret :: lw_all)))
    (hd : y.cls = C ∧ y.cls ≠ "java/lang/invoke/MethodHandle" ∧ y.cls ≠ "java/lang/invoke/VarHandle" ∧ (parseMethodDescriptor y.desc).map (fun d => d.parameters.length) = some As.length) (hR : f + 1 ≤ R.frames ∧ 8 + (maxL + 11) + n ≤ R.locals) {st : List Value} (rest : List Value) (hst : st = As.reverse ++ .ref (a k) :: rest) (hrest : (rest.map fun v => v.category).sum ≤ 8) (hsz : ls.size = nL) (hf : cells ≤ R.cells ∧ slots ≤ R.slots) (hdg : decode cc pc = .ok (.invokevirtual index, 3))
    (kk : ∀ (H1 : Heap) (locs1 : List Loc), WP D a cA cT T g' H1 → va_P D vwCl ws2 H1 → va_S A H0 H1 locs1 → W p l e R s m args below meth c H1 locs1 cells slots Q (F0 m (pc + 3) ls (.int r :: rest))) : W p l e R s m args below meth c H locs cells slots Q (F0 m pc ls st) := by
  subst hst
  refine va_calli (va_runV (As := As) (rest := rest) ⟨hx, hb, hml, hown, hts⟩ hM (cwV As.length hts hg rfl rfl rfl hd hR) ⟨wd_blind, va_recv hK hP hc (wl_get0 hT), fun U hU hW => ⟨rfl, by rw [hU]; exact hP, va_K.moved hW.alike hK⟩⟩ rfl rfl hsz rfl (lv_room hrest) hdg hf) hS (fun q _ h => hAA q h) hAA (fun x u t H1 locs1 ht hvm hw hB hz1 hk1 hS1 => ?_)
  subst hw
  obtain ⟨hP1, -⟩ := hB
  rw [ht] at hP1
  exact kk H1 locs1 hP1 (hP2.kept (fun k z hz => hk1 z.1 ((hP2 k z hz).lt) (hap k z hz))) hS1
theorem y_VD {d0 : Drawn} (hd0 : s.drawn.sameBut d0 lw_cs) (hx : p.tables.exec = Jvm.exec) (hb : c.code = cc) {nL : Nat} (hml : c.maxLocals = nL) {own C : String} (hown : s.vm.findClass own = some m.cls) (hts : ∀ w ∈ lw_all, w.before args s = true) (hK : va_K D vwCl (TY cA cT) s) (hP : WP D a cA cT T g H) (hS : va_S A H0 H locs) (hAA : ∀ q, AA a T q → A q) (hP2 : va_P D vwCl ws2 H) (hap : ∀ (k : Nat) (z : Nat × va_E), ws2[k]? = some z → ¬ AA a T z.1) {y : MethodName} {bytes : ByteArray} {maxL f n index : Nat} {ret : Option FieldType} {As : List Value} {r : Int32 × Int32 × Int32} {k ci N : Nat} {F : u_T} {fs : List (Option Nat)}
    (hM : CtD l D a cA cT T y (Cond.code y bytes maxL ret :: lw_all) (rmm f n) (.ref (a k) :: As) g r g') (hT : T[k]? = some (.inl (ci, fs))) (hc : vwCl[ci]? = some (C, F, N)) (hg : GoodIn lw_all (wsV own index C y (Cond.code y bytes maxL ret :: lw_all)))
    (hd : y.cls = C ∧ y.cls ≠ "java/lang/invoke/MethodHandle" ∧ y.cls ≠ "java/lang/invoke/VarHandle" ∧ (parseMethodDescriptor y.desc).map (fun d => d.parameters.length) = some As.length) (hR : f + 1 ≤ R.frames ∧ 8 + (maxL + 11) + n ≤ R.locals) {st : List Value} (rest : List Value) (hst : st = As.reverse ++ .ref (a k) :: rest) (hrest : (rest.map fun v => v.category).sum ≤ 8) (hsz : ls.size = nL) (hf : cells ≤ R.cells ∧ slots ≤ R.slots) (hdg : decode cc pc = .ok (.invokevirtual index, 3))
    (kk : ∀ (x : UInt64) (d1 : Drawn) (H1 : Heap) (locs1 : List Loc), DR r.1 r.2.1 r.2.2 x → s.drawn.sameBut d1 lw_cs → WP D a cA cT T g' H1 → va_P D vwCl ws2 H1 → va_S A H0 H1 locs1 → W p l e R (s.setDrawn d1) m args below meth c H1 locs1 cells slots Q (F0 m (pc + 3) ls (.double x :: rest))) : W p l e R (s.setDrawn d0) m args below meth c H locs cells slots Q (F0 m pc ls st) := by
  subst hst
  have hts' := dr_words hts d0
  have hK' : va_K D vwCl (TY cA cT) (s.setDrawn d0) := hK
  refine va_calldD hd0 (va_runV_D (As := As) (rest := rest) ⟨hx, hb, hml, hown, hts'⟩ hM (cwV As.length hts' hg rfl rfl rfl hd hR) ⟨wd_blind, va_recv hK' hP hc (wl_get0 hT), fun U hU hW => ⟨rfl, by rw [hU]; exact hP, va_K.moved hW.alike hK'⟩⟩ rfl rfl hsz rfl (lv_room hrest) hdg hf) hS (fun q _ h => hAA q h) hAA (fun x u t H1 locs1 ht hvm hw hB hz1 hk1 hS1 d1 hd1 => ?_)
  obtain ⟨hP1, -⟩ := hB
  rw [ht] at hP1
  exact kk x d1 H1 locs1 hw hd1 hP1 (hP2.kept (fun k z hz => hk1 z.1 ((hP2 k z hz).lt) (hap k z hz))) hS1
end
/-- what stays through the law's loop -/
def LW (p : Program) (s : State) (m : MethodId) (meth : Method) (c : Code) (b L : Nat) (xs : Nat → Int32) (D : va_G) (a a2 : Nat → Nat) (cA cT : ClassId) : Prop :=
  lw_At p s m meth c b L xs ∧ va_K D vwCl (TY cA cT) s ∧ WI a TC ∧ WI a2 TM ∧ (∀ q, AA a TC q → ¬ AA a2 TM q) ∧ (∀ q, AA a TC q → s.heap.size ≤ q) ∧ (∀ q, AA a2 TM q → s.heap.size ≤ q) ∧ L ≤ 1536
theorem lw_ap {D : va_G} {a : Nat → Nat} {cA cT : ClassId} {T : List LE} {g : MG} {B : Nat → Prop} (h : ∀ q, AA a T q → ¬ B q) : ∀ (k : Nat) (z : Nat × va_E), (wl a cA cT g 0 T)[k]? = some z → ¬ B z.1 := fun k z hz => by
  obtain ⟨h1, h2⟩ := wl_inv hz
  exact h _ ⟨k, h1, h2.symm⟩
theorem dcmp_alike {r r' : UInt64} (hc : ∀ q : UInt64, isNaN64 q = true → FP.dcmp q q = none) (hcn : ∀ q q' : UInt64, isNaN64 q = true → isNaN64 q' = true → FP.dcmp q q' = none) (he : ∀ q : UInt64, isNaN64 q = false → FP.dcmp q q = some .eq) (h : alike64 r r' = true) : FP.dcmp r r' = some .eq ∨ (FP.dcmp r r' = none ∧ FP.dcmp r r = none ∧ FP.dcmp r' r' = none) := by
  have hcase : r = r' ∨ (isNaN64 r = true ∧ isNaN64 r' = true) := by simpa [alike64] using h
  rcases hcase with rfl | ⟨h1, h2⟩
  · cases hq : isNaN64 r with
    | false => exact Or.inl (he r hq)
    | true => exact Or.inr ⟨hc r hq, hc r hq, hc r hq⟩
  · exact Or.inr ⟨hcn _ _ h1 h2, hc _ h1, hc _ h2⟩
