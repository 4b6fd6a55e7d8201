section
-- ===== PART A: goes FIRST, ahead of the names: the tables' words, and 'selects' of the private methods out of them =====
/-- a private method of a class that the tables say can be made, by its rows of tables_1 -/
def lw_okq (q : MethodName × Nat) : Prop := (q.1.cls ≠ "java/lang/invoke/MethodHandle" ∧ q.1.cls ≠ "java/lang/invoke/VarHandle") ∧ Cond.instantiable q.1.cls q.2 ∈ tables_1 ∧ Cond.privateMethod q.1 ∈ tables_1 ∧ Cond.instanceMethod q.1 ∈ tables_1
theorem lw_p0 : lw_okq (⟨"PrunedSlices$Rows", "liesWithKey", "(IIII)Z"⟩, 4) := ⟨⟨by decide +kernel, by decide +kernel⟩, List.mem_of_getElem? (i := 26) (by decide +kernel), List.mem_of_getElem? (i := 242) (by decide +kernel), List.mem_of_getElem? (i := 243) (by decide +kernel)⟩
theorem lw_p1 : lw_okq (⟨"PrunedSlices$History", "putOldestLast", "()V"⟩, 4) := ⟨⟨by decide +kernel, by decide +kernel⟩, List.mem_of_getElem? (i := 105) (by decide +kernel), List.mem_of_getElem? (i := 259) (by decide +kernel), List.mem_of_getElem? (i := 260) (by decide +kernel)⟩
theorem lw_p2 : lw_okq (⟨"PrunedSlices$History", "stateAt", "(I)LPrunedSlices$Table;"⟩, 4) := ⟨⟨by decide +kernel, by decide +kernel⟩, List.mem_of_getElem? (i := 105) (by decide +kernel), List.mem_of_getElem? (i := 263) (by decide +kernel), List.mem_of_getElem? (i := 264) (by decide +kernel)⟩
theorem lw_p3 : lw_okq (⟨"PrunedSlices$Slices", "copyEntry", "(II)V"⟩, 5) := ⟨⟨by decide +kernel, by decide +kernel⟩, List.mem_of_getElem? (i := 58) (by decide +kernel), List.mem_of_getElem? (i := 344) (by decide +kernel), List.mem_of_getElem? (i := 345) (by decide +kernel)⟩
theorem lw_p4 : lw_okq (⟨"PrunedSlices", "straysFit", "()Z"⟩, 5) := ⟨⟨by decide +kernel, by decide +kernel⟩, List.mem_of_getElem? (i := 12) (by decide +kernel), List.mem_of_getElem? (i := 465) (by decide +kernel), List.mem_of_getElem? (i := 466) (by decide +kernel)⟩
theorem lw_p5 : lw_okq (⟨"PrunedSlices$Question", "isAllowed", "(C)Z"⟩, 14) := ⟨⟨by decide +kernel, by decide +kernel⟩, List.mem_of_getElem? (i := 130) (by decide +kernel), List.mem_of_getElem? (i := 493) (by decide +kernel), List.mem_of_getElem? (i := 494) (by decide +kernel)⟩
theorem lw_p6 : lw_okq (⟨"PrunedSlices$Question", "startsTest", "(C)Z"⟩, 14) := ⟨⟨by decide +kernel, by decide +kernel⟩, List.mem_of_getElem? (i := 130) (by decide +kernel), List.mem_of_getElem? (i := 497) (by decide +kernel), List.mem_of_getElem? (i := 498) (by decide +kernel)⟩
theorem lw_p7 : lw_okq (⟨"PrunedSlices$Question", "addToken", "(CI)V"⟩, 14) := ⟨⟨by decide +kernel, by decide +kernel⟩, List.mem_of_getElem? (i := 130) (by decide +kernel), List.mem_of_getElem? (i := 501) (by decide +kernel), List.mem_of_getElem? (i := 502) (by decide +kernel)⟩
theorem lw_p8 : lw_okq (⟨"PrunedSlices$Question", "isSign", "(C)Z"⟩, 14) := ⟨⟨by decide +kernel, by decide +kernel⟩, List.mem_of_getElem? (i := 130) (by decide +kernel), List.mem_of_getElem? (i := 506) (by decide +kernel), List.mem_of_getElem? (i := 507) (by decide +kernel)⟩
theorem lw_p9 : lw_okq (⟨"PrunedSlices$Question", "isMinus", "(C)Z"⟩, 14) := ⟨⟨by decide +kernel, by decide +kernel⟩, List.mem_of_getElem? (i := 130) (by decide +kernel), List.mem_of_getElem? (i := 510) (by decide +kernel), List.mem_of_getElem? (i := 511) (by decide +kernel)⟩
theorem lw_p10 : lw_okq (⟨"PrunedSlices$Question", "isFirstDigit", "(C)Z"⟩, 14) := ⟨⟨by decide +kernel, by decide +kernel⟩, List.mem_of_getElem? (i := 130) (by decide +kernel), List.mem_of_getElem? (i := 514) (by decide +kernel), List.mem_of_getElem? (i := 515) (by decide +kernel)⟩
theorem lw_p11 : lw_okq (⟨"PrunedSlices$Question", "setDigits", "(I)V"⟩, 14) := ⟨⟨by decide +kernel, by decide +kernel⟩, List.mem_of_getElem? (i := 130) (by decide +kernel), List.mem_of_getElem? (i := 518) (by decide +kernel), List.mem_of_getElem? (i := 519) (by decide +kernel)⟩
theorem lw_p12 : lw_okq (⟨"PrunedSlices$Question", "isNextDigit", "(C)Z"⟩, 14) := ⟨⟨by decide +kernel, by decide +kernel⟩, List.mem_of_getElem? (i := 130) (by decide +kernel), List.mem_of_getElem? (i := 522) (by decide +kernel), List.mem_of_getElem? (i := 523) (by decide +kernel)⟩
theorem lw_p13 : lw_okq (⟨"PrunedSlices$Question", "followsTest", "(C)Z"⟩, 14) := ⟨⟨by decide +kernel, by decide +kernel⟩, List.mem_of_getElem? (i := 130) (by decide +kernel), List.mem_of_getElem? (i := 526) (by decide +kernel), List.mem_of_getElem? (i := 527) (by decide +kernel)⟩
theorem lw_p14 : lw_okq (⟨"PrunedSlices", "isPlace", "(I)Z"⟩, 5) := ⟨⟨by decide +kernel, by decide +kernel⟩, List.mem_of_getElem? (i := 12) (by decide +kernel), List.mem_of_getElem? (i := 579) (by decide +kernel), List.mem_of_getElem? (i := 580) (by decide +kernel)⟩
theorem lw_p15 : lw_okq (⟨"PrunedSlices", "keyOfRanked", "(II)I"⟩, 5) := ⟨⟨by decide +kernel, by decide +kernel⟩, List.mem_of_getElem? (i := 12) (by decide +kernel), List.mem_of_getElem? (i := 583) (by decide +kernel), List.mem_of_getElem? (i := 584) (by decide +kernel)⟩
def lw_privs_1 : List (MethodName × Nat) := [(⟨"PrunedSlices$Rows", "liesWithKey", "(IIII)Z"⟩, 4), (⟨"PrunedSlices$History", "putOldestLast", "()V"⟩, 4), (⟨"PrunedSlices$History", "stateAt", "(I)LPrunedSlices$Table;"⟩, 4), (⟨"PrunedSlices$Slices", "copyEntry", "(II)V"⟩, 5), (⟨"PrunedSlices", "straysFit", "()Z"⟩, 5), (⟨"PrunedSlices$Question", "isAllowed", "(C)Z"⟩, 14), (⟨"PrunedSlices$Question", "startsTest", "(C)Z"⟩, 14), (⟨"PrunedSlices$Question", "addToken", "(CI)V"⟩, 14), (⟨"PrunedSlices$Question", "isSign", "(C)Z"⟩, 14), (⟨"PrunedSlices$Question", "isMinus", "(C)Z"⟩, 14), (⟨"PrunedSlices$Question", "isFirstDigit", "(C)Z"⟩, 14), (⟨"PrunedSlices$Question", "setDigits", "(I)V"⟩, 14), (⟨"PrunedSlices$Question", "isNextDigit", "(C)Z"⟩, 14), (⟨"PrunedSlices$Question", "followsTest", "(C)Z"⟩, 14), (⟨"PrunedSlices", "isPlace", "(I)Z"⟩, 5), (⟨"PrunedSlices", "keyOfRanked", "(II)I"⟩, 5)]
theorem lw_r1 : ∀ q ∈ lw_privs_1, lw_okq q := List.forall_mem_cons.mpr ⟨lw_p0, List.forall_mem_cons.mpr ⟨lw_p1, List.forall_mem_cons.mpr ⟨lw_p2, List.forall_mem_cons.mpr ⟨lw_p3, List.forall_mem_cons.mpr ⟨lw_p4, List.forall_mem_cons.mpr ⟨lw_p5, List.forall_mem_cons.mpr ⟨lw_p6, List.forall_mem_cons.mpr ⟨lw_p7, List.forall_mem_cons.mpr ⟨lw_p8, List.forall_mem_cons.mpr ⟨lw_p9, List.forall_mem_cons.mpr ⟨lw_p10, List.forall_mem_cons.mpr ⟨lw_p11, List.forall_mem_cons.mpr ⟨lw_p12, List.forall_mem_cons.mpr ⟨lw_p13, List.forall_mem_cons.mpr ⟨lw_p14, List.forall_mem_cons.mpr ⟨lw_p15, fun _ h => absurd h List.not_mem_nil⟩⟩⟩⟩⟩⟩⟩⟩⟩⟩⟩⟩⟩⟩⟩⟩
theorem lw_p16 : lw_okq (⟨"PrunedSlices$Rows", "amountAhead", "(II)I"⟩, 4) := ⟨⟨by decide +kernel, by decide +kernel⟩, List.mem_of_getElem? (i := 26) (by decide +kernel), List.mem_of_getElem? (i := 591) (by decide +kernel), List.mem_of_getElem? (i := 592) (by decide +kernel)⟩
theorem lw_p17 : lw_okq (⟨"PrunedSlices", "markLooked", "(I)V"⟩, 5) := ⟨⟨by decide +kernel, by decide +kernel⟩, List.mem_of_getElem? (i := 12) (by decide +kernel), List.mem_of_getElem? (i := 653) (by decide +kernel), List.mem_of_getElem? (i := 654) (by decide +kernel)⟩
theorem lw_p18 : lw_okq (⟨"PrunedSlices", "sliceMayHold", "(II)Z"⟩, 5) := ⟨⟨by decide +kernel, by decide +kernel⟩, List.mem_of_getElem? (i := 12) (by decide +kernel), List.mem_of_getElem? (i := 657) (by decide +kernel), List.mem_of_getElem? (i := 658) (by decide +kernel)⟩
theorem lw_p19 : lw_okq (⟨"PrunedSlices$Question", "startDepth", "(I)V"⟩, 14) := ⟨⟨by decide +kernel, by decide +kernel⟩, List.mem_of_getElem? (i := 130) (by decide +kernel), List.mem_of_getElem? (i := 665) (by decide +kernel), List.mem_of_getElem? (i := 666) (by decide +kernel)⟩
theorem lw_p20 : lw_okq (⟨"PrunedSlices$Question", "testTruth", "(III)I"⟩, 14) := ⟨⟨by decide +kernel, by decide +kernel⟩, List.mem_of_getElem? (i := 130) (by decide +kernel), List.mem_of_getElem? (i := 670) (by decide +kernel), List.mem_of_getElem? (i := 671) (by decide +kernel)⟩
theorem lw_p21 : lw_okq (⟨"PrunedSlices$Question", "addTruth", "(II)V"⟩, 14) := ⟨⟨by decide +kernel, by decide +kernel⟩, List.mem_of_getElem? (i := 130) (by decide +kernel), List.mem_of_getElem? (i := 677) (by decide +kernel), List.mem_of_getElem? (i := 678) (by decide +kernel)⟩
theorem lw_p22 : lw_okq (⟨"PrunedSlices$Question", "endPart", "(I)V"⟩, 14) := ⟨⟨by decide +kernel, by decide +kernel⟩, List.mem_of_getElem? (i := 130) (by decide +kernel), List.mem_of_getElem? (i := 682) (by decide +kernel), List.mem_of_getElem? (i := 683) (by decide +kernel)⟩
theorem lw_p23 : lw_okq (⟨"PrunedSlices$Question", "keyMayHold", "(III)Z"⟩, 14) := ⟨⟨by decide +kernel, by decide +kernel⟩, List.mem_of_getElem? (i := 130) (by decide +kernel), List.mem_of_getElem? (i := 691) (by decide +kernel), List.mem_of_getElem? (i := 692) (by decide +kernel)⟩
theorem lw_p24 : lw_okq (⟨"PrunedSlices", "someFreeKeyMayHold", "()Z"⟩, 5) := ⟨⟨by decide +kernel, by decide +kernel⟩, List.mem_of_getElem? (i := 12) (by decide +kernel), List.mem_of_getElem? (i := 696) (by decide +kernel), List.mem_of_getElem? (i := 697) (by decide +kernel)⟩
theorem lw_p25 : lw_okq (⟨"PrunedSlices", "answerAmount", "()I"⟩, 5) := ⟨⟨by decide +kernel, by decide +kernel⟩, List.mem_of_getElem? (i := 12) (by decide +kernel), List.mem_of_getElem? (i := 700) (by decide +kernel), List.mem_of_getElem? (i := 701) (by decide +kernel)⟩
theorem lw_p26 : lw_okq (⟨"PrunedSlices", "isAnswer", "(I)Z"⟩, 5) := ⟨⟨by decide +kernel, by decide +kernel⟩, List.mem_of_getElem? (i := 12) (by decide +kernel), List.mem_of_getElem? (i := 704) (by decide +kernel), List.mem_of_getElem? (i := 705) (by decide +kernel)⟩
theorem lw_p27 : lw_okq (⟨"PrunedSlices", "isLooked", "(I)Z"⟩, 5) := ⟨⟨by decide +kernel, by decide +kernel⟩, List.mem_of_getElem? (i := 12) (by decide +kernel), List.mem_of_getElem? (i := 708) (by decide +kernel), List.mem_of_getElem? (i := 709) (by decide +kernel)⟩
theorem lw_p28 : lw_okq (⟨"PrunedSlices", "rowPasses", "(I)Z"⟩, 5) := ⟨⟨by decide +kernel, by decide +kernel⟩, List.mem_of_getElem? (i := 12) (by decide +kernel), List.mem_of_getElem? (i := 712) (by decide +kernel), List.mem_of_getElem? (i := 713) (by decide +kernel)⟩
theorem lw_p29 : lw_okq (⟨"PrunedSlices", "answerSum", "()I"⟩, 5) := ⟨⟨by decide +kernel, by decide +kernel⟩, List.mem_of_getElem? (i := 12) (by decide +kernel), List.mem_of_getElem? (i := 716) (by decide +kernel), List.mem_of_getElem? (i := 717) (by decide +kernel)⟩
theorem lw_p30 : lw_okq (⟨"PrunedSlices", "lookedPlaces", "()I"⟩, 5) := ⟨⟨by decide +kernel, by decide +kernel⟩, List.mem_of_getElem? (i := 12) (by decide +kernel), List.mem_of_getElem? (i := 720) (by decide +kernel), List.mem_of_getElem? (i := 721) (by decide +kernel)⟩
theorem lw_p31 : lw_okq (⟨"PrunedSlices", "lookedRows", "()I"⟩, 5) := ⟨⟨by decide +kernel, by decide +kernel⟩, List.mem_of_getElem? (i := 12) (by decide +kernel), List.mem_of_getElem? (i := 724) (by decide +kernel), List.mem_of_getElem? (i := 725) (by decide +kernel)⟩
def lw_privs_2 : List (MethodName × Nat) := [(⟨"PrunedSlices$Rows", "amountAhead", "(II)I"⟩, 4), (⟨"PrunedSlices", "markLooked", "(I)V"⟩, 5), (⟨"PrunedSlices", "sliceMayHold", "(II)Z"⟩, 5), (⟨"PrunedSlices$Question", "startDepth", "(I)V"⟩, 14), (⟨"PrunedSlices$Question", "testTruth", "(III)I"⟩, 14), (⟨"PrunedSlices$Question", "addTruth", "(II)V"⟩, 14), (⟨"PrunedSlices$Question", "endPart", "(I)V"⟩, 14), (⟨"PrunedSlices$Question", "keyMayHold", "(III)Z"⟩, 14), (⟨"PrunedSlices", "someFreeKeyMayHold", "()Z"⟩, 5), (⟨"PrunedSlices", "answerAmount", "()I"⟩, 5), (⟨"PrunedSlices", "isAnswer", "(I)Z"⟩, 5), (⟨"PrunedSlices", "isLooked", "(I)Z"⟩, 5), (⟨"PrunedSlices", "rowPasses", "(I)Z"⟩, 5), (⟨"PrunedSlices", "answerSum", "()I"⟩, 5), (⟨"PrunedSlices", "lookedPlaces", "()I"⟩, 5), (⟨"PrunedSlices", "lookedRows", "()I"⟩, 5)]
theorem lw_r2 : ∀ q ∈ lw_privs_2, lw_okq q := List.forall_mem_cons.mpr ⟨lw_p16, List.forall_mem_cons.mpr ⟨lw_p17, List.forall_mem_cons.mpr ⟨lw_p18, List.forall_mem_cons.mpr ⟨lw_p19, List.forall_mem_cons.mpr ⟨lw_p20, List.forall_mem_cons.mpr ⟨lw_p21, List.forall_mem_cons.mpr ⟨lw_p22, List.forall_mem_cons.mpr ⟨lw_p23, List.forall_mem_cons.mpr ⟨lw_p24, List.forall_mem_cons.mpr ⟨lw_p25, List.forall_mem_cons.mpr ⟨lw_p26, List.forall_mem_cons.mpr ⟨lw_p27, List.forall_mem_cons.mpr ⟨lw_p28, List.forall_mem_cons.mpr ⟨lw_p29, List.forall_mem_cons.mpr ⟨lw_p30, List.forall_mem_cons.mpr ⟨lw_p31, fun _ h => absurd h List.not_mem_nil⟩⟩⟩⟩⟩⟩⟩⟩⟩⟩⟩⟩⟩⟩⟩⟩
theorem lw_p32 : lw_okq (⟨"PrunedSlices", "wholeAmount", "()I"⟩, 5) := ⟨⟨by decide +kernel, by decide +kernel⟩, List.mem_of_getElem? (i := 12) (by decide +kernel), List.mem_of_getElem? (i := 728) (by decide +kernel), List.mem_of_getElem? (i := 729) (by decide +kernel)⟩
theorem lw_p33 : lw_okq (⟨"PrunedSlices", "unevenness", "(III)I"⟩, 5) := ⟨⟨by decide +kernel, by decide +kernel⟩, List.mem_of_getElem? (i := 12) (by decide +kernel), List.mem_of_getElem? (i := 758) (by decide +kernel), List.mem_of_getElem? (i := 759) (by decide +kernel)⟩
theorem lw_p34 : lw_okq (⟨"PrunedSlicesModel", "belongsTo", "(I)I"⟩, 18) := ⟨⟨by decide +kernel, by decide +kernel⟩, List.mem_of_getElem? (i := 769) (by decide +kernel), List.mem_of_getElem? (i := 837) (by decide +kernel), List.mem_of_getElem? (i := 838) (by decide +kernel)⟩
theorem lw_p35 : lw_okq (⟨"PrunedSlicesModel", "owner", "(I)I"⟩, 18) := ⟨⟨by decide +kernel, by decide +kernel⟩, List.mem_of_getElem? (i := 769) (by decide +kernel), List.mem_of_getElem? (i := 841) (by decide +kernel), List.mem_of_getElem? (i := 842) (by decide +kernel)⟩
theorem lw_p36 : lw_okq (⟨"PrunedSlicesModel", "isSlice", "(I)Z"⟩, 18) := ⟨⟨by decide +kernel, by decide +kernel⟩, List.mem_of_getElem? (i := 769) (by decide +kernel), List.mem_of_getElem? (i := 845) (by decide +kernel), List.mem_of_getElem? (i := 846) (by decide +kernel)⟩
theorem lw_p37 : lw_okq (⟨"PrunedSlicesModel", "has", "(II)Z"⟩, 18) := ⟨⟨by decide +kernel, by decide +kernel⟩, List.mem_of_getElem? (i := 769) (by decide +kernel), List.mem_of_getElem? (i := 849) (by decide +kernel), List.mem_of_getElem? (i := 850) (by decide +kernel)⟩
theorem lw_p38 : lw_okq (⟨"PrunedSlicesModel", "rowsIn", "(I)I"⟩, 18) := ⟨⟨by decide +kernel, by decide +kernel⟩, List.mem_of_getElem? (i := 769) (by decide +kernel), List.mem_of_getElem? (i := 853) (by decide +kernel), List.mem_of_getElem? (i := 854) (by decide +kernel)⟩
theorem lw_p39 : lw_okq (⟨"PrunedSlicesModel", "record", "()V"⟩, 18) := ⟨⟨by decide +kernel, by decide +kernel⟩, List.mem_of_getElem? (i := 769) (by decide +kernel), List.mem_of_getElem? (i := 857) (by decide +kernel), List.mem_of_getElem? (i := 858) (by decide +kernel)⟩
theorem lw_p40 : lw_okq (⟨"PrunedSlicesModel", "addRow", "(III)I"⟩, 18) := ⟨⟨by decide +kernel, by decide +kernel⟩, List.mem_of_getElem? (i := 769) (by decide +kernel), List.mem_of_getElem? (i := 861) (by decide +kernel), List.mem_of_getElem? (i := 862) (by decide +kernel)⟩
theorem lw_p41 : lw_okq (⟨"PrunedSlicesModel", "isRow", "(I)Z"⟩, 18) := ⟨⟨by decide +kernel, by decide +kernel⟩, List.mem_of_getElem? (i := 769) (by decide +kernel), List.mem_of_getElem? (i := 873) (by decide +kernel), List.mem_of_getElem? (i := 874) (by decide +kernel)⟩
theorem lw_p42 : lw_okq (⟨"PrunedSlicesModel", "areBounds", "(II)Z"⟩, 18) := ⟨⟨by decide +kernel, by decide +kernel⟩, List.mem_of_getElem? (i := 769) (by decide +kernel), List.mem_of_getElem? (i := 885) (by decide +kernel), List.mem_of_getElem? (i := 886) (by decide +kernel)⟩
theorem lw_p43 : lw_okq (⟨"PrunedSlicesModel", "isTaken", "(II)Z"⟩, 18) := ⟨⟨by decide +kernel, by decide +kernel⟩, List.mem_of_getElem? (i := 769) (by decide +kernel), List.mem_of_getElem? (i := 889) (by decide +kernel), List.mem_of_getElem? (i := 890) (by decide +kernel)⟩
theorem lw_p44 : lw_okq (⟨"PrunedSlicesModel", "rowsBetween", "(III)I"⟩, 18) := ⟨⟨by decide +kernel, by decide +kernel⟩, List.mem_of_getElem? (i := 769) (by decide +kernel), List.mem_of_getElem? (i := 893) (by decide +kernel), List.mem_of_getElem? (i := 894) (by decide +kernel)⟩
theorem lw_p45 : lw_okq (⟨"PrunedSlicesModel", "isFullOfSlices", "()Z"⟩, 18) := ⟨⟨by decide +kernel, by decide +kernel⟩, List.mem_of_getElem? (i := 769) (by decide +kernel), List.mem_of_getElem? (i := 897) (by decide +kernel), List.mem_of_getElem? (i := 898) (by decide +kernel)⟩
theorem lw_p46 : lw_okq (⟨"PrunedSlicesModel", "slices", "()I"⟩, 18) := ⟨⟨by decide +kernel, by decide +kernel⟩, List.mem_of_getElem? (i := 769) (by decide +kernel), List.mem_of_getElem? (i := 901) (by decide +kernel), List.mem_of_getElem? (i := 902) (by decide +kernel)⟩
theorem lw_p47 : lw_okq (⟨"PrunedSlicesModel", "cutSlice", "(II)I"⟩, 18) := ⟨⟨by decide +kernel, by decide +kernel⟩, List.mem_of_getElem? (i := 769) (by decide +kernel), List.mem_of_getElem? (i := 905) (by decide +kernel), List.mem_of_getElem? (i := 906) (by decide +kernel)⟩
def lw_privs_3 : List (MethodName × Nat) := [(⟨"PrunedSlices", "wholeAmount", "()I"⟩, 5), (⟨"PrunedSlices", "unevenness", "(III)I"⟩, 5), (⟨"PrunedSlicesModel", "belongsTo", "(I)I"⟩, 18), (⟨"PrunedSlicesModel", "owner", "(I)I"⟩, 18), (⟨"PrunedSlicesModel", "isSlice", "(I)Z"⟩, 18), (⟨"PrunedSlicesModel", "has", "(II)Z"⟩, 18), (⟨"PrunedSlicesModel", "rowsIn", "(I)I"⟩, 18), (⟨"PrunedSlicesModel", "record", "()V"⟩, 18), (⟨"PrunedSlicesModel", "addRow", "(III)I"⟩, 18), (⟨"PrunedSlicesModel", "isRow", "(I)Z"⟩, 18), (⟨"PrunedSlicesModel", "areBounds", "(II)Z"⟩, 18), (⟨"PrunedSlicesModel", "isTaken", "(II)Z"⟩, 18), (⟨"PrunedSlicesModel", "rowsBetween", "(III)I"⟩, 18), (⟨"PrunedSlicesModel", "isFullOfSlices", "()Z"⟩, 18), (⟨"PrunedSlicesModel", "slices", "()I"⟩, 18), (⟨"PrunedSlicesModel", "cutSlice", "(II)I"⟩, 18)]
theorem lw_r3 : ∀ q ∈ lw_privs_3, lw_okq q := List.forall_mem_cons.mpr ⟨lw_p32, List.forall_mem_cons.mpr ⟨lw_p33, List.forall_mem_cons.mpr ⟨lw_p34, List.forall_mem_cons.mpr ⟨lw_p35, List.forall_mem_cons.mpr ⟨lw_p36, List.forall_mem_cons.mpr ⟨lw_p37, List.forall_mem_cons.mpr ⟨lw_p38, List.forall_mem_cons.mpr ⟨lw_p39, List.forall_mem_cons.mpr ⟨lw_p40, List.forall_mem_cons.mpr ⟨lw_p41, List.forall_mem_cons.mpr ⟨lw_p42, List.forall_mem_cons.mpr ⟨lw_p43, List.forall_mem_cons.mpr ⟨lw_p44, List.forall_mem_cons.mpr ⟨lw_p45, List.forall_mem_cons.mpr ⟨lw_p46, List.forall_mem_cons.mpr ⟨lw_p47, fun _ h => absurd h List.not_mem_nil⟩⟩⟩⟩⟩⟩⟩⟩⟩⟩⟩⟩⟩⟩⟩⟩
theorem lw_p48 : lw_okq (⟨"PrunedSlicesModel", "moveBetween", "(IIII)V"⟩, 18) := ⟨⟨by decide +kernel, by decide +kernel⟩, List.mem_of_getElem? (i := 769) (by decide +kernel), List.mem_of_getElem? (i := 909) (by decide +kernel), List.mem_of_getElem? (i := 910) (by decide +kernel)⟩
theorem lw_p49 : lw_okq (⟨"PrunedSlicesModel", "freeKeys", "()I"⟩, 18) := ⟨⟨by decide +kernel, by decide +kernel⟩, List.mem_of_getElem? (i := 769) (by decide +kernel), List.mem_of_getElem? (i := 941) (by decide +kernel), List.mem_of_getElem? (i := 942) (by decide +kernel)⟩
theorem lw_p50 : lw_okq (⟨"PrunedSlicesModel", "strays", "()I"⟩, 18) := ⟨⟨by decide +kernel, by decide +kernel⟩, List.mem_of_getElem? (i := 769) (by decide +kernel), List.mem_of_getElem? (i := 949) (by decide +kernel), List.mem_of_getElem? (i := 950) (by decide +kernel)⟩
theorem lw_p51 : lw_okq (⟨"PrunedSlicesModel", "isStray", "(I)Z"⟩, 18) := ⟨⟨by decide +kernel, by decide +kernel⟩, List.mem_of_getElem? (i := 769) (by decide +kernel), List.mem_of_getElem? (i := 953) (by decide +kernel), List.mem_of_getElem? (i := 954) (by decide +kernel)⟩
theorem lw_p52 : lw_okq (⟨"PrunedSlicesModel", "read", "()I"⟩, 18) := ⟨⟨by decide +kernel, by decide +kernel⟩, List.mem_of_getElem? (i := 769) (by decide +kernel), List.mem_of_getElem? (i := 973) (by decide +kernel), List.mem_of_getElem? (i := 974) (by decide +kernel)⟩
theorem lw_p53 : lw_okq (⟨"PrunedSlicesModel", "isNext", "(II)Z"⟩, 18) := ⟨⟨by decide +kernel, by decide +kernel⟩, List.mem_of_getElem? (i := 769) (by decide +kernel), List.mem_of_getElem? (i := 977) (by decide +kernel), List.mem_of_getElem? (i := 978) (by decide +kernel)⟩
theorem lw_p54 : lw_okq (⟨"PrunedSlicesModel", "isSign", "()Z"⟩, 18) := ⟨⟨by decide +kernel, by decide +kernel⟩, List.mem_of_getElem? (i := 769) (by decide +kernel), List.mem_of_getElem? (i := 981) (by decide +kernel), List.mem_of_getElem? (i := 982) (by decide +kernel)⟩
theorem lw_p55 : lw_okq (⟨"PrunedSlicesModel", "readNumber", "(II)Z"⟩, 18) := ⟨⟨by decide +kernel, by decide +kernel⟩, List.mem_of_getElem? (i := 769) (by decide +kernel), List.mem_of_getElem? (i := 985) (by decide +kernel), List.mem_of_getElem? (i := 986) (by decide +kernel)⟩
theorem lw_p56 : lw_okq (⟨"PrunedSlicesModel", "add", "(III)V"⟩, 18) := ⟨⟨by decide +kernel, by decide +kernel⟩, List.mem_of_getElem? (i := 769) (by decide +kernel), List.mem_of_getElem? (i := 989) (by decide +kernel), List.mem_of_getElem? (i := 990) (by decide +kernel)⟩
theorem lw_p57 : lw_okq (⟨"PrunedSlicesModel", "settle", "(I)V"⟩, 18) := ⟨⟨by decide +kernel, by decide +kernel⟩, List.mem_of_getElem? (i := 769) (by decide +kernel), List.mem_of_getElem? (i := 993) (by decide +kernel), List.mem_of_getElem? (i := 994) (by decide +kernel)⟩
theorem lw_p58 : lw_okq (⟨"PrunedSlicesModel", "look", "()V"⟩, 18) := ⟨⟨by decide +kernel, by decide +kernel⟩, List.mem_of_getElem? (i := 769) (by decide +kernel), List.mem_of_getElem? (i := 1013) (by decide +kernel), List.mem_of_getElem? (i := 1014) (by decide +kernel)⟩
theorem lw_p59 : lw_okq (⟨"PrunedSlicesModel", "looks", "(II)Z"⟩, 18) := ⟨⟨by decide +kernel, by decide +kernel⟩, List.mem_of_getElem? (i := 769) (by decide +kernel), List.mem_of_getElem? (i := 1017) (by decide +kernel), List.mem_of_getElem? (i := 1018) (by decide +kernel)⟩
theorem lw_p60 : lw_okq (⟨"PrunedSlicesModel", "canHold", "(II)Z"⟩, 18) := ⟨⟨by decide +kernel, by decide +kernel⟩, List.mem_of_getElem? (i := 769) (by decide +kernel), List.mem_of_getElem? (i := 1021) (by decide +kernel), List.mem_of_getElem? (i := 1022) (by decide +kernel)⟩
theorem lw_p61 : lw_okq (⟨"PrunedSlicesModel", "push", "(II)V"⟩, 18) := ⟨⟨by decide +kernel, by decide +kernel⟩, List.mem_of_getElem? (i := 769) (by decide +kernel), List.mem_of_getElem? (i := 1031) (by decide +kernel), List.mem_of_getElem? (i := 1032) (by decide +kernel)⟩
theorem lw_p62 : lw_okq (⟨"PrunedSlicesModel", "hasKey", "(I)Z"⟩, 18) := ⟨⟨by decide +kernel, by decide +kernel⟩, List.mem_of_getElem? (i := 769) (by decide +kernel), List.mem_of_getElem? (i := 1035) (by decide +kernel), List.mem_of_getElem? (i := 1036) (by decide +kernel)⟩
theorem lw_p63 : lw_okq (⟨"PrunedSlicesModel", "truth", "(IIZ)I"⟩, 18) := ⟨⟨by decide +kernel, by decide +kernel⟩, List.mem_of_getElem? (i := 769) (by decide +kernel), List.mem_of_getElem? (i := 1039) (by decide +kernel), List.mem_of_getElem? (i := 1040) (by decide +kernel)⟩
def lw_privs_4 : List (MethodName × Nat) := [(⟨"PrunedSlicesModel", "moveBetween", "(IIII)V"⟩, 18), (⟨"PrunedSlicesModel", "freeKeys", "()I"⟩, 18), (⟨"PrunedSlicesModel", "strays", "()I"⟩, 18), (⟨"PrunedSlicesModel", "isStray", "(I)Z"⟩, 18), (⟨"PrunedSlicesModel", "read", "()I"⟩, 18), (⟨"PrunedSlicesModel", "isNext", "(II)Z"⟩, 18), (⟨"PrunedSlicesModel", "isSign", "()Z"⟩, 18), (⟨"PrunedSlicesModel", "readNumber", "(II)Z"⟩, 18), (⟨"PrunedSlicesModel", "add", "(III)V"⟩, 18), (⟨"PrunedSlicesModel", "settle", "(I)V"⟩, 18), (⟨"PrunedSlicesModel", "look", "()V"⟩, 18), (⟨"PrunedSlicesModel", "looks", "(II)Z"⟩, 18), (⟨"PrunedSlicesModel", "canHold", "(II)Z"⟩, 18), (⟨"PrunedSlicesModel", "push", "(II)V"⟩, 18), (⟨"PrunedSlicesModel", "hasKey", "(I)Z"⟩, 18), (⟨"PrunedSlicesModel", "truth", "(IIZ)I"⟩, 18)]
theorem lw_r4 : ∀ q ∈ lw_privs_4, lw_okq q := List.forall_mem_cons.mpr ⟨lw_p48, List.forall_mem_cons.mpr ⟨lw_p49, List.forall_mem_cons.mpr ⟨lw_p50, List.forall_mem_cons.mpr ⟨lw_p51, List.forall_mem_cons.mpr ⟨lw_p52, List.forall_mem_cons.mpr ⟨lw_p53, List.forall_mem_cons.mpr ⟨lw_p54, List.forall_mem_cons.mpr ⟨lw_p55, List.forall_mem_cons.mpr ⟨lw_p56, List.forall_mem_cons.mpr ⟨lw_p57, List.forall_mem_cons.mpr ⟨lw_p58, List.forall_mem_cons.mpr ⟨lw_p59, List.forall_mem_cons.mpr ⟨lw_p60, List.forall_mem_cons.mpr ⟨lw_p61, List.forall_mem_cons.mpr ⟨lw_p62, List.forall_mem_cons.mpr ⟨lw_p63, fun _ h => absurd h List.not_mem_nil⟩⟩⟩⟩⟩⟩⟩⟩⟩⟩⟩⟩⟩⟩⟩⟩
theorem lw_p64 : lw_okq (⟨"PrunedSlicesModel", "isInTable", "(I)Z"⟩, 18) := ⟨⟨by decide +kernel, by decide +kernel⟩, List.mem_of_getElem? (i := 769) (by decide +kernel), List.mem_of_getElem? (i := 1043) (by decide +kernel), List.mem_of_getElem? (i := 1044) (by decide +kernel)⟩
theorem lw_p65 : lw_okq (⟨"PrunedSlicesModel", "isAnswer", "(I)Z"⟩, 18) := ⟨⟨by decide +kernel, by decide +kernel⟩, List.mem_of_getElem? (i := 769) (by decide +kernel), List.mem_of_getElem? (i := 1047) (by decide +kernel), List.mem_of_getElem? (i := 1048) (by decide +kernel)⟩
theorem lw_p66 : lw_okq (⟨"PrunedSlicesModel", "isPassed", "(I)Z"⟩, 18) := ⟨⟨by decide +kernel, by decide +kernel⟩, List.mem_of_getElem? (i := 769) (by decide +kernel), List.mem_of_getElem? (i := 1051) (by decide +kernel), List.mem_of_getElem? (i := 1052) (by decide +kernel)⟩
theorem lw_p67 : lw_okq (⟨"PrunedSlicesModel", "isPlace", "(I)Z"⟩, 18) := ⟨⟨by decide +kernel, by decide +kernel⟩, List.mem_of_getElem? (i := 769) (by decide +kernel), List.mem_of_getElem? (i := 1080) (by decide +kernel), List.mem_of_getElem? (i := 1081) (by decide +kernel)⟩
theorem lw_p68 : lw_okq (⟨"PrunedSlicesModel", "gaps", "()I"⟩, 18) := ⟨⟨by decide +kernel, by decide +kernel⟩, List.mem_of_getElem? (i := 769) (by decide +kernel), List.mem_of_getElem? (i := 1108) (by decide +kernel), List.mem_of_getElem? (i := 1109) (by decide +kernel)⟩
def lw_privs_5 : List (MethodName × Nat) := [(⟨"PrunedSlicesModel", "isInTable", "(I)Z"⟩, 18), (⟨"PrunedSlicesModel", "isAnswer", "(I)Z"⟩, 18), (⟨"PrunedSlicesModel", "isPassed", "(I)Z"⟩, 18), (⟨"PrunedSlicesModel", "isPlace", "(I)Z"⟩, 18), (⟨"PrunedSlicesModel", "gaps", "()I"⟩, 18)]
theorem lw_r5 : ∀ q ∈ lw_privs_5, lw_okq q := List.forall_mem_cons.mpr ⟨lw_p64, List.forall_mem_cons.mpr ⟨lw_p65, List.forall_mem_cons.mpr ⟨lw_p66, List.forall_mem_cons.mpr ⟨lw_p67, List.forall_mem_cons.mpr ⟨lw_p68, fun _ h => absurd h List.not_mem_nil⟩⟩⟩⟩⟩
def lw_privs : List (MethodName × Nat) := lw_privs_1 ++ (lw_privs_2 ++ (lw_privs_3 ++ (lw_privs_4 ++ (lw_privs_5))))
def lw_tbl : List Cond := k2_sels lw_privs ++ tables_1
theorem lw_privs_ok : ∀ q ∈ lw_privs, lw_okq q := by
  show ∀ q ∈ lw_privs_1 ++ (lw_privs_2 ++ (lw_privs_3 ++ (lw_privs_4 ++ (lw_privs_5)))), lw_okq q
  exact List.forall_mem_append.mpr ⟨lw_r1, List.forall_mem_append.mpr ⟨lw_r2, List.forall_mem_append.mpr ⟨lw_r3, List.forall_mem_append.mpr ⟨lw_r4, lw_r5⟩⟩⟩⟩
/-- the streams that the claim lets the run draw from -/
abbrev lw_cs : List Choice := [Jvm.Choice.named "NaN.bits"]
theorem lw_bits : nanBits ∈ lw_cs := by first | decide | exact List.mem_cons_self | simp [lw_cs, nanBits]
-- ===== end of PART A
/-! ===== BEGIN words of one list among another's, by their places ===== -/
theorem goodIn_r {big : List Cond} (ws : List Cond) (ps : List Nat) (hp : ws = ps.filterMap (fun i => big[i]?)) (h : ws.all goodWord = true) : GoodIn big ws := by
  intro w hw
  have h1 := List.all_eq_true.mp h w hw
  rw [hp] at hw
  obtain ⟨i, -, hi⟩ := List.mem_filterMap.mp hw
  have hm : w ∈ big := by first | exact List.mem_of_getElem? hi | exact List.getElem?_mem hi
  exact ⟨hm, good_of_word h1⟩
theorem goodIn_app {big a b : List Cond} (ha : GoodIn big a) (hb : GoodIn big b) : GoodIn big (a ++ b) := fun w h => (List.mem_append.mp h).elim (ha w) (hb w)
theorem goodIn_ca {big a b : List Cond} {c : Cond} (ha : GoodIn big (c :: a)) (hb : GoodIn big b) : GoodIn big (c :: (a ++ b)) := fun w h => (List.mem_cons.mp h).elim (fun e => ha w (List.mem_cons.mpr (Or.inl e))) (fun h => (List.mem_append.mp h).elim (fun h => ha w (List.mem_cons.mpr (Or.inr h))) (hb w))
theorem goodIn_sub {big ws : List Cond} (hm : ∀ w ∈ ws, w ∈ big) (h : ws.all goodWord = true) : GoodIn big ws := fun w hw => ⟨hm w hw, good_of_word (List.all_eq_true.mp h w hw)⟩
/-! ===== BEGIN printed: names, fields, word lists, decode rows ===== -/
def RX0 : String := "PrunedSlices$Cells"
def TX0 : u_T := fun k => match k with
  | _ => ("PrunedSlices$Cells", "cells", "[I", true)
def tyX0 : Nat → FieldType := fun k => match k with
  | _ => .array .int
abbrev wsX00 : List Cond := u_ws RX0 TX0 1
theorem nmX0 : ∀ a, a < 1 → ∀ b, b < 1 → a ≠ b → (TX0 a).2.1 ≠ (TX0 b).2.1 := by decide +kernel
theorem tyX0_ok : ∀ k, k < 1 → parseFieldDescriptor (TX0 k).2.2.1 = some (tyX0 k) := by decide +kernel
abbrev cX0_init : ByteArray := prog_2_method_1_code
def yX0_init : MethodName := ⟨RX0, "<init>", "(I)V"⟩
abbrev cX0_at : ByteArray := prog_2_method_2_code
def yX0_at : MethodName := ⟨RX0, "at", "(I)I"⟩
abbrev cX0_write : ByteArray := prog_2_method_3_code
def yX0_write : MethodName := ⟨RX0, "write", "(II)V"⟩
abbrev cX0_clear : ByteArray := prog_2_method_4_code
def yX0_clear : MethodName := ⟨RX0, "clear", "()V"⟩
abbrev cX0_copyFrom : ByteArray := prog_2_method_5_code
def yX0_copyFrom : MethodName := ⟨RX0, "copyFrom", "(LPrunedSlices$Cells;)V"⟩
def RX1 : String := "PrunedSlices$History"
def TX1 : u_T := fun k => match k with
  | 0 => ("PrunedSlices$History", "states", "[LPrunedSlices$Table;", true)
  | 1 => ("PrunedSlices$History", "snapshot", "LPrunedSlices$Table;", true)
  | 2 => ("PrunedSlices$History", "hasSnapshot", "Z", false)
  | _ => ("PrunedSlices$History", "amount", "I", false)
def tyX1 : Nat → FieldType := fun k => match k with
  | 0 => .array (.object "PrunedSlices$Table")
  | 1 => .object "PrunedSlices$Table"
  | 2 => .boolean
  | _ => .int
abbrev wsX10 : List Cond := u_ws RX1 TX1 4
theorem nmX1 : ∀ a, a < 4 → ∀ b, b < 4 → a ≠ b → (TX1 a).2.1 ≠ (TX1 b).2.1 := by decide +kernel
theorem tyX1_ok : ∀ k, k < 4 → parseFieldDescriptor (TX1 k).2.2.1 = some (tyX1 k) := by decide +kernel
abbrev cX1_init : ByteArray := prog_3_method_1_code
def yX1_init : MethodName := ⟨RX1, "<init>", "()V"⟩
abbrev cX1_record : ByteArray := prog_3_method_2_code
def yX1_record : MethodName := ⟨RX1, "record", "(LPrunedSlices$Table;)V"⟩
abbrev cX1_putOldestLast : ByteArray := prog_3_method_3_code
def yX1_putOldestLast : MethodName := ⟨RX1, "putOldestLast", "()V"⟩
abbrev cX1_giveBack : ByteArray := prog_3_method_4_code
def yX1_giveBack : MethodName := ⟨RX1, "giveBack", "(LPrunedSlices$Table;)V"⟩
abbrev cX1_takeSnapshot : ByteArray := prog_3_method_5_code
def yX1_takeSnapshot : MethodName := ⟨RX1, "takeSnapshot", "(LPrunedSlices$Table;)V"⟩
abbrev cX1_stateAt : ByteArray := prog_3_method_6_code
def yX1_stateAt : MethodName := ⟨RX1, "stateAt", "(I)LPrunedSlices$Table;"⟩
def RX2 : String := "PrunedSlices$Question"
def TX2 : u_T := fun k => match k with
  | 0 => ("PrunedSlices$Question", "length", "I", false)
  | 1 => ("PrunedSlices$Question", "faultAt", "I", false)
  | 2 => ("PrunedSlices$Question", "step", "I", false)
  | 3 => ("PrunedSlices$Question", "open", "I", false)
  | 4 => ("PrunedSlices$Question", "nots", "I", false)
  | 5 => ("PrunedSlices$Question", "minus", "Z", false)
  | 6 => ("PrunedSlices$Question", "digits", "I", false)
  | 7 => ("PrunedSlices$Question", "tokens", "I", false)
  | 8 => ("PrunedSlices$Question", "kinds", "LPrunedSlices$Cells;", true)
  | 9 => ("PrunedSlices$Question", "signs", "LPrunedSlices$Cells;", true)
  | 10 => ("PrunedSlices$Question", "numbers", "LPrunedSlices$Cells;", true)
  | 11 => ("PrunedSlices$Question", "ended", "LPrunedSlices$Cells;", true)
  | 12 => ("PrunedSlices$Question", "going", "LPrunedSlices$Cells;", true)
  | _ => ("PrunedSlices$Question", "turned", "LPrunedSlices$Cells;", true)
def tyX2 : Nat → FieldType := fun k => match k with
  | 0 => .int
  | 1 => .int
  | 2 => .int
  | 3 => .int
  | 4 => .int
  | 5 => .boolean
  | 6 => .int
  | 7 => .int
  | 8 => .object "PrunedSlices$Cells"
  | 9 => .object "PrunedSlices$Cells"
  | 10 => .object "PrunedSlices$Cells"
  | 11 => .object "PrunedSlices$Cells"
  | 12 => .object "PrunedSlices$Cells"
  | _ => .object "PrunedSlices$Cells"
abbrev wsX20 : List Cond := u_ws RX2 TX2 14
theorem nmX2 : ∀ a, a < 14 → ∀ b, b < 14 → a ≠ b → (TX2 a).2.1 ≠ (TX2 b).2.1 := by decide +kernel
theorem tyX2_ok : ∀ k, k < 14 → parseFieldDescriptor (TX2 k).2.2.1 = some (tyX2 k) := by decide +kernel
abbrev cX2_init : ByteArray := prog_4_method_1_code
def yX2_init : MethodName := ⟨RX2, "<init>", "()V"⟩
abbrev cX2_forget : ByteArray := prog_4_method_2_code
def yX2_forget : MethodName := ⟨RX2, "forget", "()V"⟩
abbrev cX2_read : ByteArray := prog_4_method_3_code
def yX2_read : MethodName := ⟨RX2, "read", "(C)V"⟩
abbrev cX2_isFaulty : ByteArray := prog_4_method_4_code
def yX2_isFaulty : MethodName := ⟨RX2, "isFaulty", "()Z"⟩
abbrev cX2_firstFault : ByteArray := prog_4_method_5_code
def yX2_firstFault : MethodName := ⟨RX2, "firstFault", "()I"⟩
abbrev cX2_isAllowed : ByteArray := prog_4_method_6_code
def yX2_isAllowed : MethodName := ⟨RX2, "isAllowed", "(C)Z"⟩
abbrev cX2_startsTest : ByteArray := prog_4_method_7_code
def yX2_startsTest : MethodName := ⟨RX2, "startsTest", "(C)Z"⟩
abbrev cX2_isSign : ByteArray := prog_4_method_8_code
def yX2_isSign : MethodName := ⟨RX2, "isSign", "(C)Z"⟩
abbrev cX2_isMinus : ByteArray := prog_4_method_9_code
def yX2_isMinus : MethodName := ⟨RX2, "isMinus", "(C)Z"⟩
abbrev cX2_isFirstDigit : ByteArray := prog_4_method_10_code
def yX2_isFirstDigit : MethodName := ⟨RX2, "isFirstDigit", "(C)Z"⟩
abbrev cX2_isNextDigit : ByteArray := prog_4_method_11_code
def yX2_isNextDigit : MethodName := ⟨RX2, "isNextDigit", "(C)Z"⟩
abbrev cX2_setDigits : ByteArray := prog_4_method_12_code
def yX2_setDigits : MethodName := ⟨RX2, "setDigits", "(I)V"⟩
abbrev cX2_followsTest : ByteArray := prog_4_method_13_code
def yX2_followsTest : MethodName := ⟨RX2, "followsTest", "(C)Z"⟩
abbrev cX2_addToken : ByteArray := prog_4_method_14_code
def yX2_addToken : MethodName := ⟨RX2, "addToken", "(CI)V"⟩
abbrev cX2_someKeyMayHold : ByteArray := prog_4_method_15_code
def yX2_someKeyMayHold : MethodName := ⟨RX2, "someKeyMayHold", "(II)Z"⟩
abbrev cX2_keyMayHold : ByteArray := prog_4_method_16_code
def yX2_keyMayHold : MethodName := ⟨RX2, "keyMayHold", "(III)Z"⟩
abbrev cX2_truth : ByteArray := prog_4_method_17_code
def yX2_truth : MethodName := ⟨RX2, "truth", "(IIZI)I"⟩
abbrev cX2_startDepth : ByteArray := prog_4_method_18_code
def yX2_startDepth : MethodName := ⟨RX2, "startDepth", "(I)V"⟩
abbrev cX2_addTruth : ByteArray := prog_4_method_19_code
def yX2_addTruth : MethodName := ⟨RX2, "addTruth", "(II)V"⟩
abbrev cX2_endPart : ByteArray := prog_4_method_20_code
def yX2_endPart : MethodName := ⟨RX2, "endPart", "(I)V"⟩
abbrev cX2_testTruth : ByteArray := prog_4_method_21_code
def yX2_testTruth : MethodName := ⟨RX2, "testTruth", "(III)I"⟩
abbrev cX2_truthOf : ByteArray := prog_4_method_22_code
def yX2_truthOf : MethodName := ⟨RX2, "truthOf", "(ZZ)I"⟩
def RX3 : String := "PrunedSlices$Rows"
def TX3 : u_T := fun k => match k with
  | 0 => ("PrunedSlices$Rows", "keys", "LPrunedSlices$Cells;", true)
  | 1 => ("PrunedSlices$Rows", "values", "LPrunedSlices$Cells;", true)
  | 2 => ("PrunedSlices$Rows", "places", "LPrunedSlices$Cells;", true)
  | _ => ("PrunedSlices$Rows", "came", "I", false)
def tyX3 : Nat → FieldType := fun k => match k with
  | 0 => .object "PrunedSlices$Cells"
  | 1 => .object "PrunedSlices$Cells"
  | 2 => .object "PrunedSlices$Cells"
  | _ => .int
abbrev wsX30 : List Cond := u_ws RX3 TX3 4
theorem nmX3 : ∀ a, a < 4 → ∀ b, b < 4 → a ≠ b → (TX3 a).2.1 ≠ (TX3 b).2.1 := by decide +kernel
theorem tyX3_ok : ∀ k, k < 4 → parseFieldDescriptor (TX3 k).2.2.1 = some (tyX3 k) := by decide +kernel
abbrev cX3_init : ByteArray := prog_5_method_1_code
def yX3_init : MethodName := ⟨RX3, "<init>", "()V"⟩
abbrev cX3_copyFrom : ByteArray := prog_5_method_2_code
def yX3_copyFrom : MethodName := ⟨RX3, "copyFrom", "(LPrunedSlices$Rows;)V"⟩
abbrev cX3_has : ByteArray := prog_5_method_3_code
def yX3_has : MethodName := ⟨RX3, "has", "(I)Z"⟩
abbrev cX3_keyOf : ByteArray := prog_5_method_4_code
def yX3_keyOf : MethodName := ⟨RX3, "keyOf", "(I)I"⟩
abbrev cX3_valueOf : ByteArray := prog_5_method_5_code
def yX3_valueOf : MethodName := ⟨RX3, "valueOf", "(I)I"⟩
abbrev cX3_placeOf : ByteArray := prog_5_method_6_code
def yX3_placeOf : MethodName := ⟨RX3, "placeOf", "(I)I"⟩
abbrev cX3_isInTable : ByteArray := prog_5_method_7_code
def yX3_isInTable : MethodName := ⟨RX3, "isInTable", "(I)Z"⟩
abbrev cX3_append : ByteArray := prog_5_method_8_code
def yX3_append : MethodName := ⟨RX3, "append", "(III)I"⟩
abbrev cX3_changeKey : ByteArray := prog_5_method_9_code
def yX3_changeKey : MethodName := ⟨RX3, "changeKey", "(II)V"⟩
abbrev cX3_move : ByteArray := prog_5_method_10_code
def yX3_move : MethodName := ⟨RX3, "move", "(II)V"⟩
abbrev cX3_moveAll : ByteArray := prog_5_method_11_code
def yX3_moveAll : MethodName := ⟨RX3, "moveAll", "(II)V"⟩
abbrev cX3_moveKeys : ByteArray := prog_5_method_12_code
def yX3_moveKeys : MethodName := ⟨RX3, "moveKeys", "(IIII)V"⟩
abbrev cX3_exchange : ByteArray := prog_5_method_13_code
def yX3_exchange : MethodName := ⟨RX3, "exchange", "(II)V"⟩
abbrev cX3_amountInTable : ByteArray := prog_5_method_14_code
def yX3_amountInTable : MethodName := ⟨RX3, "amountInTable", "()I"⟩
abbrev cX3_amountAt : ByteArray := prog_5_method_15_code
def yX3_amountAt : MethodName := ⟨RX3, "amountAt", "(I)I"⟩
abbrev cX3_amountWithKeys : ByteArray := prog_5_method_16_code
def yX3_amountWithKeys : MethodName := ⟨RX3, "amountWithKeys", "(III)I"⟩
abbrev cX3_liesWithKey : ByteArray := prog_5_method_17_code
def yX3_liesWithKey : MethodName := ⟨RX3, "liesWithKey", "(IIII)Z"⟩
abbrev cX3_sumAt : ByteArray := prog_5_method_18_code
def yX3_sumAt : MethodName := ⟨RX3, "sumAt", "(I)I"⟩
abbrev cX3_ranked : ByteArray := prog_5_method_19_code
def yX3_ranked : MethodName := ⟨RX3, "ranked", "(II)I"⟩
abbrev cX3_amountAhead : ByteArray := prog_5_method_20_code
def yX3_amountAhead : MethodName := ⟨RX3, "amountAhead", "(II)I"⟩
def RX4 : String := "PrunedSlices$Slices"
def TX4 : u_T := fun k => match k with
  | 0 => ("PrunedSlices$Slices", "numbers", "LPrunedSlices$Cells;", true)
  | 1 => ("PrunedSlices$Slices", "lows", "LPrunedSlices$Cells;", true)
  | 2 => ("PrunedSlices$Slices", "highs", "LPrunedSlices$Cells;", true)
  | 3 => ("PrunedSlices$Slices", "amount", "I", false)
  | _ => ("PrunedSlices$Slices", "came", "I", false)
def tyX4 : Nat → FieldType := fun k => match k with
  | 0 => .object "PrunedSlices$Cells"
  | 1 => .object "PrunedSlices$Cells"
  | 2 => .object "PrunedSlices$Cells"
  | 3 => .int
  | _ => .int
abbrev wsX40 : List Cond := u_ws RX4 TX4 5
theorem nmX4 : ∀ a, a < 5 → ∀ b, b < 5 → a ≠ b → (TX4 a).2.1 ≠ (TX4 b).2.1 := by decide +kernel
theorem tyX4_ok : ∀ k, k < 5 → parseFieldDescriptor (TX4 k).2.2.1 = some (tyX4 k) := by decide +kernel
abbrev cX4_init : ByteArray := prog_6_method_1_code
def yX4_init : MethodName := ⟨RX4, "<init>", "()V"⟩
abbrev cX4_copyFrom : ByteArray := prog_6_method_2_code
def yX4_copyFrom : MethodName := ⟨RX4, "copyFrom", "(LPrunedSlices$Slices;)V"⟩
abbrev cX4_isFull : ByteArray := prog_6_method_3_code
def yX4_isFull : MethodName := ⟨RX4, "isFull", "()Z"⟩
abbrev cX4_has : ByteArray := prog_6_method_4_code
def yX4_has : MethodName := ⟨RX4, "has", "(I)Z"⟩
abbrev cX4_positionOf : ByteArray := prog_6_method_5_code
def yX4_positionOf : MethodName := ⟨RX4, "positionOf", "(I)I"⟩
abbrev cX4_numberAt : ByteArray := prog_6_method_6_code
def yX4_numberAt : MethodName := ⟨RX4, "numberAt", "(I)I"⟩
abbrev cX4_lowAt : ByteArray := prog_6_method_7_code
def yX4_lowAt : MethodName := ⟨RX4, "lowAt", "(I)I"⟩
abbrev cX4_highAt : ByteArray := prog_6_method_8_code
def yX4_highAt : MethodName := ⟨RX4, "highAt", "(I)I"⟩
abbrev cX4_having : ByteArray := prog_6_method_9_code
def yX4_having : MethodName := ⟨RX4, "having", "(I)I"⟩
abbrev cX4_overlap : ByteArray := prog_6_method_10_code
def yX4_overlap : MethodName := ⟨RX4, "overlap", "(II)Z"⟩
abbrev cX4_areBeside : ByteArray := prog_6_method_11_code
def yX4_areBeside : MethodName := ⟨RX4, "areBeside", "(II)Z"⟩
abbrev cX4_append : ByteArray := prog_6_method_12_code
def yX4_append : MethodName := ⟨RX4, "append", "(II)I"⟩
abbrev cX4_remove : ByteArray := prog_6_method_13_code
def yX4_remove : MethodName := ⟨RX4, "remove", "(I)V"⟩
abbrev cX4_copyEntry : ByteArray := prog_6_method_14_code
def yX4_copyEntry : MethodName := ⟨RX4, "copyEntry", "(II)V"⟩
abbrev cX4_changeBounds : ByteArray := prog_6_method_15_code
def yX4_changeBounds : MethodName := ⟨RX4, "changeBounds", "(III)V"⟩
abbrev cX4_unite : ByteArray := prog_6_method_16_code
def yX4_unite : MethodName := ⟨RX4, "unite", "(II)V"⟩
abbrev cX4_gapLow : ByteArray := prog_6_method_17_code
def yX4_gapLow : MethodName := ⟨RX4, "gapLow", "(I)I"⟩
abbrev cX4_gapHigh : ByteArray := prog_6_method_18_code
def yX4_gapHigh : MethodName := ⟨RX4, "gapHigh", "(I)I"⟩
abbrev cX4_gapRanked : ByteArray := prog_6_method_19_code
def yX4_gapRanked : MethodName := ⟨RX4, "gapRanked", "(I)I"⟩
abbrev cX4_gaps : ByteArray := prog_6_method_20_code
def yX4_gaps : MethodName := ⟨RX4, "gaps", "()I"⟩
abbrev cX4_freeKeys : ByteArray := prog_6_method_21_code
def yX4_freeKeys : MethodName := ⟨RX4, "freeKeys", "()I"⟩
def RX5 : String := "PrunedSlices$Table"
def TX5 : u_T := fun k => match k with
  | 0 => ("PrunedSlices$Table", "rows", "LPrunedSlices$Rows;", true)
  | 1 => ("PrunedSlices$Table", "slices", "LPrunedSlices$Slices;", true)
  | 2 => ("PrunedSlices$Table", "defaultOn", "Z", false)
  | 3 => ("PrunedSlices$Table", "pruning", "I", false)
  | _ => ("PrunedSlices$Table", "moving", "I", false)
def tyX5 : Nat → FieldType := fun k => match k with
  | 0 => .object "PrunedSlices$Rows"
  | 1 => .object "PrunedSlices$Slices"
  | 2 => .boolean
  | 3 => .int
  | _ => .int
abbrev wsX50 : List Cond := u_ws RX5 TX5 5
theorem nmX5 : ∀ a, a < 5 → ∀ b, b < 5 → a ≠ b → (TX5 a).2.1 ≠ (TX5 b).2.1 := by decide +kernel
theorem tyX5_ok : ∀ k, k < 5 → parseFieldDescriptor (TX5 k).2.2.1 = some (tyX5 k) := by decide +kernel
abbrev cX5_init : ByteArray := prog_7_method_1_code
def yX5_init : MethodName := ⟨RX5, "<init>", "()V"⟩
abbrev cX5_copyFrom : ByteArray := prog_7_method_2_code
def yX5_copyFrom : MethodName := ⟨RX5, "copyFrom", "(LPrunedSlices$Table;)V"⟩
abbrev cX5_home : ByteArray := prog_7_method_3_code
def yX5_home : MethodName := ⟨RX5, "home", "(I)I"⟩
abbrev cX5_isStray : ByteArray := prog_7_method_4_code
def yX5_isStray : MethodName := ⟨RX5, "isStray", "(I)Z"⟩
abbrev cX5_strays : ByteArray := prog_7_method_5_code
def yX5_strays : MethodName := ⟨RX5, "strays", "()I"⟩
abbrev cX5_straysAt : ByteArray := prog_7_method_6_code
def yX5_straysAt : MethodName := ⟨RX5, "straysAt", "(I)I"⟩
abbrev cX5_strayIsHomeless : ByteArray := prog_7_method_7_code
def yX5_strayIsHomeless : MethodName := ⟨RX5, "strayIsHomeless", "()Z"⟩
abbrev cX5_moveStrays : ByteArray := prog_7_method_8_code
def yX5_moveStrays : MethodName := ⟨RX5, "moveStrays", "()V"⟩
abbrev cX5_unfitRows : ByteArray := prog_7_method_9_code
def yX5_unfitRows : MethodName := ⟨RX5, "unfitRows", "(II)I"⟩
def RX6 : String := "PrunedSlices"
def TX6 : u_T := fun k => match k with
  | 0 => ("PrunedSlices", "table", "LPrunedSlices$Table;", true)
  | 1 => ("PrunedSlices", "history", "LPrunedSlices$History;", true)
  | 2 => ("PrunedSlices", "question", "LPrunedSlices$Question;", true)
  | 3 => ("PrunedSlices", "looked", "LPrunedSlices$Cells;", true)
  | _ => ("PrunedSlices", "amounts", "LPrunedSlices$Cells;", true)
def tyX6 : Nat → FieldType := fun k => match k with
  | 0 => .object "PrunedSlices$Table"
  | 1 => .object "PrunedSlices$History"
  | 2 => .object "PrunedSlices$Question"
  | 3 => .object "PrunedSlices$Cells"
  | _ => .object "PrunedSlices$Cells"
abbrev wsX60 : List Cond := u_ws RX6 TX6 5
theorem nmX6 : ∀ a, a < 5 → ∀ b, b < 5 → a ≠ b → (TX6 a).2.1 ≠ (TX6 b).2.1 := by decide +kernel
theorem tyX6_ok : ∀ k, k < 5 → parseFieldDescriptor (TX6 k).2.2.1 = some (tyX6 k) := by decide +kernel
abbrev cX6_init : ByteArray := prog_1_method_1_code
def yX6_init : MethodName := ⟨RX6, "<init>", "()V"⟩
abbrev cX6_put : ByteArray := prog_1_method_2_code
def yX6_put : MethodName := ⟨RX6, "put", "(II)I"⟩
abbrev cX6_stage : ByteArray := prog_1_method_3_code
def yX6_stage : MethodName := ⟨RX6, "stage", "(II)I"⟩
abbrev cX6_take : ByteArray := prog_1_method_4_code
def yX6_take : MethodName := ⟨RX6, "take", "(I)I"⟩
abbrev cX6_rekey : ByteArray := prog_1_method_5_code
def yX6_rekey : MethodName := ⟨RX6, "rekey", "(II)I"⟩
abbrev cX6_addSlice : ByteArray := prog_1_method_6_code
def yX6_addSlice : MethodName := ⟨RX6, "addSlice", "(II)I"⟩
abbrev cX6_dropSlice : ByteArray := prog_1_method_7_code
def yX6_dropSlice : MethodName := ⟨RX6, "dropSlice", "(I)I"⟩
abbrev cX6_detach : ByteArray := prog_1_method_8_code
def yX6_detach : MethodName := ⟨RX6, "detach", "(I)I"⟩
abbrev cX6_attach : ByteArray := prog_1_method_9_code
def yX6_attach : MethodName := ⟨RX6, "attach", "(II)I"⟩
abbrev cX6_swap : ByteArray := prog_1_method_10_code
def yX6_swap : MethodName := ⟨RX6, "swap", "(IZ)I"⟩
abbrev cX6_split : ByteArray := prog_1_method_11_code
def yX6_split : MethodName := ⟨RX6, "split", "(II)I"⟩
abbrev cX6_merge : ByteArray := prog_1_method_12_code
def yX6_merge : MethodName := ⟨RX6, "merge", "(II)I"⟩
abbrev cX6_useDefault : ByteArray := prog_1_method_13_code
def yX6_useDefault : MethodName := ⟨RX6, "useDefault", "(Z)I"⟩
abbrev cX6_mend : ByteArray := prog_1_method_14_code
def yX6_mend : MethodName := ⟨RX6, "mend", "()I"⟩
abbrev cX6_set : ByteArray := prog_1_method_15_code
def yX6_set : MethodName := ⟨RX6, "set", "(II)I"⟩
abbrev cX6_type : ByteArray := prog_1_method_16_code
def yX6_type : MethodName := ⟨RX6, "type", "(C)I"⟩
abbrev cX6_clearText : ByteArray := prog_1_method_17_code
def yX6_clearText : MethodName := ⟨RX6, "clearText", "()I"⟩
abbrev cX6_fault : ByteArray := prog_1_method_18_code
def yX6_fault : MethodName := ⟨RX6, "fault", "()I"⟩
abbrev cX6_undo : ByteArray := prog_1_method_19_code
def yX6_undo : MethodName := ⟨RX6, "undo", "()I"⟩
abbrev cX6_keep : ByteArray := prog_1_method_20_code
def yX6_keep : MethodName := ⟨RX6, "keep", "()I"⟩
abbrev cX6_restore : ByteArray := prog_1_method_21_code
def yX6_restore : MethodName := ⟨RX6, "restore", "()I"⟩
abbrev cX6_row : ByteArray := prog_1_method_22_code
def yX6_row : MethodName := ⟨RX6, "row", "(II)I"⟩
abbrev cX6_slice : ByteArray := prog_1_method_23_code
def yX6_slice : MethodName := ⟨RX6, "slice", "(II)I"⟩
abbrev cX6_ordered : ByteArray := prog_1_method_24_code
def yX6_ordered : MethodName := ⟨RX6, "ordered", "(I)I"⟩
abbrev cX6_lies : ByteArray := prog_1_method_25_code
def yX6_lies : MethodName := ⟨RX6, "lies", "(II)I"⟩
abbrev cX6_belongs : ByteArray := prog_1_method_26_code
def yX6_belongs : MethodName := ⟨RX6, "belongs", "(I)I"⟩
abbrev cX6_gap : ByteArray := prog_1_method_27_code
def yX6_gap : MethodName := ⟨RX6, "gap", "(II)I"⟩
abbrev cX6_stray : ByteArray := prog_1_method_28_code
def yX6_stray : MethodName := ⟨RX6, "stray", "(I)I"⟩
abbrev cX6_count : ByteArray := prog_1_method_29_code
def yX6_count : MethodName := ⟨RX6, "count", "(I)I"⟩
abbrev cX6_ask : ByteArray := prog_1_method_30_code
def yX6_ask : MethodName := ⟨RX6, "ask", "(I)I"⟩
abbrev cX6_answer : ByteArray := prog_1_method_31_code
def yX6_answer : MethodName := ⟨RX6, "answer", "(I)I"⟩
abbrev cX6_looksInto : ByteArray := prog_1_method_32_code
def yX6_looksInto : MethodName := ⟨RX6, "looksInto", "(II)I"⟩
abbrev cX6_passes : ByteArray := prog_1_method_33_code
def yX6_passes : MethodName := ⟨RX6, "passes", "(I)I"⟩
abbrev cX6_spared : ByteArray := prog_1_method_34_code
def yX6_spared : MethodName := ⟨RX6, "spared", "()D"⟩
abbrev cX6_unfit : ByteArray := prog_1_method_35_code
def yX6_unfit : MethodName := ⟨RX6, "unfit", "(I)I"⟩
abbrev cX6_bestSplit : ByteArray := prog_1_method_36_code
def yX6_bestSplit : MethodName := ⟨RX6, "bestSplit", "(I)I"⟩
abbrev cX6_heaviest : ByteArray := prog_1_method_37_code
def yX6_heaviest : MethodName := ⟨RX6, "heaviest", "()I"⟩
abbrev cX6_isKey : ByteArray := prog_1_method_38_code
def yX6_isKey : MethodName := ⟨RX6, "isKey", "(I)Z"⟩
abbrev cX6_isValue : ByteArray := prog_1_method_39_code
def yX6_isValue : MethodName := ⟨RX6, "isValue", "(I)Z"⟩
abbrev cX6_areBounds : ByteArray := prog_1_method_40_code
def yX6_areBounds : MethodName := ⟨RX6, "areBounds", "(II)Z"⟩
abbrev cX6_isPlace : ByteArray := prog_1_method_41_code
def yX6_isPlace : MethodName := ⟨RX6, "isPlace", "(I)Z"⟩
abbrev cX6_keyOfRanked : ByteArray := prog_1_method_42_code
def yX6_keyOfRanked : MethodName := ⟨RX6, "keyOfRanked", "(II)I"⟩
abbrev cX6_straysFit : ByteArray := prog_1_method_43_code
def yX6_straysFit : MethodName := ⟨RX6, "straysFit", "()Z"⟩
abbrev cX6_unevenness : ByteArray := prog_1_method_44_code
def yX6_unevenness : MethodName := ⟨RX6, "unevenness", "(III)I"⟩
abbrev cX6_markLooked : ByteArray := prog_1_method_45_code
def yX6_markLooked : MethodName := ⟨RX6, "markLooked", "(I)V"⟩
abbrev cX6_sliceMayHold : ByteArray := prog_1_method_46_code
def yX6_sliceMayHold : MethodName := ⟨RX6, "sliceMayHold", "(II)Z"⟩
abbrev cX6_someFreeKeyMayHold : ByteArray := prog_1_method_47_code
def yX6_someFreeKeyMayHold : MethodName := ⟨RX6, "someFreeKeyMayHold", "()Z"⟩
abbrev cX6_isLooked : ByteArray := prog_1_method_48_code
def yX6_isLooked : MethodName := ⟨RX6, "isLooked", "(I)Z"⟩
abbrev cX6_rowPasses : ByteArray := prog_1_method_49_code
def yX6_rowPasses : MethodName := ⟨RX6, "rowPasses", "(I)Z"⟩
abbrev cX6_isAnswer : ByteArray := prog_1_method_50_code
def yX6_isAnswer : MethodName := ⟨RX6, "isAnswer", "(I)Z"⟩
abbrev cX6_answerAmount : ByteArray := prog_1_method_51_code
def yX6_answerAmount : MethodName := ⟨RX6, "answerAmount", "()I"⟩
abbrev cX6_answerSum : ByteArray := prog_1_method_52_code
def yX6_answerSum : MethodName := ⟨RX6, "answerSum", "()I"⟩
abbrev cX6_wholeAmount : ByteArray := prog_1_method_53_code
def yX6_wholeAmount : MethodName := ⟨RX6, "wholeAmount", "()I"⟩
abbrev cX6_lookedPlaces : ByteArray := prog_1_method_54_code
def yX6_lookedPlaces : MethodName := ⟨RX6, "lookedPlaces", "()I"⟩
abbrev cX6_lookedRows : ByteArray := prog_1_method_55_code
def yX6_lookedRows : MethodName := ⟨RX6, "lookedRows", "()I"⟩
def RX7 : String := "PrunedSlicesModel"
def TX7 : u_T := fun k => match k with
  | 0 => ("PrunedSlicesModel", "now", "[I", true)
  | 1 => ("PrunedSlicesModel", "slot", "[I", true)
  | 2 => ("PrunedSlicesModel", "history", "[I", true)
  | 3 => ("PrunedSlicesModel", "text", "[I", true)
  | 4 => ("PrunedSlicesModel", "does", "[I", true)
  | 5 => ("PrunedSlicesModel", "sign", "[I", true)
  | 6 => ("PrunedSlicesModel", "number", "[I", true)
  | 7 => ("PrunedSlicesModel", "waiting", "[I", true)
  | 8 => ("PrunedSlicesModel", "many", "I", false)
  | 9 => ("PrunedSlicesModel", "waits", "I", false)
  | 10 => ("PrunedSlicesModel", "place", "I", false)
  | 11 => ("PrunedSlicesModel", "first", "[I", true)
  | 12 => ("PrunedSlicesModel", "second", "[I", true)
  | 13 => ("PrunedSlicesModel", "top", "I", false)
  | 14 => ("PrunedSlicesModel", "load", "[I", true)
  | 15 => ("PrunedSlicesModel", "kept", "I", false)
  | 16 => ("PrunedSlicesModel", "length", "I", false)
  | _ => ("PrunedSlicesModel", "isFilled", "Z", false)
def tyX7 : Nat → FieldType := fun k => match k with
  | 0 => .array .int
  | 1 => .array .int
  | 2 => .array .int
  | 3 => .array .int
  | 4 => .array .int
  | 5 => .array .int
  | 6 => .array .int
  | 7 => .array .int
  | 8 => .int
  | 9 => .int
  | 10 => .int
  | 11 => .array .int
  | 12 => .array .int
  | 13 => .int
  | 14 => .array .int
  | 15 => .int
  | 16 => .int
  | _ => .boolean
abbrev wsX70 : List Cond := u_ws RX7 TX7 18
theorem nmX7 : ∀ a, a < 18 → ∀ b, b < 18 → a ≠ b → (TX7 a).2.1 ≠ (TX7 b).2.1 := by decide +kernel
theorem tyX7_ok : ∀ k, k < 18 → parseFieldDescriptor (TX7 k).2.2.1 = some (tyX7 k) := by decide +kernel
abbrev cX7_init : ByteArray := prog_9_method_1_code
def yX7_init : MethodName := ⟨RX7, "<init>", "()V"⟩
abbrev cX7_in : ByteArray := prog_9_method_2_code
def yX7_in : MethodName := ⟨RX7, "in", "(III)Z"⟩
abbrev cX7_abs : ByteArray := prog_9_method_3_code
def yX7_abs : MethodName := ⟨RX7, "abs", "(I)I"⟩
abbrev cX7_record : ByteArray := prog_9_method_4_code
def yX7_record : MethodName := ⟨RX7, "record", "()V"⟩
abbrev cX7_isRow : ByteArray := prog_9_method_5_code
def yX7_isRow : MethodName := ⟨RX7, "isRow", "(I)Z"⟩
abbrev cX7_isSlice : ByteArray := prog_9_method_6_code
def yX7_isSlice : MethodName := ⟨RX7, "isSlice", "(I)Z"⟩
abbrev cX7_isPlace : ByteArray := prog_9_method_7_code
def yX7_isPlace : MethodName := ⟨RX7, "isPlace", "(I)Z"⟩
abbrev cX7_has : ByteArray := prog_9_method_8_code
def yX7_has : MethodName := ⟨RX7, "has", "(II)Z"⟩
abbrev cX7_owner : ByteArray := prog_9_method_9_code
def yX7_owner : MethodName := ⟨RX7, "owner", "(I)I"⟩
abbrev cX7_belongsTo : ByteArray := prog_9_method_10_code
def yX7_belongsTo : MethodName := ⟨RX7, "belongsTo", "(I)I"⟩
abbrev cX7_rowsIn : ByteArray := prog_9_method_11_code
def yX7_rowsIn : MethodName := ⟨RX7, "rowsIn", "(I)I"⟩
abbrev cX7_isStray : ByteArray := prog_9_method_12_code
def yX7_isStray : MethodName := ⟨RX7, "isStray", "(I)Z"⟩
abbrev cX7_slices : ByteArray := prog_9_method_13_code
def yX7_slices : MethodName := ⟨RX7, "slices", "()I"⟩
abbrev cX7_isFullOfSlices : ByteArray := prog_9_method_14_code
def yX7_isFullOfSlices : MethodName := ⟨RX7, "isFullOfSlices", "()Z"⟩
abbrev cX7_areBounds : ByteArray := prog_9_method_15_code
def yX7_areBounds : MethodName := ⟨RX7, "areBounds", "(II)Z"⟩
abbrev cX7_isTaken : ByteArray := prog_9_method_16_code
def yX7_isTaken : MethodName := ⟨RX7, "isTaken", "(II)Z"⟩
abbrev cX7_rowsBetween : ByteArray := prog_9_method_17_code
def yX7_rowsBetween : MethodName := ⟨RX7, "rowsBetween", "(III)I"⟩
abbrev cX7_moveBetween : ByteArray := prog_9_method_18_code
def yX7_moveBetween : MethodName := ⟨RX7, "moveBetween", "(IIII)V"⟩
abbrev cX7_cutSlice : ByteArray := prog_9_method_19_code
def yX7_cutSlice : MethodName := ⟨RX7, "cutSlice", "(II)I"⟩
abbrev cX7_addRow : ByteArray := prog_9_method_20_code
def yX7_addRow : MethodName := ⟨RX7, "addRow", "(III)I"⟩
abbrev cX7_put : ByteArray := prog_9_method_21_code
def yX7_put : MethodName := ⟨RX7, "put", "(II)I"⟩
abbrev cX7_stage : ByteArray := prog_9_method_22_code
def yX7_stage : MethodName := ⟨RX7, "stage", "(II)I"⟩
abbrev cX7_take : ByteArray := prog_9_method_23_code
def yX7_take : MethodName := ⟨RX7, "take", "(I)I"⟩
abbrev cX7_rekey : ByteArray := prog_9_method_24_code
def yX7_rekey : MethodName := ⟨RX7, "rekey", "(II)I"⟩
abbrev cX7_addSlice : ByteArray := prog_9_method_25_code
def yX7_addSlice : MethodName := ⟨RX7, "addSlice", "(II)I"⟩
abbrev cX7_dropSlice : ByteArray := prog_9_method_26_code
def yX7_dropSlice : MethodName := ⟨RX7, "dropSlice", "(I)I"⟩
abbrev cX7_detach : ByteArray := prog_9_method_27_code
def yX7_detach : MethodName := ⟨RX7, "detach", "(I)I"⟩
abbrev cX7_attach : ByteArray := prog_9_method_28_code
def yX7_attach : MethodName := ⟨RX7, "attach", "(II)I"⟩
abbrev cX7_swap : ByteArray := prog_9_method_29_code
def yX7_swap : MethodName := ⟨RX7, "swap", "(IZ)I"⟩
abbrev cX7_split : ByteArray := prog_9_method_30_code
def yX7_split : MethodName := ⟨RX7, "split", "(II)I"⟩
abbrev cX7_merge : ByteArray := prog_9_method_31_code
def yX7_merge : MethodName := ⟨RX7, "merge", "(II)I"⟩
abbrev cX7_freeKeys : ByteArray := prog_9_method_32_code
def yX7_freeKeys : MethodName := ⟨RX7, "freeKeys", "()I"⟩
abbrev cX7_useDefault : ByteArray := prog_9_method_33_code
def yX7_useDefault : MethodName := ⟨RX7, "useDefault", "(Z)I"⟩
abbrev cX7_strays : ByteArray := prog_9_method_34_code
def yX7_strays : MethodName := ⟨RX7, "strays", "()I"⟩
abbrev cX7_mend : ByteArray := prog_9_method_35_code
def yX7_mend : MethodName := ⟨RX7, "mend", "()I"⟩
abbrev cX7_set : ByteArray := prog_9_method_36_code
def yX7_set : MethodName := ⟨RX7, "set", "(II)I"⟩
abbrev cX7_type : ByteArray := prog_9_method_37_code
def yX7_type : MethodName := ⟨RX7, "type", "(C)I"⟩
abbrev cX7_clearText : ByteArray := prog_9_method_38_code
def yX7_clearText : MethodName := ⟨RX7, "clearText", "()I"⟩
abbrev cX7_isNext : ByteArray := prog_9_method_39_code
def yX7_isNext : MethodName := ⟨RX7, "isNext", "(II)Z"⟩
abbrev cX7_add : ByteArray := prog_9_method_40_code
def yX7_add : MethodName := ⟨RX7, "add", "(III)V"⟩
abbrev cX7_settle : ByteArray := prog_9_method_41_code
def yX7_settle : MethodName := ⟨RX7, "settle", "(I)V"⟩
abbrev cX7_readNumber : ByteArray := prog_9_method_42_code
def yX7_readNumber : MethodName := ⟨RX7, "readNumber", "(II)Z"⟩
abbrev cX7_isSign : ByteArray := prog_9_method_43_code
def yX7_isSign : MethodName := ⟨RX7, "isSign", "()Z"⟩
abbrev cX7_read : ByteArray := prog_9_method_44_code
def yX7_read : MethodName := ⟨RX7, "read", "()I"⟩
abbrev cX7_fault : ByteArray := prog_9_method_45_code
def yX7_fault : MethodName := ⟨RX7, "fault", "()I"⟩
abbrev cX7_undo : ByteArray := prog_9_method_46_code
def yX7_undo : MethodName := ⟨RX7, "undo", "()I"⟩
abbrev cX7_keep : ByteArray := prog_9_method_47_code
def yX7_keep : MethodName := ⟨RX7, "keep", "()I"⟩
abbrev cX7_restore : ByteArray := prog_9_method_48_code
def yX7_restore : MethodName := ⟨RX7, "restore", "()I"⟩
abbrev cX7_passesTest : ByteArray := prog_9_method_49_code
def yX7_passesTest : MethodName := ⟨RX7, "passesTest", "(III)Z"⟩
abbrev cX7_push : ByteArray := prog_9_method_50_code
def yX7_push : MethodName := ⟨RX7, "push", "(II)V"⟩
abbrev cX7_truth : ByteArray := prog_9_method_51_code
def yX7_truth : MethodName := ⟨RX7, "truth", "(IIZ)I"⟩
abbrev cX7_passing : ByteArray := prog_9_method_52_code
def yX7_passing : MethodName := ⟨RX7, "passing", "(IIII)I"⟩
abbrev cX7_canHold : ByteArray := prog_9_method_53_code
def yX7_canHold : MethodName := ⟨RX7, "canHold", "(II)Z"⟩
abbrev cX7_hasKey : ByteArray := prog_9_method_54_code
def yX7_hasKey : MethodName := ⟨RX7, "hasKey", "(I)Z"⟩
abbrev cX7_looks : ByteArray := prog_9_method_55_code
def yX7_looks : MethodName := ⟨RX7, "looks", "(II)Z"⟩
abbrev cX7_look : ByteArray := prog_9_method_56_code
def yX7_look : MethodName := ⟨RX7, "look", "()V"⟩
abbrev cX7_isPassed : ByteArray := prog_9_method_57_code
def yX7_isPassed : MethodName := ⟨RX7, "isPassed", "(I)Z"⟩
abbrev cX7_isInTable : ByteArray := prog_9_method_58_code
def yX7_isInTable : MethodName := ⟨RX7, "isInTable", "(I)Z"⟩
abbrev cX7_isAnswer : ByteArray := prog_9_method_59_code
def yX7_isAnswer : MethodName := ⟨RX7, "isAnswer", "(I)Z"⟩
abbrev cX7_ask : ByteArray := prog_9_method_60_code
def yX7_ask : MethodName := ⟨RX7, "ask", "(I)I"⟩
abbrev cX7_answer : ByteArray := prog_9_method_61_code
def yX7_answer : MethodName := ⟨RX7, "answer", "(I)I"⟩
abbrev cX7_looksInto : ByteArray := prog_9_method_62_code
def yX7_looksInto : MethodName := ⟨RX7, "looksInto", "(II)I"⟩
abbrev cX7_passes : ByteArray := prog_9_method_63_code
def yX7_passes : MethodName := ⟨RX7, "passes", "(I)I"⟩
abbrev cX7_spared : ByteArray := prog_9_method_64_code
def yX7_spared : MethodName := ⟨RX7, "spared", "()D"⟩
abbrev cX7_row : ByteArray := prog_9_method_65_code
def yX7_row : MethodName := ⟨RX7, "row", "(II)I"⟩
abbrev cX7_slice : ByteArray := prog_9_method_66_code
def yX7_slice : MethodName := ⟨RX7, "slice", "(II)I"⟩
abbrev cX7_ordered : ByteArray := prog_9_method_67_code
def yX7_ordered : MethodName := ⟨RX7, "ordered", "(I)I"⟩
abbrev cX7_lies : ByteArray := prog_9_method_68_code
def yX7_lies : MethodName := ⟨RX7, "lies", "(II)I"⟩
abbrev cX7_belongs : ByteArray := prog_9_method_69_code
def yX7_belongs : MethodName := ⟨RX7, "belongs", "(I)I"⟩
abbrev cX7_gap : ByteArray := prog_9_method_70_code
def yX7_gap : MethodName := ⟨RX7, "gap", "(II)I"⟩
abbrev cX7_gaps : ByteArray := prog_9_method_71_code
def yX7_gaps : MethodName := ⟨RX7, "gaps", "()I"⟩
abbrev cX7_stray : ByteArray := prog_9_method_72_code
def yX7_stray : MethodName := ⟨RX7, "stray", "(I)I"⟩
abbrev cX7_count : ByteArray := prog_9_method_73_code
def yX7_count : MethodName := ⟨RX7, "count", "(I)I"⟩
abbrev cX7_unfit : ByteArray := prog_9_method_74_code
def yX7_unfit : MethodName := ⟨RX7, "unfit", "(I)I"⟩
abbrev cX7_bestSplit : ByteArray := prog_9_method_75_code
def yX7_bestSplit : MethodName := ⟨RX7, "bestSplit", "(I)I"⟩
abbrev cX7_heaviest : ByteArray := prog_9_method_76_code
def yX7_heaviest : MethodName := ⟨RX7, "heaviest", "()I"⟩
def RJ9 : String := "java/lang/Math"
def TJ9 : u_T := fun k => match k with
  | _ => ("", "", "", false)
def tyJ9 : Nat → FieldType := fun k => match k with
  | _ => .int
abbrev wsJ90 : List Cond := u_ws RJ9 TJ9 0
theorem nmJ9 : ∀ a, a < 0 → ∀ b, b < 0 → a ≠ b → (TJ9 a).2.1 ≠ (TJ9 b).2.1 := by decide +kernel
theorem tyJ9_ok : ∀ k, k < 0 → parseFieldDescriptor (TJ9 k).2.2.1 = some (tyJ9 k) := by decide +kernel
abbrev cJ9_abs_0f7a4 : ByteArray := prog_10_method_59_code
def yJ9_abs_0f7a4 : MethodName := ⟨RJ9, "abs", "(I)I"⟩
abbrev cJ9_max_7cf53 : ByteArray := prog_10_method_65_code
def yJ9_max_7cf53 : MethodName := ⟨RJ9, "max", "(II)I"⟩
abbrev cJ9_min_7cf53 : ByteArray := prog_10_method_69_code
def yJ9_min_7cf53 : MethodName := ⟨RJ9, "min", "(II)I"⟩
def RJ10 : String := "java/lang/System"
def TJ10 : u_T := fun k => match k with
  | _ => ("", "", "", false)
def tyJ10 : Nat → FieldType := fun k => match k with
  | _ => .int
abbrev wsJ100 : List Cond := u_ws RJ10 TJ10 0
theorem nmJ10 : ∀ a, a < 0 → ∀ b, b < 0 → a ≠ b → (TJ10 a).2.1 ≠ (TJ10 b).2.1 := by decide +kernel
theorem tyJ10_ok : ∀ k, k < 0 → parseFieldDescriptor (TJ10 k).2.2.1 = some (tyJ10 k) := by decide +kernel
def RL : String := "PrunedSlicesLaw"
abbrev cL_law : ByteArray := code
def yL_law : MethodName := ⟨RL, "law", "([I)Z"⟩
abbrev vwCl : List vw_C := [(RX0, TX0, 1), (RX1, TX1, 4), (RX2, TX2, 14), (RX3, TX3, 4), (RX4, TX4, 5), (RX5, TX5, 5), (RX6, TX6, 5), (RX7, TX7, 18)]
/-- the tables' words but those of nest mates' links -/
def lw_keepw : Cond → Bool
  | .methodLinkNest _ _ _ _ => false
  | .soleField _ _ => false
  | .superclass _ _ => false
  | .arrayOver _ => false
  | .privateMethod _ => false
  | _ => true
def lw_all : List Cond := lw_tbl.filter lw_keepw
theorem lw_all_tbl {w : Cond} (h : w ∈ lw_all) : w ∈ lw_tbl := (List.mem_filter.mp h).1
theorem lw_good : lw_all.all goodWord = true := by decide +kernel
theorem lw_gg : GoodIn lw_all lw_all := goodIn_sub (fun _ h => h) lw_good
end
section
theorem q0 : (Cond.selects RX3 yX3_liesWithKey yX3_liesWithKey) ∈ lw_all := List.mem_of_getElem? (i := 0) (by decide +kernel)
theorem q1 : (Cond.selects RX1 yX1_putOldestLast yX1_putOldestLast) ∈ lw_all := List.mem_of_getElem? (i := 1) (by decide +kernel)
theorem q2 : (Cond.selects RX1 yX1_stateAt yX1_stateAt) ∈ lw_all := List.mem_of_getElem? (i := 2) (by decide +kernel)
theorem q3 : (Cond.selects RX4 yX4_copyEntry yX4_copyEntry) ∈ lw_all := List.mem_of_getElem? (i := 3) (by decide +kernel)
theorem q4 : (Cond.selects RX6 yX6_straysFit yX6_straysFit) ∈ lw_all := List.mem_of_getElem? (i := 4) (by decide +kernel)
theorem q5 : (Cond.selects RX2 yX2_isAllowed yX2_isAllowed) ∈ lw_all := List.mem_of_getElem? (i := 5) (by decide +kernel)
theorem q6 : (Cond.selects RX2 yX2_startsTest yX2_startsTest) ∈ lw_all := List.mem_of_getElem? (i := 6) (by decide +kernel)
theorem q7 : (Cond.selects RX2 yX2_addToken yX2_addToken) ∈ lw_all := List.mem_of_getElem? (i := 7) (by decide +kernel)
theorem q8 : (Cond.selects RX2 yX2_isSign yX2_isSign) ∈ lw_all := List.mem_of_getElem? (i := 8) (by decide +kernel)
theorem q9 : (Cond.selects RX2 yX2_isMinus yX2_isMinus) ∈ lw_all := List.mem_of_getElem? (i := 9) (by decide +kernel)
theorem q10 : (Cond.selects RX2 yX2_isFirstDigit yX2_isFirstDigit) ∈ lw_all := List.mem_of_getElem? (i := 10) (by decide +kernel)
theorem q11 : (Cond.selects RX2 yX2_setDigits yX2_setDigits) ∈ lw_all := List.mem_of_getElem? (i := 11) (by decide +kernel)
theorem q12 : (Cond.selects RX2 yX2_isNextDigit yX2_isNextDigit) ∈ lw_all := List.mem_of_getElem? (i := 12) (by decide +kernel)
theorem q13 : (Cond.selects RX2 yX2_followsTest yX2_followsTest) ∈ lw_all := List.mem_of_getElem? (i := 13) (by decide +kernel)
theorem q14 : (Cond.selects RX6 yX6_isPlace yX6_isPlace) ∈ lw_all := List.mem_of_getElem? (i := 14) (by decide +kernel)
theorem q15 : (Cond.selects RX6 yX6_keyOfRanked yX6_keyOfRanked) ∈ lw_all := List.mem_of_getElem? (i := 15) (by decide +kernel)
theorem q16 : (Cond.selects RX3 yX3_amountAhead yX3_amountAhead) ∈ lw_all := List.mem_of_getElem? (i := 16) (by decide +kernel)
theorem q17 : (Cond.selects RX6 yX6_markLooked yX6_markLooked) ∈ lw_all := List.mem_of_getElem? (i := 17) (by decide +kernel)
theorem q18 : (Cond.selects RX6 yX6_sliceMayHold yX6_sliceMayHold) ∈ lw_all := List.mem_of_getElem? (i := 18) (by decide +kernel)
theorem q19 : (Cond.selects RX2 yX2_startDepth yX2_startDepth) ∈ lw_all := List.mem_of_getElem? (i := 19) (by decide +kernel)
theorem q20 : (Cond.selects RX2 yX2_testTruth yX2_testTruth) ∈ lw_all := List.mem_of_getElem? (i := 20) (by decide +kernel)
theorem q21 : (Cond.selects RX2 yX2_addTruth yX2_addTruth) ∈ lw_all := List.mem_of_getElem? (i := 21) (by decide +kernel)
theorem q22 : (Cond.selects RX2 yX2_endPart yX2_endPart) ∈ lw_all := List.mem_of_getElem? (i := 22) (by decide +kernel)
theorem q23 : (Cond.selects RX2 yX2_keyMayHold yX2_keyMayHold) ∈ lw_all := List.mem_of_getElem? (i := 23) (by decide +kernel)
theorem q24 : (Cond.selects RX6 yX6_someFreeKeyMayHold yX6_someFreeKeyMayHold) ∈ lw_all := List.mem_of_getElem? (i := 24) (by decide +kernel)
theorem q25 : (Cond.selects RX6 yX6_answerAmount yX6_answerAmount) ∈ lw_all := List.mem_of_getElem? (i := 25) (by decide +kernel)
theorem q26 : (Cond.selects RX6 yX6_isAnswer yX6_isAnswer) ∈ lw_all := List.mem_of_getElem? (i := 26) (by decide +kernel)
theorem q27 : (Cond.selects RX6 yX6_isLooked yX6_isLooked) ∈ lw_all := List.mem_of_getElem? (i := 27) (by decide +kernel)
theorem q28 : (Cond.selects RX6 yX6_rowPasses yX6_rowPasses) ∈ lw_all := List.mem_of_getElem? (i := 28) (by decide +kernel)
theorem q29 : (Cond.selects RX6 yX6_answerSum yX6_answerSum) ∈ lw_all := List.mem_of_getElem? (i := 29) (by decide +kernel)
theorem q30 : (Cond.selects RX6 yX6_lookedPlaces yX6_lookedPlaces) ∈ lw_all := List.mem_of_getElem? (i := 30) (by decide +kernel)
theorem q31 : (Cond.selects RX6 yX6_lookedRows yX6_lookedRows) ∈ lw_all := List.mem_of_getElem? (i := 31) (by decide +kernel)
theorem q32 : (Cond.selects RX6 yX6_wholeAmount yX6_wholeAmount) ∈ lw_all := List.mem_of_getElem? (i := 32) (by decide +kernel)
theorem q33 : (Cond.selects RX6 yX6_unevenness yX6_unevenness) ∈ lw_all := List.mem_of_getElem? (i := 33) (by decide +kernel)
theorem q34 : (Cond.selects RX7 yX7_belongsTo yX7_belongsTo) ∈ lw_all := List.mem_of_getElem? (i := 34) (by decide +kernel)
theorem q35 : (Cond.selects RX7 yX7_owner yX7_owner) ∈ lw_all := List.mem_of_getElem? (i := 35) (by decide +kernel)
theorem q36 : (Cond.selects RX7 yX7_isSlice yX7_isSlice) ∈ lw_all := List.mem_of_getElem? (i := 36) (by decide +kernel)
theorem q37 : (Cond.selects RX7 yX7_has yX7_has) ∈ lw_all := List.mem_of_getElem? (i := 37) (by decide +kernel)
theorem q38 : (Cond.selects RX7 yX7_rowsIn yX7_rowsIn) ∈ lw_all := List.mem_of_getElem? (i := 38) (by decide +kernel)
theorem q39 : (Cond.selects RX7 yX7_record yX7_record) ∈ lw_all := List.mem_of_getElem? (i := 39) (by decide +kernel)
theorem q40 : (Cond.selects RX7 yX7_addRow yX7_addRow) ∈ lw_all := List.mem_of_getElem? (i := 40) (by decide +kernel)
theorem q41 : (Cond.selects RX7 yX7_isRow yX7_isRow) ∈ lw_all := List.mem_of_getElem? (i := 41) (by decide +kernel)
theorem q42 : (Cond.selects RX7 yX7_areBounds yX7_areBounds) ∈ lw_all := List.mem_of_getElem? (i := 42) (by decide +kernel)
theorem q43 : (Cond.selects RX7 yX7_isTaken yX7_isTaken) ∈ lw_all := List.mem_of_getElem? (i := 43) (by decide +kernel)
theorem q44 : (Cond.selects RX7 yX7_rowsBetween yX7_rowsBetween) ∈ lw_all := List.mem_of_getElem? (i := 44) (by decide +kernel)
theorem q45 : (Cond.selects RX7 yX7_isFullOfSlices yX7_isFullOfSlices) ∈ lw_all := List.mem_of_getElem? (i := 45) (by decide +kernel)
theorem q46 : (Cond.selects RX7 yX7_slices yX7_slices) ∈ lw_all := List.mem_of_getElem? (i := 46) (by decide +kernel)
theorem q47 : (Cond.selects RX7 yX7_cutSlice yX7_cutSlice) ∈ lw_all := List.mem_of_getElem? (i := 47) (by decide +kernel)
theorem q48 : (Cond.selects RX7 yX7_moveBetween yX7_moveBetween) ∈ lw_all := List.mem_of_getElem? (i := 48) (by decide +kernel)
theorem q49 : (Cond.selects RX7 yX7_freeKeys yX7_freeKeys) ∈ lw_all := List.mem_of_getElem? (i := 49) (by decide +kernel)
theorem q50 : (Cond.selects RX7 yX7_strays yX7_strays) ∈ lw_all := List.mem_of_getElem? (i := 50) (by decide +kernel)
theorem q51 : (Cond.selects RX7 yX7_isStray yX7_isStray) ∈ lw_all := List.mem_of_getElem? (i := 51) (by decide +kernel)
theorem q52 : (Cond.selects RX7 yX7_read yX7_read) ∈ lw_all := List.mem_of_getElem? (i := 52) (by decide +kernel)
theorem q53 : (Cond.selects RX7 yX7_isNext yX7_isNext) ∈ lw_all := List.mem_of_getElem? (i := 53) (by decide +kernel)
theorem q54 : (Cond.selects RX7 yX7_isSign yX7_isSign) ∈ lw_all := List.mem_of_getElem? (i := 54) (by decide +kernel)
theorem q55 : (Cond.selects RX7 yX7_readNumber yX7_readNumber) ∈ lw_all := List.mem_of_getElem? (i := 55) (by decide +kernel)
theorem q56 : (Cond.selects RX7 yX7_add yX7_add) ∈ lw_all := List.mem_of_getElem? (i := 56) (by decide +kernel)
theorem q57 : (Cond.selects RX7 yX7_settle yX7_settle) ∈ lw_all := List.mem_of_getElem? (i := 57) (by decide +kernel)
theorem q58 : (Cond.selects RX7 yX7_look yX7_look) ∈ lw_all := List.mem_of_getElem? (i := 58) (by decide +kernel)
theorem q59 : (Cond.selects RX7 yX7_looks yX7_looks) ∈ lw_all := List.mem_of_getElem? (i := 59) (by decide +kernel)
theorem q60 : (Cond.selects RX7 yX7_canHold yX7_canHold) ∈ lw_all := List.mem_of_getElem? (i := 60) (by decide +kernel)
theorem q61 : (Cond.selects RX7 yX7_push yX7_push) ∈ lw_all := List.mem_of_getElem? (i := 61) (by decide +kernel)
theorem q62 : (Cond.selects RX7 yX7_hasKey yX7_hasKey) ∈ lw_all := List.mem_of_getElem? (i := 62) (by decide +kernel)
theorem q63 : (Cond.selects RX7 yX7_truth yX7_truth) ∈ lw_all := List.mem_of_getElem? (i := 63) (by decide +kernel)
theorem q64 : (Cond.selects RX7 yX7_isInTable yX7_isInTable) ∈ lw_all := List.mem_of_getElem? (i := 64) (by decide +kernel)
theorem q65 : (Cond.selects RX7 yX7_isAnswer yX7_isAnswer) ∈ lw_all := List.mem_of_getElem? (i := 65) (by decide +kernel)
theorem q66 : (Cond.selects RX7 yX7_isPassed yX7_isPassed) ∈ lw_all := List.mem_of_getElem? (i := 66) (by decide +kernel)
theorem q67 : (Cond.selects RX7 yX7_isPlace yX7_isPlace) ∈ lw_all := List.mem_of_getElem? (i := 67) (by decide +kernel)
theorem q68 : (Cond.selects RX7 yX7_gaps yX7_gaps) ∈ lw_all := List.mem_of_getElem? (i := 68) (by decide +kernel)
theorem q69 : (Cond.initialized RL) ∈ lw_all := List.mem_of_getElem? (i := 69) (by decide +kernel)
theorem q70 : (Cond.initialized RX6) ∈ lw_all := List.mem_of_getElem? (i := 70) (by decide +kernel)
theorem q71 : (Cond.initialized RX5) ∈ lw_all := List.mem_of_getElem? (i := 71) (by decide +kernel)
theorem q72 : (Cond.initialized RX3) ∈ lw_all := List.mem_of_getElem? (i := 72) (by decide +kernel)
theorem q73 : (Cond.initialized RX0) ∈ lw_all := List.mem_of_getElem? (i := 73) (by decide +kernel)
theorem q74 : (Cond.initialized RX4) ∈ lw_all := List.mem_of_getElem? (i := 74) (by decide +kernel)
theorem q75 : (Cond.initialized RX1) ∈ lw_all := List.mem_of_getElem? (i := 75) (by decide +kernel)
theorem q76 : (Cond.initialized RX2) ∈ lw_all := List.mem_of_getElem? (i := 76) (by decide +kernel)
theorem q77 : (Cond.initialized RX7) ∈ lw_all := List.mem_of_getElem? (i := 77) (by decide +kernel)
theorem q78 : (Cond.initialized "java/lang/Math") ∈ lw_all := List.mem_of_getElem? (i := 78) (by decide +kernel)
theorem q79 : (Cond.initialized "java/lang/System") ∈ lw_all := List.mem_of_getElem? (i := 79) (by decide +kernel)
theorem q80 : (Cond.classLink RL 7 RX6) ∈ lw_all := List.mem_of_getElem? (i := 80) (by decide +kernel)
theorem q81 : (Cond.instantiable RX6 5) ∈ lw_all := List.mem_of_getElem? (i := 81) (by decide +kernel)
theorem q82 : (Cond.methodLink RL 9 yX6_init) ∈ lw_all := List.mem_of_getElem? (i := 82) (by decide +kernel)
theorem q83 : (Cond.instanceMethod yX6_init) ∈ lw_all := List.mem_of_getElem? (i := 83) (by decide +kernel)
theorem q85 : (Cond.methodLink RX6 1 objectInit) ∈ lw_all := List.mem_of_getElem? (i := 85) (by decide +kernel)
theorem q86 : (Cond.instanceMethod objectInit) ∈ lw_all := List.mem_of_getElem? (i := 86) (by decide +kernel)
theorem q88 : (Cond.classLink RX6 7 RX5) ∈ lw_all := List.mem_of_getElem? (i := 88) (by decide +kernel)
theorem q89 : (Cond.instantiable RX5 5) ∈ lw_all := List.mem_of_getElem? (i := 89) (by decide +kernel)
theorem q90 : (Cond.instanceMethod yX5_init) ∈ lw_all := List.mem_of_getElem? (i := 90) (by decide +kernel)
theorem q92 : (Cond.methodLink RX5 3 objectInit) ∈ lw_all := List.mem_of_getElem? (i := 92) (by decide +kernel)
theorem q93 : (Cond.classLink RX5 9 RX3) ∈ lw_all := List.mem_of_getElem? (i := 93) (by decide +kernel)
theorem q94 : (Cond.instantiable RX3 4) ∈ lw_all := List.mem_of_getElem? (i := 94) (by decide +kernel)
theorem q95 : (Cond.instanceMethod yX3_init) ∈ lw_all := List.mem_of_getElem? (i := 95) (by decide +kernel)
theorem q97 : (Cond.methodLink RX3 3 objectInit) ∈ lw_all := List.mem_of_getElem? (i := 97) (by decide +kernel)
theorem q98 : (Cond.classLink RX3 9 RX0) ∈ lw_all := List.mem_of_getElem? (i := 98) (by decide +kernel)
theorem q99 : (Cond.instantiable RX0 1) ∈ lw_all := List.mem_of_getElem? (i := 99) (by decide +kernel)
theorem q100 : (Cond.methodLink RX3 11 yX0_init) ∈ lw_all := List.mem_of_getElem? (i := 100) (by decide +kernel)
theorem q101 : (Cond.instanceMethod yX0_init) ∈ lw_all := List.mem_of_getElem? (i := 101) (by decide +kernel)
theorem q103 : (Cond.methodLink RX0 1 objectInit) ∈ lw_all := List.mem_of_getElem? (i := 103) (by decide +kernel)
theorem q104 : (Cond.fieldLink RX0 7 "PrunedSlices$Cells" "cells" "[I") ∈ lw_all := List.mem_of_getElem? (i := 104) (by decide +kernel)
theorem q106 : (Cond.arrayClass .int) ∈ lw_all := List.mem_of_getElem? (i := 106) (by decide +kernel)
theorem q107 : (Cond.fieldLink RX3 14 "PrunedSlices$Rows" "keys" "LPrunedSlices$Cells;") ∈ lw_all := List.mem_of_getElem? (i := 107) (by decide +kernel)
theorem q108 : (Cond.fieldLink RX3 20 "PrunedSlices$Rows" "values" "LPrunedSlices$Cells;") ∈ lw_all := List.mem_of_getElem? (i := 108) (by decide +kernel)
theorem q109 : (Cond.fieldLink RX3 23 "PrunedSlices$Rows" "places" "LPrunedSlices$Cells;") ∈ lw_all := List.mem_of_getElem? (i := 109) (by decide +kernel)
theorem q110 : (Cond.fieldLink RX3 30 "PrunedSlices$Rows" "came" "I") ∈ lw_all := List.mem_of_getElem? (i := 110) (by decide +kernel)
theorem q111 : (Cond.fieldLink RX6 62 "PrunedSlices$Rows" "came" "I") ∈ lw_all := List.mem_of_getElem? (i := 111) (by decide +kernel)
theorem q112 : (Cond.fieldLink RX5 60 "PrunedSlices$Rows" "came" "I") ∈ lw_all := List.mem_of_getElem? (i := 112) (by decide +kernel)
theorem q117 : (Cond.classLink RX5 18 RX4) ∈ lw_all := List.mem_of_getElem? (i := 117) (by decide +kernel)
theorem q118 : (Cond.instantiable RX4 5) ∈ lw_all := List.mem_of_getElem? (i := 118) (by decide +kernel)
theorem q119 : (Cond.instanceMethod yX4_init) ∈ lw_all := List.mem_of_getElem? (i := 119) (by decide +kernel)
theorem q121 : (Cond.methodLink RX4 3 objectInit) ∈ lw_all := List.mem_of_getElem? (i := 121) (by decide +kernel)
theorem q122 : (Cond.classLink RX4 9 RX0) ∈ lw_all := List.mem_of_getElem? (i := 122) (by decide +kernel)
theorem q123 : (Cond.methodLink RX4 11 yX0_init) ∈ lw_all := List.mem_of_getElem? (i := 123) (by decide +kernel)
theorem q124 : (Cond.fieldLink RX4 14 "PrunedSlices$Slices" "numbers" "LPrunedSlices$Cells;") ∈ lw_all := List.mem_of_getElem? (i := 124) (by decide +kernel)
theorem q125 : (Cond.fieldLink RX4 20 "PrunedSlices$Slices" "lows" "LPrunedSlices$Cells;") ∈ lw_all := List.mem_of_getElem? (i := 125) (by decide +kernel)
theorem q126 : (Cond.fieldLink RX4 23 "PrunedSlices$Slices" "highs" "LPrunedSlices$Cells;") ∈ lw_all := List.mem_of_getElem? (i := 126) (by decide +kernel)
theorem q127 : (Cond.fieldLink RX4 30 "PrunedSlices$Slices" "amount" "I") ∈ lw_all := List.mem_of_getElem? (i := 127) (by decide +kernel)
theorem q128 : (Cond.fieldLink RX6 197 "PrunedSlices$Slices" "amount" "I") ∈ lw_all := List.mem_of_getElem? (i := 128) (by decide +kernel)
theorem q129 : (Cond.fieldLink RX4 34 "PrunedSlices$Slices" "came" "I") ∈ lw_all := List.mem_of_getElem? (i := 129) (by decide +kernel)
theorem q130 : (Cond.fieldLink RX6 240 "PrunedSlices$Slices" "came" "I") ∈ lw_all := List.mem_of_getElem? (i := 130) (by decide +kernel)
theorem q136 : (Cond.fieldLink RX5 12 "PrunedSlices$Table" "rows" "LPrunedSlices$Rows;") ∈ lw_all := List.mem_of_getElem? (i := 136) (by decide +kernel)
theorem q137 : (Cond.fieldLink RX6 53 "PrunedSlices$Table" "rows" "LPrunedSlices$Rows;") ∈ lw_all := List.mem_of_getElem? (i := 137) (by decide +kernel)
theorem q138 : (Cond.fieldLink RX5 21 "PrunedSlices$Table" "slices" "LPrunedSlices$Slices;") ∈ lw_all := List.mem_of_getElem? (i := 138) (by decide +kernel)
theorem q139 : (Cond.fieldLink RX6 97 "PrunedSlices$Table" "slices" "LPrunedSlices$Slices;") ∈ lw_all := List.mem_of_getElem? (i := 139) (by decide +kernel)
theorem q140 : (Cond.fieldLink RX5 25 "PrunedSlices$Table" "defaultOn" "Z") ∈ lw_all := List.mem_of_getElem? (i := 140) (by decide +kernel)
theorem q141 : (Cond.fieldLink RX6 152 "PrunedSlices$Table" "defaultOn" "Z") ∈ lw_all := List.mem_of_getElem? (i := 141) (by decide +kernel)
theorem q142 : (Cond.fieldLink RX5 36 "PrunedSlices$Table" "pruning" "I") ∈ lw_all := List.mem_of_getElem? (i := 142) (by decide +kernel)
theorem q143 : (Cond.fieldLink RX6 172 "PrunedSlices$Table" "pruning" "I") ∈ lw_all := List.mem_of_getElem? (i := 143) (by decide +kernel)
theorem q144 : (Cond.fieldLink RX5 40 "PrunedSlices$Table" "moving" "I") ∈ lw_all := List.mem_of_getElem? (i := 144) (by decide +kernel)
theorem q145 : (Cond.fieldLink RX6 106 "PrunedSlices$Table" "moving" "I") ∈ lw_all := List.mem_of_getElem? (i := 145) (by decide +kernel)
theorem q151 : (Cond.classLink RX6 16 RX1) ∈ lw_all := List.mem_of_getElem? (i := 151) (by decide +kernel)
theorem q152 : (Cond.instantiable RX1 4) ∈ lw_all := List.mem_of_getElem? (i := 152) (by decide +kernel)
theorem q153 : (Cond.methodLink RX6 18 yX1_init) ∈ lw_all := List.mem_of_getElem? (i := 153) (by decide +kernel)
theorem q154 : (Cond.instanceMethod yX1_init) ∈ lw_all := List.mem_of_getElem? (i := 154) (by decide +kernel)
theorem q156 : (Cond.methodLink RX1 3 objectInit) ∈ lw_all := List.mem_of_getElem? (i := 156) (by decide +kernel)
theorem q157 : (Cond.classLink RX1 9 RX5) ∈ lw_all := List.mem_of_getElem? (i := 157) (by decide +kernel)
theorem q158 : (Cond.fieldLink RX1 11 "PrunedSlices$History" "states" "[LPrunedSlices$Table;") ∈ lw_all := List.mem_of_getElem? (i := 158) (by decide +kernel)
theorem q159 : (Cond.fieldLink RX1 18 "PrunedSlices$History" "snapshot" "LPrunedSlices$Table;") ∈ lw_all := List.mem_of_getElem? (i := 159) (by decide +kernel)
theorem q160 : (Cond.fieldLink RX6 201 "PrunedSlices$History" "snapshot" "LPrunedSlices$Table;") ∈ lw_all := List.mem_of_getElem? (i := 160) (by decide +kernel)
theorem q161 : (Cond.fieldLink RX1 37 "PrunedSlices$History" "hasSnapshot" "Z") ∈ lw_all := List.mem_of_getElem? (i := 161) (by decide +kernel)
theorem q162 : (Cond.fieldLink RX6 198 "PrunedSlices$History" "hasSnapshot" "Z") ∈ lw_all := List.mem_of_getElem? (i := 162) (by decide +kernel)
theorem q163 : (Cond.fieldLink RX1 22 "PrunedSlices$History" "amount" "I") ∈ lw_all := List.mem_of_getElem? (i := 163) (by decide +kernel)
theorem q164 : (Cond.fieldLink RX6 188 "PrunedSlices$History" "amount" "I") ∈ lw_all := List.mem_of_getElem? (i := 164) (by decide +kernel)
theorem q169 : (Cond.classLink RX6 23 RX2) ∈ lw_all := List.mem_of_getElem? (i := 169) (by decide +kernel)
theorem q170 : (Cond.instantiable RX2 14) ∈ lw_all := List.mem_of_getElem? (i := 170) (by decide +kernel)
theorem q171 : (Cond.instanceMethod yX2_init) ∈ lw_all := List.mem_of_getElem? (i := 171) (by decide +kernel)
theorem q173 : (Cond.methodLink RX2 3 objectInit) ∈ lw_all := List.mem_of_getElem? (i := 173) (by decide +kernel)
theorem q174 : (Cond.classLink RX2 18 RX0) ∈ lw_all := List.mem_of_getElem? (i := 174) (by decide +kernel)
theorem q175 : (Cond.methodLink RX2 20 yX0_init) ∈ lw_all := List.mem_of_getElem? (i := 175) (by decide +kernel)
theorem q176 : (Cond.fieldLink RX2 42 "PrunedSlices$Question" "length" "I") ∈ lw_all := List.mem_of_getElem? (i := 176) (by decide +kernel)
theorem q177 : (Cond.fieldLink RX6 175 "PrunedSlices$Question" "length" "I") ∈ lw_all := List.mem_of_getElem? (i := 177) (by decide +kernel)
theorem q178 : (Cond.fieldLink RX2 9 "PrunedSlices$Question" "faultAt" "I") ∈ lw_all := List.mem_of_getElem? (i := 178) (by decide +kernel)
theorem q179 : (Cond.fieldLink RX2 15 "PrunedSlices$Question" "step" "I") ∈ lw_all := List.mem_of_getElem? (i := 179) (by decide +kernel)
theorem q180 : (Cond.fieldLink RX2 45 "PrunedSlices$Question" "open" "I") ∈ lw_all := List.mem_of_getElem? (i := 180) (by decide +kernel)
theorem q181 : (Cond.fieldLink RX2 48 "PrunedSlices$Question" "nots" "I") ∈ lw_all := List.mem_of_getElem? (i := 181) (by decide +kernel)
theorem q182 : (Cond.fieldLink RX2 88 "PrunedSlices$Question" "minus" "Z") ∈ lw_all := List.mem_of_getElem? (i := 182) (by decide +kernel)
theorem q183 : (Cond.fieldLink RX2 95 "PrunedSlices$Question" "digits" "I") ∈ lw_all := List.mem_of_getElem? (i := 183) (by decide +kernel)
theorem q184 : (Cond.fieldLink RX2 51 "PrunedSlices$Question" "tokens" "I") ∈ lw_all := List.mem_of_getElem? (i := 184) (by decide +kernel)
theorem q185 : (Cond.fieldLink RX2 23 "PrunedSlices$Question" "kinds" "LPrunedSlices$Cells;") ∈ lw_all := List.mem_of_getElem? (i := 185) (by decide +kernel)
theorem q186 : (Cond.fieldLink RX2 27 "PrunedSlices$Question" "signs" "LPrunedSlices$Cells;") ∈ lw_all := List.mem_of_getElem? (i := 186) (by decide +kernel)
theorem q187 : (Cond.fieldLink RX2 30 "PrunedSlices$Question" "numbers" "LPrunedSlices$Cells;") ∈ lw_all := List.mem_of_getElem? (i := 187) (by decide +kernel)
theorem q188 : (Cond.fieldLink RX2 33 "PrunedSlices$Question" "ended" "LPrunedSlices$Cells;") ∈ lw_all := List.mem_of_getElem? (i := 188) (by decide +kernel)
theorem q189 : (Cond.fieldLink RX2 36 "PrunedSlices$Question" "going" "LPrunedSlices$Cells;") ∈ lw_all := List.mem_of_getElem? (i := 189) (by decide +kernel)
theorem q190 : (Cond.fieldLink RX2 39 "PrunedSlices$Question" "turned" "LPrunedSlices$Cells;") ∈ lw_all := List.mem_of_getElem? (i := 190) (by decide +kernel)
theorem q205 : (Cond.classLink RX6 30 RX0) ∈ lw_all := List.mem_of_getElem? (i := 205) (by decide +kernel)
theorem q206 : (Cond.methodLink RX6 32 yX0_init) ∈ lw_all := List.mem_of_getElem? (i := 206) (by decide +kernel)
theorem q207 : (Cond.fieldLink RX6 10 "PrunedSlices" "table" "LPrunedSlices$Table;") ∈ lw_all := List.mem_of_getElem? (i := 207) (by decide +kernel)
theorem q208 : (Cond.fieldLink RX6 19 "PrunedSlices" "history" "LPrunedSlices$History;") ∈ lw_all := List.mem_of_getElem? (i := 208) (by decide +kernel)
theorem q209 : (Cond.fieldLink RX6 26 "PrunedSlices" "question" "LPrunedSlices$Question;") ∈ lw_all := List.mem_of_getElem? (i := 209) (by decide +kernel)
theorem q210 : (Cond.fieldLink RX6 35 "PrunedSlices" "looked" "LPrunedSlices$Cells;") ∈ lw_all := List.mem_of_getElem? (i := 210) (by decide +kernel)
theorem q211 : (Cond.fieldLink RX6 39 "PrunedSlices" "amounts" "LPrunedSlices$Cells;") ∈ lw_all := List.mem_of_getElem? (i := 211) (by decide +kernel)
theorem q217 : (Cond.methodLink RL 13 yX6_put) ∈ lw_all := List.mem_of_getElem? (i := 217) (by decide +kernel)
theorem q218 : (Cond.instanceMethod yX6_put) ∈ lw_all := List.mem_of_getElem? (i := 218) (by decide +kernel)
theorem q219 : (Cond.selects RX6 yX6_put yX6_put) ∈ lw_all := List.mem_of_getElem? (i := 219) (by decide +kernel)
theorem q220 : (Cond.code yX6_put cX6_put 4 (some .int)) ∈ lw_all := List.mem_of_getElem? (i := 220) (by decide +kernel)
theorem q221 : (Cond.methodLink RX6 42 yX6_isKey) ∈ lw_all := List.mem_of_getElem? (i := 221) (by decide +kernel)
theorem q222 : (Cond.static yX6_isKey) ∈ lw_all := List.mem_of_getElem? (i := 222) (by decide +kernel)
theorem q223 : (Cond.code yX6_isKey cX6_isKey 1 (some .boolean)) ∈ lw_all := List.mem_of_getElem? (i := 223) (by decide +kernel)
theorem q224 : (Cond.methodLink RX6 46 yX6_isValue) ∈ lw_all := List.mem_of_getElem? (i := 224) (by decide +kernel)
theorem q225 : (Cond.static yX6_isValue) ∈ lw_all := List.mem_of_getElem? (i := 225) (by decide +kernel)
theorem q226 : (Cond.code yX6_isValue cX6_isValue 1 (some .boolean)) ∈ lw_all := List.mem_of_getElem? (i := 226) (by decide +kernel)
theorem q227 : (Cond.methodLink RX6 49 yX5_home) ∈ lw_all := List.mem_of_getElem? (i := 227) (by decide +kernel)
theorem q228 : (Cond.instanceMethod yX5_home) ∈ lw_all := List.mem_of_getElem? (i := 228) (by decide +kernel)
theorem q229 : (Cond.selects RX5 yX5_home yX5_home) ∈ lw_all := List.mem_of_getElem? (i := 229) (by decide +kernel)
theorem q230 : (Cond.code yX5_home cX5_home 3 (some .int)) ∈ lw_all := List.mem_of_getElem? (i := 230) (by decide +kernel)
theorem q231 : (Cond.methodLink RX5 43 yX4_having) ∈ lw_all := List.mem_of_getElem? (i := 231) (by decide +kernel)
theorem q232 : (Cond.instanceMethod yX4_having) ∈ lw_all := List.mem_of_getElem? (i := 232) (by decide +kernel)
theorem q233 : (Cond.selects RX4 yX4_having yX4_having) ∈ lw_all := List.mem_of_getElem? (i := 233) (by decide +kernel)
theorem q234 : (Cond.code yX4_having cX4_having 3 (some .int)) ∈ lw_all := List.mem_of_getElem? (i := 234) (by decide +kernel)
theorem q235 : (Cond.methodLink RX4 47 yX4_lowAt) ∈ lw_all := List.mem_of_getElem? (i := 235) (by decide +kernel)
theorem q236 : (Cond.instanceMethod yX4_lowAt) ∈ lw_all := List.mem_of_getElem? (i := 236) (by decide +kernel)
theorem q237 : (Cond.selects RX4 yX4_lowAt yX4_lowAt) ∈ lw_all := List.mem_of_getElem? (i := 237) (by decide +kernel)
theorem q238 : (Cond.code yX4_lowAt cX4_lowAt 2 (some .int)) ∈ lw_all := List.mem_of_getElem? (i := 238) (by decide +kernel)
theorem q239 : (Cond.methodLink RX4 44 yX0_at) ∈ lw_all := List.mem_of_getElem? (i := 239) (by decide +kernel)
theorem q240 : (Cond.instanceMethod yX0_at) ∈ lw_all := List.mem_of_getElem? (i := 240) (by decide +kernel)
theorem q241 : (Cond.selects RX0 yX0_at yX0_at) ∈ lw_all := List.mem_of_getElem? (i := 241) (by decide +kernel)
theorem q242 : (Cond.code yX0_at cX0_at 2 (some .int)) ∈ lw_all := List.mem_of_getElem? (i := 242) (by decide +kernel)
theorem q243 : (Cond.methodLink RX4 50 yX4_highAt) ∈ lw_all := List.mem_of_getElem? (i := 243) (by decide +kernel)
theorem q244 : (Cond.instanceMethod yX4_highAt) ∈ lw_all := List.mem_of_getElem? (i := 244) (by decide +kernel)
theorem q245 : (Cond.selects RX4 yX4_highAt yX4_highAt) ∈ lw_all := List.mem_of_getElem? (i := 245) (by decide +kernel)
theorem q246 : (Cond.code yX4_highAt cX4_highAt 2 (some .int)) ∈ lw_all := List.mem_of_getElem? (i := 246) (by decide +kernel)
theorem q247 : (Cond.methodLink RX4 41 yX4_numberAt) ∈ lw_all := List.mem_of_getElem? (i := 247) (by decide +kernel)
theorem q248 : (Cond.instanceMethod yX4_numberAt) ∈ lw_all := List.mem_of_getElem? (i := 248) (by decide +kernel)
theorem q249 : (Cond.selects RX4 yX4_numberAt yX4_numberAt) ∈ lw_all := List.mem_of_getElem? (i := 249) (by decide +kernel)
theorem q250 : (Cond.code yX4_numberAt cX4_numberAt 2 (some .int)) ∈ lw_all := List.mem_of_getElem? (i := 250) (by decide +kernel)
theorem q251 : (Cond.methodLink RX6 57 yX3_amountAt) ∈ lw_all := List.mem_of_getElem? (i := 251) (by decide +kernel)
theorem q252 : (Cond.instanceMethod yX3_amountAt) ∈ lw_all := List.mem_of_getElem? (i := 252) (by decide +kernel)
theorem q253 : (Cond.selects RX3 yX3_amountAt yX3_amountAt) ∈ lw_all := List.mem_of_getElem? (i := 253) (by decide +kernel)
theorem q254 : (Cond.code yX3_amountAt cX3_amountAt 2 (some .int)) ∈ lw_all := List.mem_of_getElem? (i := 254) (by decide +kernel)
theorem q255 : (Cond.methodLink RX3 60 yX3_amountWithKeys) ∈ lw_all := List.mem_of_getElem? (i := 255) (by decide +kernel)
theorem q256 : (Cond.instanceMethod yX3_amountWithKeys) ∈ lw_all := List.mem_of_getElem? (i := 256) (by decide +kernel)
theorem q257 : (Cond.selects RX3 yX3_amountWithKeys yX3_amountWithKeys) ∈ lw_all := List.mem_of_getElem? (i := 257) (by decide +kernel)
theorem q258 : (Cond.code yX3_amountWithKeys cX3_amountWithKeys 6 (some .int)) ∈ lw_all := List.mem_of_getElem? (i := 258) (by decide +kernel)
theorem q259 : (Cond.methodLink RX3 49 yX3_liesWithKey) ∈ lw_all := List.mem_of_getElem? (i := 259) (by decide +kernel)
theorem q260 : (Cond.instanceMethod yX3_liesWithKey) ∈ lw_all := List.mem_of_getElem? (i := 260) (by decide +kernel)
theorem q261 : (Cond.code yX3_liesWithKey cX3_liesWithKey 5 (some .boolean)) ∈ lw_all := List.mem_of_getElem? (i := 261) (by decide +kernel)
theorem q262 : (Cond.methodLink RX3 34 yX3_placeOf) ∈ lw_all := List.mem_of_getElem? (i := 262) (by decide +kernel)
theorem q263 : (Cond.instanceMethod yX3_placeOf) ∈ lw_all := List.mem_of_getElem? (i := 263) (by decide +kernel)
theorem q264 : (Cond.selects RX3 yX3_placeOf yX3_placeOf) ∈ lw_all := List.mem_of_getElem? (i := 264) (by decide +kernel)
theorem q265 : (Cond.code yX3_placeOf cX3_placeOf 2 (some .int)) ∈ lw_all := List.mem_of_getElem? (i := 265) (by decide +kernel)
theorem q266 : (Cond.methodLink RX3 38 yX0_at) ∈ lw_all := List.mem_of_getElem? (i := 266) (by decide +kernel)
theorem q267 : (Cond.methodLink RX3 64 yX3_keyOf) ∈ lw_all := List.mem_of_getElem? (i := 267) (by decide +kernel)
theorem q268 : (Cond.instanceMethod yX3_keyOf) ∈ lw_all := List.mem_of_getElem? (i := 268) (by decide +kernel)
theorem q269 : (Cond.selects RX3 yX3_keyOf yX3_keyOf) ∈ lw_all := List.mem_of_getElem? (i := 269) (by decide +kernel)
theorem q270 : (Cond.code yX3_keyOf cX3_keyOf 2 (some .int)) ∈ lw_all := List.mem_of_getElem? (i := 270) (by decide +kernel)
theorem q271 : (Cond.methodLink RX6 66 yX1_record) ∈ lw_all := List.mem_of_getElem? (i := 271) (by decide +kernel)
theorem q272 : (Cond.instanceMethod yX1_record) ∈ lw_all := List.mem_of_getElem? (i := 272) (by decide +kernel)
theorem q273 : (Cond.selects RX1 yX1_record yX1_record) ∈ lw_all := List.mem_of_getElem? (i := 273) (by decide +kernel)
theorem q274 : (Cond.code yX1_record cX1_record 3 none) ∈ lw_all := List.mem_of_getElem? (i := 274) (by decide +kernel)
theorem q275 : (Cond.methodLink RX1 26 yX1_putOldestLast) ∈ lw_all := List.mem_of_getElem? (i := 275) (by decide +kernel)
theorem q276 : (Cond.instanceMethod yX1_putOldestLast) ∈ lw_all := List.mem_of_getElem? (i := 276) (by decide +kernel)
theorem q277 : (Cond.code yX1_putOldestLast cX1_putOldestLast 3 none) ∈ lw_all := List.mem_of_getElem? (i := 277) (by decide +kernel)
theorem q278 : (Cond.methodLink RX1 29 yX1_stateAt) ∈ lw_all := List.mem_of_getElem? (i := 278) (by decide +kernel)
theorem q279 : (Cond.instanceMethod yX1_stateAt) ∈ lw_all := List.mem_of_getElem? (i := 279) (by decide +kernel)
theorem q280 : (Cond.code yX1_stateAt cX1_stateAt 2 (some ((.object "PrunedSlices$Table")))) ∈ lw_all := List.mem_of_getElem? (i := 280) (by decide +kernel)
theorem q281 : (Cond.methodLink RX1 33 yX5_copyFrom) ∈ lw_all := List.mem_of_getElem? (i := 281) (by decide +kernel)
theorem q282 : (Cond.instanceMethod yX5_copyFrom) ∈ lw_all := List.mem_of_getElem? (i := 282) (by decide +kernel)
theorem q283 : (Cond.selects RX5 yX5_copyFrom yX5_copyFrom) ∈ lw_all := List.mem_of_getElem? (i := 283) (by decide +kernel)
theorem q284 : (Cond.code yX5_copyFrom cX5_copyFrom 2 none) ∈ lw_all := List.mem_of_getElem? (i := 284) (by decide +kernel)
theorem q285 : (Cond.methodLink RX5 29 yX3_copyFrom) ∈ lw_all := List.mem_of_getElem? (i := 285) (by decide +kernel)
theorem q286 : (Cond.instanceMethod yX3_copyFrom) ∈ lw_all := List.mem_of_getElem? (i := 286) (by decide +kernel)
theorem q287 : (Cond.selects RX3 yX3_copyFrom yX3_copyFrom) ∈ lw_all := List.mem_of_getElem? (i := 287) (by decide +kernel)
theorem q288 : (Cond.code yX3_copyFrom cX3_copyFrom 2 none) ∈ lw_all := List.mem_of_getElem? (i := 288) (by decide +kernel)
theorem q289 : (Cond.methodLink RX3 26 yX0_copyFrom) ∈ lw_all := List.mem_of_getElem? (i := 289) (by decide +kernel)
theorem q290 : (Cond.instanceMethod yX0_copyFrom) ∈ lw_all := List.mem_of_getElem? (i := 290) (by decide +kernel)
theorem q291 : (Cond.selects RX0 yX0_copyFrom yX0_copyFrom) ∈ lw_all := List.mem_of_getElem? (i := 291) (by decide +kernel)
theorem q292 : (Cond.code yX0_copyFrom cX0_copyFrom 2 none) ∈ lw_all := List.mem_of_getElem? (i := 292) (by decide +kernel)
theorem q293 : (Cond.methodLink RX0 13 Lib.Math.min.name) ∈ lw_all := List.mem_of_getElem? (i := 293) (by decide +kernel)
theorem q294 : (Cond.static Lib.Math.min.name) ∈ lw_all := List.mem_of_getElem? (i := 294) (by decide +kernel)
theorem q295 : (Cond.code Lib.Math.min.name Lib.Math.min.code 2 (some .int)) ∈ lw_all := List.mem_of_getElem? (i := 295) (by decide +kernel)
theorem q296 : (Cond.methodLink RX0 19 arraycopyName) ∈ lw_all := List.mem_of_getElem? (i := 296) (by decide +kernel)
theorem q297 : (Cond.static arraycopyName) ∈ lw_all := List.mem_of_getElem? (i := 297) (by decide +kernel)
theorem q298 : (Cond.native arraycopyName) ∈ lw_all := List.mem_of_getElem? (i := 298) (by decide +kernel)
theorem q299 : (Cond.methodLink RX5 33 yX4_copyFrom) ∈ lw_all := List.mem_of_getElem? (i := 299) (by decide +kernel)
theorem q300 : (Cond.instanceMethod yX4_copyFrom) ∈ lw_all := List.mem_of_getElem? (i := 300) (by decide +kernel)
theorem q301 : (Cond.selects RX4 yX4_copyFrom yX4_copyFrom) ∈ lw_all := List.mem_of_getElem? (i := 301) (by decide +kernel)
theorem q302 : (Cond.code yX4_copyFrom cX4_copyFrom 2 none) ∈ lw_all := List.mem_of_getElem? (i := 302) (by decide +kernel)
theorem q303 : (Cond.methodLink RX4 26 yX0_copyFrom) ∈ lw_all := List.mem_of_getElem? (i := 303) (by decide +kernel)
theorem q304 : (Cond.methodLink RX6 70 yX3_append) ∈ lw_all := List.mem_of_getElem? (i := 304) (by decide +kernel)
theorem q305 : (Cond.instanceMethod yX3_append) ∈ lw_all := List.mem_of_getElem? (i := 305) (by decide +kernel)
theorem q306 : (Cond.selects RX3 yX3_append yX3_append) ∈ lw_all := List.mem_of_getElem? (i := 306) (by decide +kernel)
theorem q307 : (Cond.code yX3_append cX3_append 5 (some .int)) ∈ lw_all := List.mem_of_getElem? (i := 307) (by decide +kernel)
theorem q308 : (Cond.methodLink RX3 41 yX0_write) ∈ lw_all := List.mem_of_getElem? (i := 308) (by decide +kernel)
theorem q309 : (Cond.instanceMethod yX0_write) ∈ lw_all := List.mem_of_getElem? (i := 309) (by decide +kernel)
theorem q310 : (Cond.selects RX0 yX0_write yX0_write) ∈ lw_all := List.mem_of_getElem? (i := 310) (by decide +kernel)
theorem q311 : (Cond.code yX0_write cX0_write 3 none) ∈ lw_all := List.mem_of_getElem? (i := 311) (by decide +kernel)
theorem q312 : (Cond.methodLink RL 18 yX6_stage) ∈ lw_all := List.mem_of_getElem? (i := 312) (by decide +kernel)
theorem q313 : (Cond.instanceMethod yX6_stage) ∈ lw_all := List.mem_of_getElem? (i := 313) (by decide +kernel)
theorem q314 : (Cond.selects RX6 yX6_stage yX6_stage) ∈ lw_all := List.mem_of_getElem? (i := 314) (by decide +kernel)
theorem q315 : (Cond.code yX6_stage cX6_stage 3 (some .int)) ∈ lw_all := List.mem_of_getElem? (i := 315) (by decide +kernel)
theorem q316 : (Cond.methodLink RL 22 yX6_take) ∈ lw_all := List.mem_of_getElem? (i := 316) (by decide +kernel)
theorem q317 : (Cond.instanceMethod yX6_take) ∈ lw_all := List.mem_of_getElem? (i := 317) (by decide +kernel)
theorem q318 : (Cond.selects RX6 yX6_take yX6_take) ∈ lw_all := List.mem_of_getElem? (i := 318) (by decide +kernel)
theorem q319 : (Cond.code yX6_take cX6_take 2 (some .int)) ∈ lw_all := List.mem_of_getElem? (i := 319) (by decide +kernel)
theorem q320 : (Cond.methodLink RX6 74 yX3_has) ∈ lw_all := List.mem_of_getElem? (i := 320) (by decide +kernel)
theorem q321 : (Cond.instanceMethod yX3_has) ∈ lw_all := List.mem_of_getElem? (i := 321) (by decide +kernel)
theorem q322 : (Cond.selects RX3 yX3_has yX3_has) ∈ lw_all := List.mem_of_getElem? (i := 322) (by decide +kernel)
theorem q323 : (Cond.code yX3_has cX3_has 2 (some .boolean)) ∈ lw_all := List.mem_of_getElem? (i := 323) (by decide +kernel)
theorem q324 : (Cond.methodLink RX6 77 yX3_move) ∈ lw_all := List.mem_of_getElem? (i := 324) (by decide +kernel)
theorem q325 : (Cond.instanceMethod yX3_move) ∈ lw_all := List.mem_of_getElem? (i := 325) (by decide +kernel)
theorem q326 : (Cond.selects RX3 yX3_move yX3_move) ∈ lw_all := List.mem_of_getElem? (i := 326) (by decide +kernel)
theorem q327 : (Cond.code yX3_move cX3_move 3 none) ∈ lw_all := List.mem_of_getElem? (i := 327) (by decide +kernel)
theorem q328 : (Cond.methodLink RX6 81 yX3_keyOf) ∈ lw_all := List.mem_of_getElem? (i := 328) (by decide +kernel)
theorem q329 : (Cond.methodLink RL 27 yX6_rekey) ∈ lw_all := List.mem_of_getElem? (i := 329) (by decide +kernel)
theorem q330 : (Cond.instanceMethod yX6_rekey) ∈ lw_all := List.mem_of_getElem? (i := 330) (by decide +kernel)
theorem q331 : (Cond.selects RX6 yX6_rekey yX6_rekey) ∈ lw_all := List.mem_of_getElem? (i := 331) (by decide +kernel)
theorem q332 : (Cond.code yX6_rekey cX6_rekey 6 (some .int)) ∈ lw_all := List.mem_of_getElem? (i := 332) (by decide +kernel)
theorem q333 : (Cond.methodLink RX6 84 yX3_placeOf) ∈ lw_all := List.mem_of_getElem? (i := 333) (by decide +kernel)
theorem q334 : (Cond.methodLink RX6 87 yX3_changeKey) ∈ lw_all := List.mem_of_getElem? (i := 334) (by decide +kernel)
theorem q335 : (Cond.instanceMethod yX3_changeKey) ∈ lw_all := List.mem_of_getElem? (i := 335) (by decide +kernel)
theorem q336 : (Cond.selects RX3 yX3_changeKey yX3_changeKey) ∈ lw_all := List.mem_of_getElem? (i := 336) (by decide +kernel)
theorem q337 : (Cond.code yX3_changeKey cX3_changeKey 3 none) ∈ lw_all := List.mem_of_getElem? (i := 337) (by decide +kernel)
theorem q338 : (Cond.methodLink RL 31 yX6_addSlice) ∈ lw_all := List.mem_of_getElem? (i := 338) (by decide +kernel)
theorem q339 : (Cond.instanceMethod yX6_addSlice) ∈ lw_all := List.mem_of_getElem? (i := 339) (by decide +kernel)
theorem q340 : (Cond.selects RX6 yX6_addSlice yX6_addSlice) ∈ lw_all := List.mem_of_getElem? (i := 340) (by decide +kernel)
theorem q341 : (Cond.code yX6_addSlice cX6_addSlice 5 (some .int)) ∈ lw_all := List.mem_of_getElem? (i := 341) (by decide +kernel)
theorem q342 : (Cond.methodLink RX6 90 yX6_areBounds) ∈ lw_all := List.mem_of_getElem? (i := 342) (by decide +kernel)
theorem q343 : (Cond.static yX6_areBounds) ∈ lw_all := List.mem_of_getElem? (i := 343) (by decide +kernel)
theorem q344 : (Cond.code yX6_areBounds cX6_areBounds 2 (some .boolean)) ∈ lw_all := List.mem_of_getElem? (i := 344) (by decide +kernel)
theorem q345 : (Cond.methodLink RX6 94 yX3_amountWithKeys) ∈ lw_all := List.mem_of_getElem? (i := 345) (by decide +kernel)
theorem q346 : (Cond.methodLink RX6 101 yX4_overlap) ∈ lw_all := List.mem_of_getElem? (i := 346) (by decide +kernel)
theorem q347 : (Cond.instanceMethod yX4_overlap) ∈ lw_all := List.mem_of_getElem? (i := 347) (by decide +kernel)
theorem q348 : (Cond.selects RX4 yX4_overlap yX4_overlap) ∈ lw_all := List.mem_of_getElem? (i := 348) (by decide +kernel)
theorem q349 : (Cond.code yX4_overlap cX4_overlap 4 (some .boolean)) ∈ lw_all := List.mem_of_getElem? (i := 349) (by decide +kernel)
theorem q350 : (Cond.methodLink RX6 109 yX4_isFull) ∈ lw_all := List.mem_of_getElem? (i := 350) (by decide +kernel)
theorem q351 : (Cond.instanceMethod yX4_isFull) ∈ lw_all := List.mem_of_getElem? (i := 351) (by decide +kernel)
theorem q352 : (Cond.selects RX4 yX4_isFull yX4_isFull) ∈ lw_all := List.mem_of_getElem? (i := 352) (by decide +kernel)
theorem q353 : (Cond.code yX4_isFull cX4_isFull 1 (some .boolean)) ∈ lw_all := List.mem_of_getElem? (i := 353) (by decide +kernel)
theorem q354 : (Cond.methodLink RX6 113 yX4_append) ∈ lw_all := List.mem_of_getElem? (i := 354) (by decide +kernel)
theorem q355 : (Cond.instanceMethod yX4_append) ∈ lw_all := List.mem_of_getElem? (i := 355) (by decide +kernel)
theorem q356 : (Cond.selects RX4 yX4_append yX4_append) ∈ lw_all := List.mem_of_getElem? (i := 356) (by decide +kernel)
theorem q357 : (Cond.code yX4_append cX4_append 4 (some .int)) ∈ lw_all := List.mem_of_getElem? (i := 357) (by decide +kernel)
theorem q358 : (Cond.methodLink RX4 53 yX4_copyEntry) ∈ lw_all := List.mem_of_getElem? (i := 358) (by decide +kernel)
theorem q359 : (Cond.instanceMethod yX4_copyEntry) ∈ lw_all := List.mem_of_getElem? (i := 359) (by decide +kernel)
theorem q360 : (Cond.code yX4_copyEntry cX4_copyEntry 3 none) ∈ lw_all := List.mem_of_getElem? (i := 360) (by decide +kernel)
theorem q361 : (Cond.methodLink RX4 57 yX0_write) ∈ lw_all := List.mem_of_getElem? (i := 361) (by decide +kernel)
theorem q362 : (Cond.methodLink RX4 60 yX4_changeBounds) ∈ lw_all := List.mem_of_getElem? (i := 362) (by decide +kernel)
theorem q363 : (Cond.instanceMethod yX4_changeBounds) ∈ lw_all := List.mem_of_getElem? (i := 363) (by decide +kernel)
theorem q364 : (Cond.selects RX4 yX4_changeBounds yX4_changeBounds) ∈ lw_all := List.mem_of_getElem? (i := 364) (by decide +kernel)
theorem q365 : (Cond.code yX4_changeBounds cX4_changeBounds 4 none) ∈ lw_all := List.mem_of_getElem? (i := 365) (by decide +kernel)
theorem q366 : (Cond.methodLink RX6 116 yX3_moveKeys) ∈ lw_all := List.mem_of_getElem? (i := 366) (by decide +kernel)
theorem q367 : (Cond.instanceMethod yX3_moveKeys) ∈ lw_all := List.mem_of_getElem? (i := 367) (by decide +kernel)
theorem q368 : (Cond.selects RX3 yX3_moveKeys yX3_moveKeys) ∈ lw_all := List.mem_of_getElem? (i := 368) (by decide +kernel)
theorem q369 : (Cond.code yX3_moveKeys cX3_moveKeys 6 none) ∈ lw_all := List.mem_of_getElem? (i := 369) (by decide +kernel)
theorem q370 : (Cond.methodLink RX3 53 yX3_move) ∈ lw_all := List.mem_of_getElem? (i := 370) (by decide +kernel)
theorem q371 : (Cond.methodLink RL 35 yX6_dropSlice) ∈ lw_all := List.mem_of_getElem? (i := 371) (by decide +kernel)
theorem q372 : (Cond.instanceMethod yX6_dropSlice) ∈ lw_all := List.mem_of_getElem? (i := 372) (by decide +kernel)
theorem q373 : (Cond.selects RX6 yX6_dropSlice yX6_dropSlice) ∈ lw_all := List.mem_of_getElem? (i := 373) (by decide +kernel)
theorem q374 : (Cond.code yX6_dropSlice cX6_dropSlice 3 (some .int)) ∈ lw_all := List.mem_of_getElem? (i := 374) (by decide +kernel)
theorem q375 : (Cond.methodLink RX6 120 yX4_has) ∈ lw_all := List.mem_of_getElem? (i := 375) (by decide +kernel)
theorem q376 : (Cond.instanceMethod yX4_has) ∈ lw_all := List.mem_of_getElem? (i := 376) (by decide +kernel)
theorem q377 : (Cond.selects RX4 yX4_has yX4_has) ∈ lw_all := List.mem_of_getElem? (i := 377) (by decide +kernel)
theorem q378 : (Cond.code yX4_has cX4_has 2 (some .boolean)) ∈ lw_all := List.mem_of_getElem? (i := 378) (by decide +kernel)
theorem q379 : (Cond.methodLink RX4 37 yX4_positionOf) ∈ lw_all := List.mem_of_getElem? (i := 379) (by decide +kernel)
theorem q380 : (Cond.instanceMethod yX4_positionOf) ∈ lw_all := List.mem_of_getElem? (i := 380) (by decide +kernel)
theorem q381 : (Cond.selects RX4 yX4_positionOf yX4_positionOf) ∈ lw_all := List.mem_of_getElem? (i := 381) (by decide +kernel)
theorem q382 : (Cond.code yX4_positionOf cX4_positionOf 3 (some .int)) ∈ lw_all := List.mem_of_getElem? (i := 382) (by decide +kernel)
theorem q383 : (Cond.methodLink RX6 121 yX3_moveAll) ∈ lw_all := List.mem_of_getElem? (i := 383) (by decide +kernel)
theorem q384 : (Cond.instanceMethod yX3_moveAll) ∈ lw_all := List.mem_of_getElem? (i := 384) (by decide +kernel)
theorem q385 : (Cond.selects RX3 yX3_moveAll yX3_moveAll) ∈ lw_all := List.mem_of_getElem? (i := 385) (by decide +kernel)
theorem q386 : (Cond.code yX3_moveAll cX3_moveAll 3 none) ∈ lw_all := List.mem_of_getElem? (i := 386) (by decide +kernel)
theorem q387 : (Cond.methodLink RX3 45 yX3_moveKeys) ∈ lw_all := List.mem_of_getElem? (i := 387) (by decide +kernel)
theorem q388 : (Cond.methodLink RX6 124 yX4_remove) ∈ lw_all := List.mem_of_getElem? (i := 388) (by decide +kernel)
theorem q389 : (Cond.instanceMethod yX4_remove) ∈ lw_all := List.mem_of_getElem? (i := 389) (by decide +kernel)
theorem q390 : (Cond.selects RX4 yX4_remove yX4_remove) ∈ lw_all := List.mem_of_getElem? (i := 390) (by decide +kernel)
theorem q391 : (Cond.code yX4_remove cX4_remove 4 none) ∈ lw_all := List.mem_of_getElem? (i := 391) (by decide +kernel)
theorem q392 : (Cond.methodLink RL 39 yX6_detach) ∈ lw_all := List.mem_of_getElem? (i := 392) (by decide +kernel)
theorem q393 : (Cond.instanceMethod yX6_detach) ∈ lw_all := List.mem_of_getElem? (i := 393) (by decide +kernel)
theorem q394 : (Cond.selects RX6 yX6_detach yX6_detach) ∈ lw_all := List.mem_of_getElem? (i := 394) (by decide +kernel)
theorem q395 : (Cond.code yX6_detach cX6_detach 3 (some .int)) ∈ lw_all := List.mem_of_getElem? (i := 395) (by decide +kernel)
theorem q396 : (Cond.methodLink RL 43 yX6_attach) ∈ lw_all := List.mem_of_getElem? (i := 396) (by decide +kernel)
theorem q397 : (Cond.instanceMethod yX6_attach) ∈ lw_all := List.mem_of_getElem? (i := 397) (by decide +kernel)
theorem q398 : (Cond.selects RX6 yX6_attach yX6_attach) ∈ lw_all := List.mem_of_getElem? (i := 398) (by decide +kernel)
theorem q399 : (Cond.code yX6_attach cX6_attach 4 (some .int)) ∈ lw_all := List.mem_of_getElem? (i := 399) (by decide +kernel)
theorem q400 : (Cond.methodLink RX6 127 yX5_unfitRows) ∈ lw_all := List.mem_of_getElem? (i := 400) (by decide +kernel)
theorem q401 : (Cond.instanceMethod yX5_unfitRows) ∈ lw_all := List.mem_of_getElem? (i := 401) (by decide +kernel)
theorem q402 : (Cond.selects RX5 yX5_unfitRows yX5_unfitRows) ∈ lw_all := List.mem_of_getElem? (i := 402) (by decide +kernel)
theorem q403 : (Cond.code yX5_unfitRows cX5_unfitRows 3 (some .int)) ∈ lw_all := List.mem_of_getElem? (i := 403) (by decide +kernel)
theorem q404 : (Cond.methodLink RX5 70 yX3_amountAt) ∈ lw_all := List.mem_of_getElem? (i := 404) (by decide +kernel)
theorem q405 : (Cond.methodLink RX5 73 yX3_amountWithKeys) ∈ lw_all := List.mem_of_getElem? (i := 405) (by decide +kernel)
theorem q406 : (Cond.methodLink RL 47 yX6_swap) ∈ lw_all := List.mem_of_getElem? (i := 406) (by decide +kernel)
theorem q407 : (Cond.instanceMethod yX6_swap) ∈ lw_all := List.mem_of_getElem? (i := 407) (by decide +kernel)
theorem q408 : (Cond.selects RX6 yX6_swap yX6_swap) ∈ lw_all := List.mem_of_getElem? (i := 408) (by decide +kernel)
theorem q409 : (Cond.code yX6_swap cX6_swap 4 (some .int)) ∈ lw_all := List.mem_of_getElem? (i := 409) (by decide +kernel)
theorem q410 : (Cond.methodLink RX6 130 yX4_positionOf) ∈ lw_all := List.mem_of_getElem? (i := 410) (by decide +kernel)
theorem q411 : (Cond.methodLink RX6 133 yX4_lowAt) ∈ lw_all := List.mem_of_getElem? (i := 411) (by decide +kernel)
theorem q412 : (Cond.methodLink RX6 136 yX4_highAt) ∈ lw_all := List.mem_of_getElem? (i := 412) (by decide +kernel)
theorem q413 : (Cond.methodLink RX6 139 yX3_exchange) ∈ lw_all := List.mem_of_getElem? (i := 413) (by decide +kernel)
theorem q414 : (Cond.instanceMethod yX3_exchange) ∈ lw_all := List.mem_of_getElem? (i := 414) (by decide +kernel)
theorem q415 : (Cond.selects RX3 yX3_exchange yX3_exchange) ∈ lw_all := List.mem_of_getElem? (i := 415) (by decide +kernel)
theorem q416 : (Cond.code yX3_exchange cX3_exchange 4 none) ∈ lw_all := List.mem_of_getElem? (i := 416) (by decide +kernel)
theorem q417 : (Cond.methodLink RL 52 yX6_split) ∈ lw_all := List.mem_of_getElem? (i := 417) (by decide +kernel)
theorem q418 : (Cond.instanceMethod yX6_split) ∈ lw_all := List.mem_of_getElem? (i := 418) (by decide +kernel)
theorem q419 : (Cond.selects RX6 yX6_split yX6_split) ∈ lw_all := List.mem_of_getElem? (i := 419) (by decide +kernel)
theorem q420 : (Cond.code yX6_split cX6_split 7 (some .int)) ∈ lw_all := List.mem_of_getElem? (i := 420) (by decide +kernel)
theorem q421 : (Cond.methodLink RX6 142 yX4_changeBounds) ∈ lw_all := List.mem_of_getElem? (i := 421) (by decide +kernel)
theorem q422 : (Cond.methodLink RL 56 yX6_merge) ∈ lw_all := List.mem_of_getElem? (i := 422) (by decide +kernel)
theorem q423 : (Cond.instanceMethod yX6_merge) ∈ lw_all := List.mem_of_getElem? (i := 423) (by decide +kernel)
theorem q424 : (Cond.selects RX6 yX6_merge yX6_merge) ∈ lw_all := List.mem_of_getElem? (i := 424) (by decide +kernel)
theorem q425 : (Cond.code yX6_merge cX6_merge 6 (some .int)) ∈ lw_all := List.mem_of_getElem? (i := 425) (by decide +kernel)
theorem q426 : (Cond.methodLink RX6 146 yX4_areBeside) ∈ lw_all := List.mem_of_getElem? (i := 426) (by decide +kernel)
theorem q427 : (Cond.instanceMethod yX4_areBeside) ∈ lw_all := List.mem_of_getElem? (i := 427) (by decide +kernel)
theorem q428 : (Cond.selects RX4 yX4_areBeside yX4_areBeside) ∈ lw_all := List.mem_of_getElem? (i := 428) (by decide +kernel)
theorem q429 : (Cond.code yX4_areBeside cX4_areBeside 3 (some .boolean)) ∈ lw_all := List.mem_of_getElem? (i := 429) (by decide +kernel)
theorem q430 : (Cond.methodLink RX6 149 yX4_unite) ∈ lw_all := List.mem_of_getElem? (i := 430) (by decide +kernel)
theorem q431 : (Cond.instanceMethod yX4_unite) ∈ lw_all := List.mem_of_getElem? (i := 431) (by decide +kernel)
theorem q432 : (Cond.selects RX4 yX4_unite yX4_unite) ∈ lw_all := List.mem_of_getElem? (i := 432) (by decide +kernel)
theorem q433 : (Cond.code yX4_unite cX4_unite 5 none) ∈ lw_all := List.mem_of_getElem? (i := 433) (by decide +kernel)
theorem q434 : (Cond.methodLink RX4 64 Lib.Math.min.name) ∈ lw_all := List.mem_of_getElem? (i := 434) (by decide +kernel)
theorem q435 : (Cond.methodLink RX4 70 Lib.Math.max.name) ∈ lw_all := List.mem_of_getElem? (i := 435) (by decide +kernel)
theorem q436 : (Cond.static Lib.Math.max.name) ∈ lw_all := List.mem_of_getElem? (i := 436) (by decide +kernel)
theorem q437 : (Cond.code Lib.Math.max.name Lib.Math.max.code 2 (some .int)) ∈ lw_all := List.mem_of_getElem? (i := 437) (by decide +kernel)
theorem q438 : (Cond.methodLink RX4 73 yX4_remove) ∈ lw_all := List.mem_of_getElem? (i := 438) (by decide +kernel)
theorem q439 : (Cond.methodLink RL 60 yX6_useDefault) ∈ lw_all := List.mem_of_getElem? (i := 439) (by decide +kernel)
theorem q440 : (Cond.instanceMethod yX6_useDefault) ∈ lw_all := List.mem_of_getElem? (i := 440) (by decide +kernel)
theorem q441 : (Cond.selects RX6 yX6_useDefault yX6_useDefault) ∈ lw_all := List.mem_of_getElem? (i := 441) (by decide +kernel)
theorem q442 : (Cond.code yX6_useDefault cX6_useDefault 2 (some .int)) ∈ lw_all := List.mem_of_getElem? (i := 442) (by decide +kernel)
theorem q443 : (Cond.methodLink RX6 156 yX4_freeKeys) ∈ lw_all := List.mem_of_getElem? (i := 443) (by decide +kernel)
theorem q444 : (Cond.instanceMethod yX4_freeKeys) ∈ lw_all := List.mem_of_getElem? (i := 444) (by decide +kernel)
theorem q445 : (Cond.selects RX4 yX4_freeKeys yX4_freeKeys) ∈ lw_all := List.mem_of_getElem? (i := 445) (by decide +kernel)
theorem q446 : (Cond.code yX4_freeKeys cX4_freeKeys 3 (some .int)) ∈ lw_all := List.mem_of_getElem? (i := 446) (by decide +kernel)
theorem q447 : (Cond.methodLink RX4 79 yX4_gapHigh) ∈ lw_all := List.mem_of_getElem? (i := 447) (by decide +kernel)
theorem q448 : (Cond.instanceMethod yX4_gapHigh) ∈ lw_all := List.mem_of_getElem? (i := 448) (by decide +kernel)
theorem q449 : (Cond.selects RX4 yX4_gapHigh yX4_gapHigh) ∈ lw_all := List.mem_of_getElem? (i := 449) (by decide +kernel)
theorem q450 : (Cond.code yX4_gapHigh cX4_gapHigh 2 (some .int)) ∈ lw_all := List.mem_of_getElem? (i := 450) (by decide +kernel)
theorem q451 : (Cond.methodLink RX4 76 yX4_gapLow) ∈ lw_all := List.mem_of_getElem? (i := 451) (by decide +kernel)
theorem q452 : (Cond.instanceMethod yX4_gapLow) ∈ lw_all := List.mem_of_getElem? (i := 452) (by decide +kernel)
theorem q453 : (Cond.selects RX4 yX4_gapLow yX4_gapLow) ∈ lw_all := List.mem_of_getElem? (i := 453) (by decide +kernel)
theorem q454 : (Cond.code yX4_gapLow cX4_gapLow 2 (some .int)) ∈ lw_all := List.mem_of_getElem? (i := 454) (by decide +kernel)
theorem q455 : (Cond.methodLink RL 65 yX6_mend) ∈ lw_all := List.mem_of_getElem? (i := 455) (by decide +kernel)
theorem q456 : (Cond.instanceMethod yX6_mend) ∈ lw_all := List.mem_of_getElem? (i := 456) (by decide +kernel)
theorem q457 : (Cond.selects RX6 yX6_mend yX6_mend) ∈ lw_all := List.mem_of_getElem? (i := 457) (by decide +kernel)
theorem q458 : (Cond.code yX6_mend cX6_mend 2 (some .int)) ∈ lw_all := List.mem_of_getElem? (i := 458) (by decide +kernel)
theorem q459 : (Cond.methodLink RX6 160 yX5_strays) ∈ lw_all := List.mem_of_getElem? (i := 459) (by decide +kernel)
theorem q460 : (Cond.instanceMethod yX5_strays) ∈ lw_all := List.mem_of_getElem? (i := 460) (by decide +kernel)
theorem q461 : (Cond.selects RX5 yX5_strays yX5_strays) ∈ lw_all := List.mem_of_getElem? (i := 461) (by decide +kernel)
theorem q462 : (Cond.code yX5_strays cX5_strays 3 (some .int)) ∈ lw_all := List.mem_of_getElem? (i := 462) (by decide +kernel)
theorem q463 : (Cond.methodLink RX5 63 yX5_isStray) ∈ lw_all := List.mem_of_getElem? (i := 463) (by decide +kernel)
theorem q464 : (Cond.instanceMethod yX5_isStray) ∈ lw_all := List.mem_of_getElem? (i := 464) (by decide +kernel)
theorem q465 : (Cond.selects RX5 yX5_isStray yX5_isStray) ∈ lw_all := List.mem_of_getElem? (i := 465) (by decide +kernel)
theorem q466 : (Cond.code yX5_isStray cX5_isStray 2 (some .boolean)) ∈ lw_all := List.mem_of_getElem? (i := 466) (by decide +kernel)
theorem q467 : (Cond.methodLink RX5 47 yX3_isInTable) ∈ lw_all := List.mem_of_getElem? (i := 467) (by decide +kernel)
theorem q468 : (Cond.instanceMethod yX3_isInTable) ∈ lw_all := List.mem_of_getElem? (i := 468) (by decide +kernel)
theorem q469 : (Cond.selects RX3 yX3_isInTable yX3_isInTable) ∈ lw_all := List.mem_of_getElem? (i := 469) (by decide +kernel)
theorem q470 : (Cond.code yX3_isInTable cX3_isInTable 3 (some .boolean)) ∈ lw_all := List.mem_of_getElem? (i := 470) (by decide +kernel)
theorem q471 : (Cond.methodLink RX5 51 yX3_keyOf) ∈ lw_all := List.mem_of_getElem? (i := 471) (by decide +kernel)
theorem q472 : (Cond.methodLink RX5 54 yX5_home) ∈ lw_all := List.mem_of_getElem? (i := 472) (by decide +kernel)
theorem q473 : (Cond.methodLink RX5 57 yX3_placeOf) ∈ lw_all := List.mem_of_getElem? (i := 473) (by decide +kernel)
theorem q474 : (Cond.methodLink RX6 163 yX5_strayIsHomeless) ∈ lw_all := List.mem_of_getElem? (i := 474) (by decide +kernel)
theorem q475 : (Cond.instanceMethod yX5_strayIsHomeless) ∈ lw_all := List.mem_of_getElem? (i := 475) (by decide +kernel)
theorem q476 : (Cond.selects RX5 yX5_strayIsHomeless yX5_strayIsHomeless) ∈ lw_all := List.mem_of_getElem? (i := 476) (by decide +kernel)
theorem q477 : (Cond.code yX5_strayIsHomeless cX5_strayIsHomeless 2 (some .boolean)) ∈ lw_all := List.mem_of_getElem? (i := 477) (by decide +kernel)
theorem q478 : (Cond.methodLink RX6 166 yX6_straysFit) ∈ lw_all := List.mem_of_getElem? (i := 478) (by decide +kernel)
theorem q479 : (Cond.instanceMethod yX6_straysFit) ∈ lw_all := List.mem_of_getElem? (i := 479) (by decide +kernel)
theorem q480 : (Cond.code yX6_straysFit cX6_straysFit 4 (some .boolean)) ∈ lw_all := List.mem_of_getElem? (i := 480) (by decide +kernel)
theorem q481 : (Cond.methodLink RX6 282 yX0_clear) ∈ lw_all := List.mem_of_getElem? (i := 481) (by decide +kernel)
theorem q482 : (Cond.instanceMethod yX0_clear) ∈ lw_all := List.mem_of_getElem? (i := 482) (by decide +kernel)
theorem q483 : (Cond.selects RX0 yX0_clear yX0_clear) ∈ lw_all := List.mem_of_getElem? (i := 483) (by decide +kernel)
theorem q484 : (Cond.code yX0_clear cX0_clear 2 none) ∈ lw_all := List.mem_of_getElem? (i := 484) (by decide +kernel)
theorem q485 : (Cond.methodLink RX6 271 yX0_at) ∈ lw_all := List.mem_of_getElem? (i := 485) (by decide +kernel)
theorem q486 : (Cond.methodLink RX6 285 yX0_write) ∈ lw_all := List.mem_of_getElem? (i := 486) (by decide +kernel)
theorem q487 : (Cond.methodLink RX6 210 yX5_isStray) ∈ lw_all := List.mem_of_getElem? (i := 487) (by decide +kernel)
theorem q488 : (Cond.methodLink RX6 169 yX5_moveStrays) ∈ lw_all := List.mem_of_getElem? (i := 488) (by decide +kernel)
theorem q489 : (Cond.instanceMethod yX5_moveStrays) ∈ lw_all := List.mem_of_getElem? (i := 489) (by decide +kernel)
theorem q490 : (Cond.selects RX5 yX5_moveStrays yX5_moveStrays) ∈ lw_all := List.mem_of_getElem? (i := 490) (by decide +kernel)
theorem q491 : (Cond.code yX5_moveStrays cX5_moveStrays 2 none) ∈ lw_all := List.mem_of_getElem? (i := 491) (by decide +kernel)
theorem q492 : (Cond.methodLink RX5 66 yX3_move) ∈ lw_all := List.mem_of_getElem? (i := 492) (by decide +kernel)
theorem q493 : (Cond.methodLink RL 70 yX6_set) ∈ lw_all := List.mem_of_getElem? (i := 493) (by decide +kernel)
theorem q494 : (Cond.instanceMethod yX6_set) ∈ lw_all := List.mem_of_getElem? (i := 494) (by decide +kernel)
theorem q495 : (Cond.selects RX6 yX6_set yX6_set) ∈ lw_all := List.mem_of_getElem? (i := 495) (by decide +kernel)
theorem q496 : (Cond.code yX6_set cX6_set 4 (some .int)) ∈ lw_all := List.mem_of_getElem? (i := 496) (by decide +kernel)
theorem q497 : (Cond.methodLink RL 74 yX6_type) ∈ lw_all := List.mem_of_getElem? (i := 497) (by decide +kernel)
theorem q498 : (Cond.instanceMethod yX6_type) ∈ lw_all := List.mem_of_getElem? (i := 498) (by decide +kernel)
theorem q499 : (Cond.selects RX6 yX6_type yX6_type) ∈ lw_all := List.mem_of_getElem? (i := 499) (by decide +kernel)
theorem q500 : (Cond.code yX6_type cX6_type 2 (some .int)) ∈ lw_all := List.mem_of_getElem? (i := 500) (by decide +kernel)
theorem q501 : (Cond.methodLink RX6 178 yX2_read) ∈ lw_all := List.mem_of_getElem? (i := 501) (by decide +kernel)
theorem q502 : (Cond.instanceMethod yX2_read) ∈ lw_all := List.mem_of_getElem? (i := 502) (by decide +kernel)
theorem q503 : (Cond.selects RX2 yX2_read yX2_read) ∈ lw_all := List.mem_of_getElem? (i := 503) (by decide +kernel)
theorem q504 : (Cond.code yX2_read cX2_read 2 none) ∈ lw_all := List.mem_of_getElem? (i := 504) (by decide +kernel)
theorem q505 : (Cond.methodLink RX2 54 yX2_isAllowed) ∈ lw_all := List.mem_of_getElem? (i := 505) (by decide +kernel)
theorem q506 : (Cond.instanceMethod yX2_isAllowed) ∈ lw_all := List.mem_of_getElem? (i := 506) (by decide +kernel)
theorem q507 : (Cond.code yX2_isAllowed cX2_isAllowed 2 (some .boolean)) ∈ lw_all := List.mem_of_getElem? (i := 507) (by decide +kernel)
theorem q508 : (Cond.methodLink RX2 62 yX2_startsTest) ∈ lw_all := List.mem_of_getElem? (i := 508) (by decide +kernel)
theorem q509 : (Cond.instanceMethod yX2_startsTest) ∈ lw_all := List.mem_of_getElem? (i := 509) (by decide +kernel)
theorem q510 : (Cond.code yX2_startsTest cX2_startsTest 2 (some .boolean)) ∈ lw_all := List.mem_of_getElem? (i := 510) (by decide +kernel)
theorem q511 : (Cond.methodLink RX2 80 yX2_addToken) ∈ lw_all := List.mem_of_getElem? (i := 511) (by decide +kernel)
theorem q512 : (Cond.instanceMethod yX2_addToken) ∈ lw_all := List.mem_of_getElem? (i := 512) (by decide +kernel)
theorem q513 : (Cond.code yX2_addToken cX2_addToken 3 none) ∈ lw_all := List.mem_of_getElem? (i := 513) (by decide +kernel)
theorem q514 : (Cond.methodLink RX2 84 yX0_write) ∈ lw_all := List.mem_of_getElem? (i := 514) (by decide +kernel)
theorem q515 : (Cond.methodLink RX2 65 yX2_isSign) ∈ lw_all := List.mem_of_getElem? (i := 515) (by decide +kernel)
theorem q516 : (Cond.instanceMethod yX2_isSign) ∈ lw_all := List.mem_of_getElem? (i := 516) (by decide +kernel)
theorem q517 : (Cond.code yX2_isSign cX2_isSign 2 (some .boolean)) ∈ lw_all := List.mem_of_getElem? (i := 517) (by decide +kernel)
theorem q518 : (Cond.methodLink RX2 68 yX2_isMinus) ∈ lw_all := List.mem_of_getElem? (i := 518) (by decide +kernel)
theorem q519 : (Cond.instanceMethod yX2_isMinus) ∈ lw_all := List.mem_of_getElem? (i := 519) (by decide +kernel)
theorem q520 : (Cond.code yX2_isMinus cX2_isMinus 2 (some .boolean)) ∈ lw_all := List.mem_of_getElem? (i := 520) (by decide +kernel)
theorem q521 : (Cond.methodLink RX2 71 yX2_isFirstDigit) ∈ lw_all := List.mem_of_getElem? (i := 521) (by decide +kernel)
theorem q522 : (Cond.instanceMethod yX2_isFirstDigit) ∈ lw_all := List.mem_of_getElem? (i := 522) (by decide +kernel)
theorem q523 : (Cond.code yX2_isFirstDigit cX2_isFirstDigit 2 (some .boolean)) ∈ lw_all := List.mem_of_getElem? (i := 523) (by decide +kernel)
theorem q524 : (Cond.methodLink RX2 92 yX2_setDigits) ∈ lw_all := List.mem_of_getElem? (i := 524) (by decide +kernel)
theorem q525 : (Cond.instanceMethod yX2_setDigits) ∈ lw_all := List.mem_of_getElem? (i := 525) (by decide +kernel)
theorem q526 : (Cond.code yX2_setDigits cX2_setDigits 2 none) ∈ lw_all := List.mem_of_getElem? (i := 526) (by decide +kernel)
theorem q527 : (Cond.methodLink RX2 74 yX2_isNextDigit) ∈ lw_all := List.mem_of_getElem? (i := 527) (by decide +kernel)
theorem q528 : (Cond.instanceMethod yX2_isNextDigit) ∈ lw_all := List.mem_of_getElem? (i := 528) (by decide +kernel)
theorem q529 : (Cond.code yX2_isNextDigit cX2_isNextDigit 3 (some .boolean)) ∈ lw_all := List.mem_of_getElem? (i := 529) (by decide +kernel)
theorem q530 : (Cond.methodLink RX2 77 yX2_followsTest) ∈ lw_all := List.mem_of_getElem? (i := 530) (by decide +kernel)
theorem q531 : (Cond.instanceMethod yX2_followsTest) ∈ lw_all := List.mem_of_getElem? (i := 531) (by decide +kernel)
theorem q532 : (Cond.code yX2_followsTest cX2_followsTest 2 (some .boolean)) ∈ lw_all := List.mem_of_getElem? (i := 532) (by decide +kernel)
theorem q533 : (Cond.methodLink RL 79 yX6_clearText) ∈ lw_all := List.mem_of_getElem? (i := 533) (by decide +kernel)
theorem q534 : (Cond.instanceMethod yX6_clearText) ∈ lw_all := List.mem_of_getElem? (i := 534) (by decide +kernel)
theorem q535 : (Cond.selects RX6 yX6_clearText yX6_clearText) ∈ lw_all := List.mem_of_getElem? (i := 535) (by decide +kernel)
theorem q536 : (Cond.code yX6_clearText cX6_clearText 2 (some .int)) ∈ lw_all := List.mem_of_getElem? (i := 536) (by decide +kernel)
theorem q537 : (Cond.methodLink RX6 182 yX2_forget) ∈ lw_all := List.mem_of_getElem? (i := 537) (by decide +kernel)
theorem q538 : (Cond.instanceMethod yX2_forget) ∈ lw_all := List.mem_of_getElem? (i := 538) (by decide +kernel)
theorem q539 : (Cond.selects RX2 yX2_forget yX2_forget) ∈ lw_all := List.mem_of_getElem? (i := 539) (by decide +kernel)
theorem q540 : (Cond.code yX2_forget cX2_forget 1 none) ∈ lw_all := List.mem_of_getElem? (i := 540) (by decide +kernel)
theorem q541 : (Cond.methodLink RL 83 yX6_fault) ∈ lw_all := List.mem_of_getElem? (i := 541) (by decide +kernel)
theorem q542 : (Cond.instanceMethod yX6_fault) ∈ lw_all := List.mem_of_getElem? (i := 542) (by decide +kernel)
theorem q543 : (Cond.selects RX6 yX6_fault yX6_fault) ∈ lw_all := List.mem_of_getElem? (i := 543) (by decide +kernel)
theorem q544 : (Cond.code yX6_fault cX6_fault 1 (some .int)) ∈ lw_all := List.mem_of_getElem? (i := 544) (by decide +kernel)
theorem q545 : (Cond.methodLink RX6 185 yX2_firstFault) ∈ lw_all := List.mem_of_getElem? (i := 545) (by decide +kernel)
theorem q546 : (Cond.instanceMethod yX2_firstFault) ∈ lw_all := List.mem_of_getElem? (i := 546) (by decide +kernel)
theorem q547 : (Cond.selects RX2 yX2_firstFault yX2_firstFault) ∈ lw_all := List.mem_of_getElem? (i := 547) (by decide +kernel)
theorem q548 : (Cond.code yX2_firstFault cX2_firstFault 2 (some .int)) ∈ lw_all := List.mem_of_getElem? (i := 548) (by decide +kernel)
theorem q549 : (Cond.methodLink RL 87 yX6_undo) ∈ lw_all := List.mem_of_getElem? (i := 549) (by decide +kernel)
theorem q550 : (Cond.instanceMethod yX6_undo) ∈ lw_all := List.mem_of_getElem? (i := 550) (by decide +kernel)
theorem q551 : (Cond.selects RX6 yX6_undo yX6_undo) ∈ lw_all := List.mem_of_getElem? (i := 551) (by decide +kernel)
theorem q552 : (Cond.code yX6_undo cX6_undo 1 (some .int)) ∈ lw_all := List.mem_of_getElem? (i := 552) (by decide +kernel)
theorem q553 : (Cond.methodLink RX6 191 yX1_giveBack) ∈ lw_all := List.mem_of_getElem? (i := 553) (by decide +kernel)
theorem q554 : (Cond.instanceMethod yX1_giveBack) ∈ lw_all := List.mem_of_getElem? (i := 554) (by decide +kernel)
theorem q555 : (Cond.selects RX1 yX1_giveBack yX1_giveBack) ∈ lw_all := List.mem_of_getElem? (i := 555) (by decide +kernel)
theorem q556 : (Cond.code yX1_giveBack cX1_giveBack 3 none) ∈ lw_all := List.mem_of_getElem? (i := 556) (by decide +kernel)
theorem q557 : (Cond.methodLink RL 91 yX6_keep) ∈ lw_all := List.mem_of_getElem? (i := 557) (by decide +kernel)
theorem q558 : (Cond.instanceMethod yX6_keep) ∈ lw_all := List.mem_of_getElem? (i := 558) (by decide +kernel)
theorem q559 : (Cond.selects RX6 yX6_keep yX6_keep) ∈ lw_all := List.mem_of_getElem? (i := 559) (by decide +kernel)
theorem q560 : (Cond.code yX6_keep cX6_keep 1 (some .int)) ∈ lw_all := List.mem_of_getElem? (i := 560) (by decide +kernel)
theorem q561 : (Cond.methodLink RX6 194 yX1_takeSnapshot) ∈ lw_all := List.mem_of_getElem? (i := 561) (by decide +kernel)
theorem q562 : (Cond.instanceMethod yX1_takeSnapshot) ∈ lw_all := List.mem_of_getElem? (i := 562) (by decide +kernel)
theorem q563 : (Cond.selects RX1 yX1_takeSnapshot yX1_takeSnapshot) ∈ lw_all := List.mem_of_getElem? (i := 563) (by decide +kernel)
theorem q564 : (Cond.code yX1_takeSnapshot cX1_takeSnapshot 2 none) ∈ lw_all := List.mem_of_getElem? (i := 564) (by decide +kernel)
theorem q565 : (Cond.methodLink RL 95 yX6_restore) ∈ lw_all := List.mem_of_getElem? (i := 565) (by decide +kernel)
theorem q566 : (Cond.instanceMethod yX6_restore) ∈ lw_all := List.mem_of_getElem? (i := 566) (by decide +kernel)
theorem q567 : (Cond.selects RX6 yX6_restore yX6_restore) ∈ lw_all := List.mem_of_getElem? (i := 567) (by decide +kernel)
theorem q568 : (Cond.code yX6_restore cX6_restore 1 (some .int)) ∈ lw_all := List.mem_of_getElem? (i := 568) (by decide +kernel)
theorem q569 : (Cond.methodLink RX6 204 yX5_copyFrom) ∈ lw_all := List.mem_of_getElem? (i := 569) (by decide +kernel)
theorem q570 : (Cond.methodLink RL 99 yX6_row) ∈ lw_all := List.mem_of_getElem? (i := 570) (by decide +kernel)
theorem q571 : (Cond.instanceMethod yX6_row) ∈ lw_all := List.mem_of_getElem? (i := 571) (by decide +kernel)
theorem q572 : (Cond.selects RX6 yX6_row yX6_row) ∈ lw_all := List.mem_of_getElem? (i := 572) (by decide +kernel)
theorem q573 : (Cond.code yX6_row cX6_row 3 (some .int)) ∈ lw_all := List.mem_of_getElem? (i := 573) (by decide +kernel)
theorem q574 : (Cond.methodLink RX6 207 yX3_valueOf) ∈ lw_all := List.mem_of_getElem? (i := 574) (by decide +kernel)
theorem q575 : (Cond.instanceMethod yX3_valueOf) ∈ lw_all := List.mem_of_getElem? (i := 575) (by decide +kernel)
theorem q576 : (Cond.selects RX3 yX3_valueOf yX3_valueOf) ∈ lw_all := List.mem_of_getElem? (i := 576) (by decide +kernel)
theorem q577 : (Cond.code yX3_valueOf cX3_valueOf 2 (some .int)) ∈ lw_all := List.mem_of_getElem? (i := 577) (by decide +kernel)
theorem q578 : (Cond.methodLink RL 103 yX6_slice) ∈ lw_all := List.mem_of_getElem? (i := 578) (by decide +kernel)
theorem q579 : (Cond.instanceMethod yX6_slice) ∈ lw_all := List.mem_of_getElem? (i := 579) (by decide +kernel)
theorem q580 : (Cond.selects RX6 yX6_slice yX6_slice) ∈ lw_all := List.mem_of_getElem? (i := 580) (by decide +kernel)
theorem q581 : (Cond.code yX6_slice cX6_slice 4 (some .int)) ∈ lw_all := List.mem_of_getElem? (i := 581) (by decide +kernel)
theorem q582 : (Cond.methodLink RX6 213 yX6_isPlace) ∈ lw_all := List.mem_of_getElem? (i := 582) (by decide +kernel)
theorem q583 : (Cond.instanceMethod yX6_isPlace) ∈ lw_all := List.mem_of_getElem? (i := 583) (by decide +kernel)
theorem q584 : (Cond.code yX6_isPlace cX6_isPlace 2 (some .boolean)) ∈ lw_all := List.mem_of_getElem? (i := 584) (by decide +kernel)
theorem q585 : (Cond.methodLink RX6 216 yX6_keyOfRanked) ∈ lw_all := List.mem_of_getElem? (i := 585) (by decide +kernel)
theorem q586 : (Cond.instanceMethod yX6_keyOfRanked) ∈ lw_all := List.mem_of_getElem? (i := 586) (by decide +kernel)
theorem q587 : (Cond.code yX6_keyOfRanked cX6_keyOfRanked 4 (some .int)) ∈ lw_all := List.mem_of_getElem? (i := 587) (by decide +kernel)
theorem q588 : (Cond.methodLink RX6 228 yX3_ranked) ∈ lw_all := List.mem_of_getElem? (i := 588) (by decide +kernel)
theorem q589 : (Cond.instanceMethod yX3_ranked) ∈ lw_all := List.mem_of_getElem? (i := 589) (by decide +kernel)
theorem q590 : (Cond.selects RX3 yX3_ranked yX3_ranked) ∈ lw_all := List.mem_of_getElem? (i := 590) (by decide +kernel)
theorem q591 : (Cond.code yX3_ranked cX3_ranked 4 (some .int)) ∈ lw_all := List.mem_of_getElem? (i := 591) (by decide +kernel)
theorem q592 : (Cond.methodLink RX3 70 yX3_amountAhead) ∈ lw_all := List.mem_of_getElem? (i := 592) (by decide +kernel)
theorem q593 : (Cond.instanceMethod yX3_amountAhead) ∈ lw_all := List.mem_of_getElem? (i := 593) (by decide +kernel)
theorem q594 : (Cond.code yX3_amountAhead cX3_amountAhead 7 (some .int)) ∈ lw_all := List.mem_of_getElem? (i := 594) (by decide +kernel)
theorem q595 : (Cond.methodLink RX6 219 yX3_sumAt) ∈ lw_all := List.mem_of_getElem? (i := 595) (by decide +kernel)
theorem q596 : (Cond.instanceMethod yX3_sumAt) ∈ lw_all := List.mem_of_getElem? (i := 596) (by decide +kernel)
theorem q597 : (Cond.selects RX3 yX3_sumAt yX3_sumAt) ∈ lw_all := List.mem_of_getElem? (i := 597) (by decide +kernel)
theorem q598 : (Cond.code yX3_sumAt cX3_sumAt 4 (some .int)) ∈ lw_all := List.mem_of_getElem? (i := 598) (by decide +kernel)
theorem q599 : (Cond.methodLink RX3 67 yX3_valueOf) ∈ lw_all := List.mem_of_getElem? (i := 599) (by decide +kernel)
theorem q600 : (Cond.methodLink RX6 222 yX5_straysAt) ∈ lw_all := List.mem_of_getElem? (i := 600) (by decide +kernel)
theorem q601 : (Cond.instanceMethod yX5_straysAt) ∈ lw_all := List.mem_of_getElem? (i := 601) (by decide +kernel)
theorem q602 : (Cond.selects RX5 yX5_straysAt yX5_straysAt) ∈ lw_all := List.mem_of_getElem? (i := 602) (by decide +kernel)
theorem q603 : (Cond.code yX5_straysAt cX5_straysAt 4 (some .int)) ∈ lw_all := List.mem_of_getElem? (i := 603) (by decide +kernel)
theorem q604 : (Cond.methodLink RL 107 yX6_ordered) ∈ lw_all := List.mem_of_getElem? (i := 604) (by decide +kernel)
theorem q605 : (Cond.instanceMethod yX6_ordered) ∈ lw_all := List.mem_of_getElem? (i := 605) (by decide +kernel)
theorem q606 : (Cond.selects RX6 yX6_ordered yX6_ordered) ∈ lw_all := List.mem_of_getElem? (i := 606) (by decide +kernel)
theorem q607 : (Cond.code yX6_ordered cX6_ordered 2 (some .int)) ∈ lw_all := List.mem_of_getElem? (i := 607) (by decide +kernel)
theorem q608 : (Cond.methodLink RX6 225 yX4_numberAt) ∈ lw_all := List.mem_of_getElem? (i := 608) (by decide +kernel)
theorem q609 : (Cond.methodLink RL 111 yX6_lies) ∈ lw_all := List.mem_of_getElem? (i := 609) (by decide +kernel)
theorem q610 : (Cond.instanceMethod yX6_lies) ∈ lw_all := List.mem_of_getElem? (i := 610) (by decide +kernel)
theorem q611 : (Cond.selects RX6 yX6_lies yX6_lies) ∈ lw_all := List.mem_of_getElem? (i := 611) (by decide +kernel)
theorem q612 : (Cond.code yX6_lies cX6_lies 3 (some .int)) ∈ lw_all := List.mem_of_getElem? (i := 612) (by decide +kernel)
theorem q613 : (Cond.methodLink RL 115 yX6_belongs) ∈ lw_all := List.mem_of_getElem? (i := 613) (by decide +kernel)
theorem q614 : (Cond.instanceMethod yX6_belongs) ∈ lw_all := List.mem_of_getElem? (i := 614) (by decide +kernel)
theorem q615 : (Cond.selects RX6 yX6_belongs yX6_belongs) ∈ lw_all := List.mem_of_getElem? (i := 615) (by decide +kernel)
theorem q616 : (Cond.code yX6_belongs cX6_belongs 2 (some .int)) ∈ lw_all := List.mem_of_getElem? (i := 616) (by decide +kernel)
theorem q617 : (Cond.methodLink RL 119 yX6_gap) ∈ lw_all := List.mem_of_getElem? (i := 617) (by decide +kernel)
theorem q618 : (Cond.instanceMethod yX6_gap) ∈ lw_all := List.mem_of_getElem? (i := 618) (by decide +kernel)
theorem q619 : (Cond.selects RX6 yX6_gap yX6_gap) ∈ lw_all := List.mem_of_getElem? (i := 619) (by decide +kernel)
theorem q620 : (Cond.code yX6_gap cX6_gap 4 (some .int)) ∈ lw_all := List.mem_of_getElem? (i := 620) (by decide +kernel)
theorem q621 : (Cond.methodLink RX6 231 yX4_gapRanked) ∈ lw_all := List.mem_of_getElem? (i := 621) (by decide +kernel)
theorem q622 : (Cond.instanceMethod yX4_gapRanked) ∈ lw_all := List.mem_of_getElem? (i := 622) (by decide +kernel)
theorem q623 : (Cond.selects RX4 yX4_gapRanked yX4_gapRanked) ∈ lw_all := List.mem_of_getElem? (i := 623) (by decide +kernel)
theorem q624 : (Cond.code yX4_gapRanked cX4_gapRanked 4 (some .int)) ∈ lw_all := List.mem_of_getElem? (i := 624) (by decide +kernel)
theorem q625 : (Cond.methodLink RX6 234 yX4_gapLow) ∈ lw_all := List.mem_of_getElem? (i := 625) (by decide +kernel)
theorem q626 : (Cond.methodLink RX6 237 yX4_gapHigh) ∈ lw_all := List.mem_of_getElem? (i := 626) (by decide +kernel)
theorem q627 : (Cond.methodLink RL 123 yX6_stray) ∈ lw_all := List.mem_of_getElem? (i := 627) (by decide +kernel)
theorem q628 : (Cond.instanceMethod yX6_stray) ∈ lw_all := List.mem_of_getElem? (i := 628) (by decide +kernel)
theorem q629 : (Cond.selects RX6 yX6_stray yX6_stray) ∈ lw_all := List.mem_of_getElem? (i := 629) (by decide +kernel)
theorem q630 : (Cond.code yX6_stray cX6_stray 4 (some .int)) ∈ lw_all := List.mem_of_getElem? (i := 630) (by decide +kernel)
theorem q631 : (Cond.methodLink RL 127 yX6_count) ∈ lw_all := List.mem_of_getElem? (i := 631) (by decide +kernel)
theorem q632 : (Cond.instanceMethod yX6_count) ∈ lw_all := List.mem_of_getElem? (i := 632) (by decide +kernel)
theorem q633 : (Cond.selects RX6 yX6_count yX6_count) ∈ lw_all := List.mem_of_getElem? (i := 633) (by decide +kernel)
theorem q634 : (Cond.code yX6_count cX6_count 2 (some .int)) ∈ lw_all := List.mem_of_getElem? (i := 634) (by decide +kernel)
theorem q635 : (Cond.methodLink RX6 241 yX3_amountInTable) ∈ lw_all := List.mem_of_getElem? (i := 635) (by decide +kernel)
theorem q636 : (Cond.instanceMethod yX3_amountInTable) ∈ lw_all := List.mem_of_getElem? (i := 636) (by decide +kernel)
theorem q637 : (Cond.selects RX3 yX3_amountInTable yX3_amountInTable) ∈ lw_all := List.mem_of_getElem? (i := 637) (by decide +kernel)
theorem q638 : (Cond.code yX3_amountInTable cX3_amountInTable 3 (some .int)) ∈ lw_all := List.mem_of_getElem? (i := 638) (by decide +kernel)
theorem q639 : (Cond.methodLink RX3 56 yX3_isInTable) ∈ lw_all := List.mem_of_getElem? (i := 639) (by decide +kernel)
theorem q640 : (Cond.methodLink RX6 244 yX4_gaps) ∈ lw_all := List.mem_of_getElem? (i := 640) (by decide +kernel)
theorem q641 : (Cond.instanceMethod yX4_gaps) ∈ lw_all := List.mem_of_getElem? (i := 641) (by decide +kernel)
theorem q642 : (Cond.selects RX4 yX4_gaps yX4_gaps) ∈ lw_all := List.mem_of_getElem? (i := 642) (by decide +kernel)
theorem q643 : (Cond.code yX4_gaps cX4_gaps 3 (some .int)) ∈ lw_all := List.mem_of_getElem? (i := 643) (by decide +kernel)
theorem q644 : (Cond.methodLink RL 131 yX6_ask) ∈ lw_all := List.mem_of_getElem? (i := 644) (by decide +kernel)
theorem q645 : (Cond.instanceMethod yX6_ask) ∈ lw_all := List.mem_of_getElem? (i := 645) (by decide +kernel)
theorem q646 : (Cond.selects RX6 yX6_ask yX6_ask) ∈ lw_all := List.mem_of_getElem? (i := 646) (by decide +kernel)
theorem q647 : (Cond.code yX6_ask cX6_ask 2 (some .int)) ∈ lw_all := List.mem_of_getElem? (i := 647) (by decide +kernel)
theorem q648 : (Cond.methodLink RX6 247 yX2_isFaulty) ∈ lw_all := List.mem_of_getElem? (i := 648) (by decide +kernel)
theorem q649 : (Cond.instanceMethod yX2_isFaulty) ∈ lw_all := List.mem_of_getElem? (i := 649) (by decide +kernel)
theorem q650 : (Cond.selects RX2 yX2_isFaulty yX2_isFaulty) ∈ lw_all := List.mem_of_getElem? (i := 650) (by decide +kernel)
theorem q651 : (Cond.code yX2_isFaulty cX2_isFaulty 1 (some .boolean)) ∈ lw_all := List.mem_of_getElem? (i := 651) (by decide +kernel)
theorem q652 : (Cond.methodLink RX2 58 yX2_firstFault) ∈ lw_all := List.mem_of_getElem? (i := 652) (by decide +kernel)
theorem q653 : (Cond.methodLink RX6 250 yX6_markLooked) ∈ lw_all := List.mem_of_getElem? (i := 653) (by decide +kernel)
theorem q654 : (Cond.instanceMethod yX6_markLooked) ∈ lw_all := List.mem_of_getElem? (i := 654) (by decide +kernel)
theorem q655 : (Cond.code yX6_markLooked cX6_markLooked 3 none) ∈ lw_all := List.mem_of_getElem? (i := 655) (by decide +kernel)
theorem q656 : (Cond.methodLink RX6 293 yX6_sliceMayHold) ∈ lw_all := List.mem_of_getElem? (i := 656) (by decide +kernel)
theorem q657 : (Cond.instanceMethod yX6_sliceMayHold) ∈ lw_all := List.mem_of_getElem? (i := 657) (by decide +kernel)
theorem q658 : (Cond.code yX6_sliceMayHold cX6_sliceMayHold 5 (some .boolean)) ∈ lw_all := List.mem_of_getElem? (i := 658) (by decide +kernel)
theorem q659 : (Cond.methodLink RX6 299 yX2_truth) ∈ lw_all := List.mem_of_getElem? (i := 659) (by decide +kernel)
theorem q660 : (Cond.instanceMethod yX2_truth) ∈ lw_all := List.mem_of_getElem? (i := 660) (by decide +kernel)
theorem q661 : (Cond.selects RX2 yX2_truth yX2_truth) ∈ lw_all := List.mem_of_getElem? (i := 661) (by decide +kernel)
theorem q662 : (Cond.code yX2_truth cX2_truth 7 (some .int)) ∈ lw_all := List.mem_of_getElem? (i := 662) (by decide +kernel)
theorem q663 : (Cond.methodLink RX2 110 yX2_startDepth) ∈ lw_all := List.mem_of_getElem? (i := 663) (by decide +kernel)
theorem q664 : (Cond.instanceMethod yX2_startDepth) ∈ lw_all := List.mem_of_getElem? (i := 664) (by decide +kernel)
theorem q665 : (Cond.code yX2_startDepth cX2_startDepth 2 none) ∈ lw_all := List.mem_of_getElem? (i := 665) (by decide +kernel)
theorem q666 : (Cond.methodLink RX2 102 yX0_at) ∈ lw_all := List.mem_of_getElem? (i := 666) (by decide +kernel)
theorem q667 : (Cond.methodLink RX2 113 yX2_testTruth) ∈ lw_all := List.mem_of_getElem? (i := 667) (by decide +kernel)
theorem q668 : (Cond.instanceMethod yX2_testTruth) ∈ lw_all := List.mem_of_getElem? (i := 668) (by decide +kernel)
theorem q669 : (Cond.code yX2_testTruth cX2_testTruth 7 (some .int)) ∈ lw_all := List.mem_of_getElem? (i := 669) (by decide +kernel)
theorem q670 : (Cond.methodLink RX2 132 yX2_truthOf) ∈ lw_all := List.mem_of_getElem? (i := 670) (by decide +kernel)
theorem q671 : (Cond.static yX2_truthOf) ∈ lw_all := List.mem_of_getElem? (i := 671) (by decide +kernel)
theorem q672 : (Cond.code yX2_truthOf cX2_truthOf 2 (some .int)) ∈ lw_all := List.mem_of_getElem? (i := 672) (by decide +kernel)
theorem q673 : (Cond.methodLink RX2 117 yX2_addTruth) ∈ lw_all := List.mem_of_getElem? (i := 673) (by decide +kernel)
theorem q674 : (Cond.instanceMethod yX2_addTruth) ∈ lw_all := List.mem_of_getElem? (i := 674) (by decide +kernel)
theorem q675 : (Cond.code yX2_addTruth cX2_addTruth 4 none) ∈ lw_all := List.mem_of_getElem? (i := 675) (by decide +kernel)
theorem q676 : (Cond.methodLink RX2 123 Lib.Math.min.name) ∈ lw_all := List.mem_of_getElem? (i := 676) (by decide +kernel)
theorem q677 : (Cond.methodLink RX2 120 yX2_endPart) ∈ lw_all := List.mem_of_getElem? (i := 677) (by decide +kernel)
theorem q678 : (Cond.instanceMethod yX2_endPart) ∈ lw_all := List.mem_of_getElem? (i := 678) (by decide +kernel)
theorem q679 : (Cond.code yX2_endPart cX2_endPart 2 none) ∈ lw_all := List.mem_of_getElem? (i := 679) (by decide +kernel)
theorem q680 : (Cond.methodLink RX2 129 Lib.Math.max.name) ∈ lw_all := List.mem_of_getElem? (i := 680) (by decide +kernel)
theorem q681 : (Cond.methodLink RX6 303 yX2_someKeyMayHold) ∈ lw_all := List.mem_of_getElem? (i := 681) (by decide +kernel)
theorem q682 : (Cond.instanceMethod yX2_someKeyMayHold) ∈ lw_all := List.mem_of_getElem? (i := 682) (by decide +kernel)
theorem q683 : (Cond.selects RX2 yX2_someKeyMayHold yX2_someKeyMayHold) ∈ lw_all := List.mem_of_getElem? (i := 683) (by decide +kernel)
theorem q684 : (Cond.code yX2_someKeyMayHold cX2_someKeyMayHold 5 (some .boolean)) ∈ lw_all := List.mem_of_getElem? (i := 684) (by decide +kernel)
theorem q685 : (Cond.methodLink RX2 98 yX2_keyMayHold) ∈ lw_all := List.mem_of_getElem? (i := 685) (by decide +kernel)
theorem q686 : (Cond.instanceMethod yX2_keyMayHold) ∈ lw_all := List.mem_of_getElem? (i := 686) (by decide +kernel)
theorem q687 : (Cond.code yX2_keyMayHold cX2_keyMayHold 4 (some .boolean)) ∈ lw_all := List.mem_of_getElem? (i := 687) (by decide +kernel)
theorem q688 : (Cond.methodLink RX2 106 yX2_truth) ∈ lw_all := List.mem_of_getElem? (i := 688) (by decide +kernel)
theorem q689 : (Cond.methodLink RX6 296 yX6_someFreeKeyMayHold) ∈ lw_all := List.mem_of_getElem? (i := 689) (by decide +kernel)
theorem q690 : (Cond.instanceMethod yX6_someFreeKeyMayHold) ∈ lw_all := List.mem_of_getElem? (i := 690) (by decide +kernel)
theorem q691 : (Cond.code yX6_someFreeKeyMayHold cX6_someFreeKeyMayHold 4 (some .boolean)) ∈ lw_all := List.mem_of_getElem? (i := 691) (by decide +kernel)
theorem q692 : (Cond.methodLink RX6 253 yX6_answerAmount) ∈ lw_all := List.mem_of_getElem? (i := 692) (by decide +kernel)
theorem q693 : (Cond.instanceMethod yX6_answerAmount) ∈ lw_all := List.mem_of_getElem? (i := 693) (by decide +kernel)
theorem q694 : (Cond.code yX6_answerAmount cX6_answerAmount 3 (some .int)) ∈ lw_all := List.mem_of_getElem? (i := 694) (by decide +kernel)
theorem q695 : (Cond.methodLink RX6 268 yX6_isAnswer) ∈ lw_all := List.mem_of_getElem? (i := 695) (by decide +kernel)
theorem q696 : (Cond.instanceMethod yX6_isAnswer) ∈ lw_all := List.mem_of_getElem? (i := 696) (by decide +kernel)
theorem q697 : (Cond.code yX6_isAnswer cX6_isAnswer 2 (some .boolean)) ∈ lw_all := List.mem_of_getElem? (i := 697) (by decide +kernel)
theorem q698 : (Cond.methodLink RX6 306 yX6_isLooked) ∈ lw_all := List.mem_of_getElem? (i := 698) (by decide +kernel)
theorem q699 : (Cond.instanceMethod yX6_isLooked) ∈ lw_all := List.mem_of_getElem? (i := 699) (by decide +kernel)
theorem q700 : (Cond.code yX6_isLooked cX6_isLooked 2 (some .boolean)) ∈ lw_all := List.mem_of_getElem? (i := 700) (by decide +kernel)
theorem q701 : (Cond.methodLink RX6 274 yX6_rowPasses) ∈ lw_all := List.mem_of_getElem? (i := 701) (by decide +kernel)
theorem q702 : (Cond.instanceMethod yX6_rowPasses) ∈ lw_all := List.mem_of_getElem? (i := 702) (by decide +kernel)
theorem q703 : (Cond.code yX6_rowPasses cX6_rowPasses 3 (some .boolean)) ∈ lw_all := List.mem_of_getElem? (i := 703) (by decide +kernel)
theorem q704 : (Cond.methodLink RX6 256 yX6_answerSum) ∈ lw_all := List.mem_of_getElem? (i := 704) (by decide +kernel)
theorem q705 : (Cond.instanceMethod yX6_answerSum) ∈ lw_all := List.mem_of_getElem? (i := 705) (by decide +kernel)
theorem q706 : (Cond.code yX6_answerSum cX6_answerSum 3 (some .int)) ∈ lw_all := List.mem_of_getElem? (i := 706) (by decide +kernel)
theorem q707 : (Cond.methodLink RX6 259 yX6_lookedPlaces) ∈ lw_all := List.mem_of_getElem? (i := 707) (by decide +kernel)
theorem q708 : (Cond.instanceMethod yX6_lookedPlaces) ∈ lw_all := List.mem_of_getElem? (i := 708) (by decide +kernel)
theorem q709 : (Cond.code yX6_lookedPlaces cX6_lookedPlaces 3 (some .int)) ∈ lw_all := List.mem_of_getElem? (i := 709) (by decide +kernel)
theorem q710 : (Cond.methodLink RX6 262 yX6_lookedRows) ∈ lw_all := List.mem_of_getElem? (i := 710) (by decide +kernel)
theorem q711 : (Cond.instanceMethod yX6_lookedRows) ∈ lw_all := List.mem_of_getElem? (i := 711) (by decide +kernel)
theorem q712 : (Cond.code yX6_lookedRows cX6_lookedRows 3 (some .int)) ∈ lw_all := List.mem_of_getElem? (i := 712) (by decide +kernel)
theorem q713 : (Cond.methodLink RX6 265 yX6_wholeAmount) ∈ lw_all := List.mem_of_getElem? (i := 713) (by decide +kernel)
theorem q714 : (Cond.instanceMethod yX6_wholeAmount) ∈ lw_all := List.mem_of_getElem? (i := 714) (by decide +kernel)
theorem q715 : (Cond.code yX6_wholeAmount cX6_wholeAmount 3 (some .int)) ∈ lw_all := List.mem_of_getElem? (i := 715) (by decide +kernel)
theorem q716 : (Cond.methodLink RX6 309 yX3_isInTable) ∈ lw_all := List.mem_of_getElem? (i := 716) (by decide +kernel)
theorem q717 : (Cond.methodLink RL 135 yX6_answer) ∈ lw_all := List.mem_of_getElem? (i := 717) (by decide +kernel)
theorem q718 : (Cond.instanceMethod yX6_answer) ∈ lw_all := List.mem_of_getElem? (i := 718) (by decide +kernel)
theorem q719 : (Cond.selects RX6 yX6_answer yX6_answer) ∈ lw_all := List.mem_of_getElem? (i := 719) (by decide +kernel)
theorem q720 : (Cond.code yX6_answer cX6_answer 4 (some .int)) ∈ lw_all := List.mem_of_getElem? (i := 720) (by decide +kernel)
theorem q721 : (Cond.methodLink RL 139 yX6_looksInto) ∈ lw_all := List.mem_of_getElem? (i := 721) (by decide +kernel)
theorem q722 : (Cond.instanceMethod yX6_looksInto) ∈ lw_all := List.mem_of_getElem? (i := 722) (by decide +kernel)
theorem q723 : (Cond.selects RX6 yX6_looksInto yX6_looksInto) ∈ lw_all := List.mem_of_getElem? (i := 723) (by decide +kernel)
theorem q724 : (Cond.code yX6_looksInto cX6_looksInto 3 (some .int)) ∈ lw_all := List.mem_of_getElem? (i := 724) (by decide +kernel)
theorem q725 : (Cond.methodLink RL 143 yX6_passes) ∈ lw_all := List.mem_of_getElem? (i := 725) (by decide +kernel)
theorem q726 : (Cond.instanceMethod yX6_passes) ∈ lw_all := List.mem_of_getElem? (i := 726) (by decide +kernel)
theorem q727 : (Cond.selects RX6 yX6_passes yX6_passes) ∈ lw_all := List.mem_of_getElem? (i := 727) (by decide +kernel)
theorem q728 : (Cond.code yX6_passes cX6_passes 2 (some .int)) ∈ lw_all := List.mem_of_getElem? (i := 728) (by decide +kernel)
theorem q729 : (Cond.methodLink RL 147 yX6_spared) ∈ lw_all := List.mem_of_getElem? (i := 729) (by decide +kernel)
theorem q730 : (Cond.instanceMethod yX6_spared) ∈ lw_all := List.mem_of_getElem? (i := 730) (by decide +kernel)
theorem q731 : (Cond.selects RX6 yX6_spared yX6_spared) ∈ lw_all := List.mem_of_getElem? (i := 731) (by decide +kernel)
theorem q732 : (Cond.code yX6_spared cX6_spared 2 (some .double)) ∈ lw_all := List.mem_of_getElem? (i := 732) (by decide +kernel)
theorem q734 : (Cond.methodLink RL 152 yX6_unfit) ∈ lw_all := List.mem_of_getElem? (i := 734) (by decide +kernel)
theorem q735 : (Cond.instanceMethod yX6_unfit) ∈ lw_all := List.mem_of_getElem? (i := 735) (by decide +kernel)
theorem q736 : (Cond.selects RX6 yX6_unfit yX6_unfit) ∈ lw_all := List.mem_of_getElem? (i := 736) (by decide +kernel)
theorem q737 : (Cond.code yX6_unfit cX6_unfit 3 (some .int)) ∈ lw_all := List.mem_of_getElem? (i := 737) (by decide +kernel)
theorem q738 : (Cond.methodLink RL 156 yX6_bestSplit) ∈ lw_all := List.mem_of_getElem? (i := 738) (by decide +kernel)
theorem q739 : (Cond.instanceMethod yX6_bestSplit) ∈ lw_all := List.mem_of_getElem? (i := 739) (by decide +kernel)
theorem q740 : (Cond.selects RX6 yX6_bestSplit yX6_bestSplit) ∈ lw_all := List.mem_of_getElem? (i := 740) (by decide +kernel)
theorem q741 : (Cond.code yX6_bestSplit cX6_bestSplit 11 (some .int)) ∈ lw_all := List.mem_of_getElem? (i := 741) (by decide +kernel)
theorem q742 : (Cond.methodLink RX6 279 yX6_unevenness) ∈ lw_all := List.mem_of_getElem? (i := 742) (by decide +kernel)
theorem q743 : (Cond.instanceMethod yX6_unevenness) ∈ lw_all := List.mem_of_getElem? (i := 743) (by decide +kernel)
theorem q744 : (Cond.code yX6_unevenness cX6_unevenness 5 (some .int)) ∈ lw_all := List.mem_of_getElem? (i := 744) (by decide +kernel)
theorem q745 : (Cond.methodLink RX6 288 Lib.Math.abs.name) ∈ lw_all := List.mem_of_getElem? (i := 745) (by decide +kernel)
theorem q746 : (Cond.static Lib.Math.abs.name) ∈ lw_all := List.mem_of_getElem? (i := 746) (by decide +kernel)
theorem q747 : (Cond.code Lib.Math.abs.name Lib.Math.abs.code 1 (some .int)) ∈ lw_all := List.mem_of_getElem? (i := 747) (by decide +kernel)
theorem q748 : (Cond.methodLink RL 160 yX6_heaviest) ∈ lw_all := List.mem_of_getElem? (i := 748) (by decide +kernel)
theorem q749 : (Cond.instanceMethod yX6_heaviest) ∈ lw_all := List.mem_of_getElem? (i := 749) (by decide +kernel)
theorem q750 : (Cond.selects RX6 yX6_heaviest yX6_heaviest) ∈ lw_all := List.mem_of_getElem? (i := 750) (by decide +kernel)
theorem q751 : (Cond.code yX6_heaviest cX6_heaviest 6 (some .int)) ∈ lw_all := List.mem_of_getElem? (i := 751) (by decide +kernel)
theorem q752 : (Cond.classLink RL 10 RX7) ∈ lw_all := List.mem_of_getElem? (i := 752) (by decide +kernel)
theorem q753 : (Cond.instantiable RX7 18) ∈ lw_all := List.mem_of_getElem? (i := 753) (by decide +kernel)
theorem q754 : (Cond.methodLink RL 12 yX7_init) ∈ lw_all := List.mem_of_getElem? (i := 754) (by decide +kernel)
theorem q755 : (Cond.instanceMethod yX7_init) ∈ lw_all := List.mem_of_getElem? (i := 755) (by decide +kernel)
theorem q757 : (Cond.methodLink RX7 1 objectInit) ∈ lw_all := List.mem_of_getElem? (i := 757) (by decide +kernel)
theorem q758 : (Cond.fieldLink RX7 7 "PrunedSlicesModel" "now" "[I") ∈ lw_all := List.mem_of_getElem? (i := 758) (by decide +kernel)
theorem q759 : (Cond.fieldLink RX7 13 "PrunedSlicesModel" "slot" "[I") ∈ lw_all := List.mem_of_getElem? (i := 759) (by decide +kernel)
theorem q760 : (Cond.fieldLink RX7 16 "PrunedSlicesModel" "history" "[I") ∈ lw_all := List.mem_of_getElem? (i := 760) (by decide +kernel)
theorem q761 : (Cond.fieldLink RX7 19 "PrunedSlicesModel" "text" "[I") ∈ lw_all := List.mem_of_getElem? (i := 761) (by decide +kernel)
theorem q762 : (Cond.fieldLink RX7 22 "PrunedSlicesModel" "does" "[I") ∈ lw_all := List.mem_of_getElem? (i := 762) (by decide +kernel)
theorem q763 : (Cond.fieldLink RX7 25 "PrunedSlicesModel" "sign" "[I") ∈ lw_all := List.mem_of_getElem? (i := 763) (by decide +kernel)
theorem q764 : (Cond.fieldLink RX7 28 "PrunedSlicesModel" "number" "[I") ∈ lw_all := List.mem_of_getElem? (i := 764) (by decide +kernel)
theorem q765 : (Cond.fieldLink RX7 31 "PrunedSlicesModel" "waiting" "[I") ∈ lw_all := List.mem_of_getElem? (i := 765) (by decide +kernel)
theorem q766 : (Cond.fieldLink RX7 119 "PrunedSlicesModel" "many" "I") ∈ lw_all := List.mem_of_getElem? (i := 766) (by decide +kernel)
theorem q767 : (Cond.fieldLink RX7 122 "PrunedSlicesModel" "waits" "I") ∈ lw_all := List.mem_of_getElem? (i := 767) (by decide +kernel)
theorem q768 : (Cond.fieldLink RX7 116 "PrunedSlicesModel" "place" "I") ∈ lw_all := List.mem_of_getElem? (i := 768) (by decide +kernel)
theorem q769 : (Cond.fieldLink RX7 34 "PrunedSlicesModel" "first" "[I") ∈ lw_all := List.mem_of_getElem? (i := 769) (by decide +kernel)
theorem q770 : (Cond.fieldLink RX7 37 "PrunedSlicesModel" "second" "[I") ∈ lw_all := List.mem_of_getElem? (i := 770) (by decide +kernel)
theorem q771 : (Cond.fieldLink RX7 149 "PrunedSlicesModel" "top" "I") ∈ lw_all := List.mem_of_getElem? (i := 771) (by decide +kernel)
theorem q772 : (Cond.fieldLink RX7 40 "PrunedSlicesModel" "load" "[I") ∈ lw_all := List.mem_of_getElem? (i := 772) (by decide +kernel)
theorem q773 : (Cond.fieldLink RX7 43 "PrunedSlicesModel" "kept" "I") ∈ lw_all := List.mem_of_getElem? (i := 773) (by decide +kernel)
theorem q774 : (Cond.fieldLink RX7 113 "PrunedSlicesModel" "length" "I") ∈ lw_all := List.mem_of_getElem? (i := 774) (by decide +kernel)
theorem q775 : (Cond.fieldLink RX7 145 "PrunedSlicesModel" "isFilled" "Z") ∈ lw_all := List.mem_of_getElem? (i := 775) (by decide +kernel)
theorem q794 : (Cond.methodLink RL 17 yX7_put) ∈ lw_all := List.mem_of_getElem? (i := 794) (by decide +kernel)
theorem q795 : (Cond.instanceMethod yX7_put) ∈ lw_all := List.mem_of_getElem? (i := 795) (by decide +kernel)
theorem q796 : (Cond.selects RX7 yX7_put yX7_put) ∈ lw_all := List.mem_of_getElem? (i := 796) (by decide +kernel)
theorem q797 : (Cond.code yX7_put cX7_put 4 (some .int)) ∈ lw_all := List.mem_of_getElem? (i := 797) (by decide +kernel)
theorem q798 : (Cond.methodLink RX7 47 yX7_in) ∈ lw_all := List.mem_of_getElem? (i := 798) (by decide +kernel)
theorem q799 : (Cond.static yX7_in) ∈ lw_all := List.mem_of_getElem? (i := 799) (by decide +kernel)
theorem q800 : (Cond.code yX7_in cX7_in 3 (some .boolean)) ∈ lw_all := List.mem_of_getElem? (i := 800) (by decide +kernel)
theorem q801 : (Cond.methodLink RX7 63 yX7_belongsTo) ∈ lw_all := List.mem_of_getElem? (i := 801) (by decide +kernel)
theorem q802 : (Cond.instanceMethod yX7_belongsTo) ∈ lw_all := List.mem_of_getElem? (i := 802) (by decide +kernel)
theorem q803 : (Cond.code yX7_belongsTo cX7_belongsTo 3 (some .int)) ∈ lw_all := List.mem_of_getElem? (i := 803) (by decide +kernel)
theorem q804 : (Cond.methodLink RX7 59 yX7_owner) ∈ lw_all := List.mem_of_getElem? (i := 804) (by decide +kernel)
theorem q805 : (Cond.instanceMethod yX7_owner) ∈ lw_all := List.mem_of_getElem? (i := 805) (by decide +kernel)
theorem q806 : (Cond.code yX7_owner cX7_owner 3 (some .int)) ∈ lw_all := List.mem_of_getElem? (i := 806) (by decide +kernel)
theorem q807 : (Cond.methodLink RX7 51 yX7_isSlice) ∈ lw_all := List.mem_of_getElem? (i := 807) (by decide +kernel)
theorem q808 : (Cond.instanceMethod yX7_isSlice) ∈ lw_all := List.mem_of_getElem? (i := 808) (by decide +kernel)
theorem q809 : (Cond.code yX7_isSlice cX7_isSlice 2 (some .boolean)) ∈ lw_all := List.mem_of_getElem? (i := 809) (by decide +kernel)
theorem q810 : (Cond.methodLink RX7 55 yX7_has) ∈ lw_all := List.mem_of_getElem? (i := 810) (by decide +kernel)
theorem q811 : (Cond.instanceMethod yX7_has) ∈ lw_all := List.mem_of_getElem? (i := 811) (by decide +kernel)
theorem q812 : (Cond.code yX7_has cX7_has 3 (some .boolean)) ∈ lw_all := List.mem_of_getElem? (i := 812) (by decide +kernel)
theorem q813 : (Cond.methodLink RX7 70 yX7_rowsIn) ∈ lw_all := List.mem_of_getElem? (i := 813) (by decide +kernel)
theorem q814 : (Cond.instanceMethod yX7_rowsIn) ∈ lw_all := List.mem_of_getElem? (i := 814) (by decide +kernel)
theorem q815 : (Cond.code yX7_rowsIn cX7_rowsIn 4 (some .int)) ∈ lw_all := List.mem_of_getElem? (i := 815) (by decide +kernel)
theorem q816 : (Cond.methodLink RX7 73 yX7_record) ∈ lw_all := List.mem_of_getElem? (i := 816) (by decide +kernel)
theorem q817 : (Cond.instanceMethod yX7_record) ∈ lw_all := List.mem_of_getElem? (i := 817) (by decide +kernel)
theorem q818 : (Cond.code yX7_record cX7_record 2 none) ∈ lw_all := List.mem_of_getElem? (i := 818) (by decide +kernel)
theorem q819 : (Cond.methodLink RX7 76 yX7_addRow) ∈ lw_all := List.mem_of_getElem? (i := 819) (by decide +kernel)
theorem q820 : (Cond.instanceMethod yX7_addRow) ∈ lw_all := List.mem_of_getElem? (i := 820) (by decide +kernel)
theorem q821 : (Cond.code yX7_addRow cX7_addRow 5 (some .int)) ∈ lw_all := List.mem_of_getElem? (i := 821) (by decide +kernel)
theorem q822 : (Cond.methodLink RL 21 yX7_stage) ∈ lw_all := List.mem_of_getElem? (i := 822) (by decide +kernel)
theorem q823 : (Cond.instanceMethod yX7_stage) ∈ lw_all := List.mem_of_getElem? (i := 823) (by decide +kernel)
theorem q824 : (Cond.selects RX7 yX7_stage yX7_stage) ∈ lw_all := List.mem_of_getElem? (i := 824) (by decide +kernel)
theorem q825 : (Cond.code yX7_stage cX7_stage 3 (some .int)) ∈ lw_all := List.mem_of_getElem? (i := 825) (by decide +kernel)
theorem q826 : (Cond.methodLink RL 26 yX7_take) ∈ lw_all := List.mem_of_getElem? (i := 826) (by decide +kernel)
theorem q827 : (Cond.instanceMethod yX7_take) ∈ lw_all := List.mem_of_getElem? (i := 827) (by decide +kernel)
theorem q828 : (Cond.selects RX7 yX7_take yX7_take) ∈ lw_all := List.mem_of_getElem? (i := 828) (by decide +kernel)
theorem q829 : (Cond.code yX7_take cX7_take 2 (some .int)) ∈ lw_all := List.mem_of_getElem? (i := 829) (by decide +kernel)
theorem q830 : (Cond.methodLink RX7 80 yX7_isRow) ∈ lw_all := List.mem_of_getElem? (i := 830) (by decide +kernel)
theorem q831 : (Cond.instanceMethod yX7_isRow) ∈ lw_all := List.mem_of_getElem? (i := 831) (by decide +kernel)
theorem q832 : (Cond.code yX7_isRow cX7_isRow 2 (some .boolean)) ∈ lw_all := List.mem_of_getElem? (i := 832) (by decide +kernel)
theorem q833 : (Cond.methodLink RL 30 yX7_rekey) ∈ lw_all := List.mem_of_getElem? (i := 833) (by decide +kernel)
theorem q834 : (Cond.instanceMethod yX7_rekey) ∈ lw_all := List.mem_of_getElem? (i := 834) (by decide +kernel)
theorem q835 : (Cond.selects RX7 yX7_rekey yX7_rekey) ∈ lw_all := List.mem_of_getElem? (i := 835) (by decide +kernel)
theorem q836 : (Cond.code yX7_rekey cX7_rekey 6 (some .int)) ∈ lw_all := List.mem_of_getElem? (i := 836) (by decide +kernel)
theorem q837 : (Cond.methodLink RL 34 yX7_addSlice) ∈ lw_all := List.mem_of_getElem? (i := 837) (by decide +kernel)
theorem q838 : (Cond.instanceMethod yX7_addSlice) ∈ lw_all := List.mem_of_getElem? (i := 838) (by decide +kernel)
theorem q839 : (Cond.selects RX7 yX7_addSlice yX7_addSlice) ∈ lw_all := List.mem_of_getElem? (i := 839) (by decide +kernel)
theorem q840 : (Cond.code yX7_addSlice cX7_addSlice 4 (some .int)) ∈ lw_all := List.mem_of_getElem? (i := 840) (by decide +kernel)
theorem q841 : (Cond.methodLink RX7 83 yX7_areBounds) ∈ lw_all := List.mem_of_getElem? (i := 841) (by decide +kernel)
theorem q842 : (Cond.instanceMethod yX7_areBounds) ∈ lw_all := List.mem_of_getElem? (i := 842) (by decide +kernel)
theorem q843 : (Cond.code yX7_areBounds cX7_areBounds 3 (some .boolean)) ∈ lw_all := List.mem_of_getElem? (i := 843) (by decide +kernel)
theorem q844 : (Cond.methodLink RX7 86 yX7_isTaken) ∈ lw_all := List.mem_of_getElem? (i := 844) (by decide +kernel)
theorem q845 : (Cond.instanceMethod yX7_isTaken) ∈ lw_all := List.mem_of_getElem? (i := 845) (by decide +kernel)
theorem q846 : (Cond.code yX7_isTaken cX7_isTaken 4 (some .boolean)) ∈ lw_all := List.mem_of_getElem? (i := 846) (by decide +kernel)
theorem q847 : (Cond.methodLink RX7 89 yX7_rowsBetween) ∈ lw_all := List.mem_of_getElem? (i := 847) (by decide +kernel)
theorem q848 : (Cond.instanceMethod yX7_rowsBetween) ∈ lw_all := List.mem_of_getElem? (i := 848) (by decide +kernel)
theorem q849 : (Cond.code yX7_rowsBetween cX7_rowsBetween 6 (some .int)) ∈ lw_all := List.mem_of_getElem? (i := 849) (by decide +kernel)
theorem q850 : (Cond.methodLink RX7 92 yX7_isFullOfSlices) ∈ lw_all := List.mem_of_getElem? (i := 850) (by decide +kernel)
theorem q851 : (Cond.instanceMethod yX7_isFullOfSlices) ∈ lw_all := List.mem_of_getElem? (i := 851) (by decide +kernel)
theorem q852 : (Cond.code yX7_isFullOfSlices cX7_isFullOfSlices 1 (some .boolean)) ∈ lw_all := List.mem_of_getElem? (i := 852) (by decide +kernel)
theorem q853 : (Cond.methodLink RX7 66 yX7_slices) ∈ lw_all := List.mem_of_getElem? (i := 853) (by decide +kernel)
theorem q854 : (Cond.instanceMethod yX7_slices) ∈ lw_all := List.mem_of_getElem? (i := 854) (by decide +kernel)
theorem q855 : (Cond.code yX7_slices cX7_slices 3 (some .int)) ∈ lw_all := List.mem_of_getElem? (i := 855) (by decide +kernel)
theorem q856 : (Cond.methodLink RX7 96 yX7_cutSlice) ∈ lw_all := List.mem_of_getElem? (i := 856) (by decide +kernel)
theorem q857 : (Cond.instanceMethod yX7_cutSlice) ∈ lw_all := List.mem_of_getElem? (i := 857) (by decide +kernel)
theorem q858 : (Cond.code yX7_cutSlice cX7_cutSlice 4 (some .int)) ∈ lw_all := List.mem_of_getElem? (i := 858) (by decide +kernel)
theorem q859 : (Cond.methodLink RX7 100 yX7_moveBetween) ∈ lw_all := List.mem_of_getElem? (i := 859) (by decide +kernel)
theorem q860 : (Cond.instanceMethod yX7_moveBetween) ∈ lw_all := List.mem_of_getElem? (i := 860) (by decide +kernel)
theorem q861 : (Cond.code yX7_moveBetween cX7_moveBetween 6 none) ∈ lw_all := List.mem_of_getElem? (i := 861) (by decide +kernel)
theorem q862 : (Cond.methodLink RL 38 yX7_dropSlice) ∈ lw_all := List.mem_of_getElem? (i := 862) (by decide +kernel)
theorem q863 : (Cond.instanceMethod yX7_dropSlice) ∈ lw_all := List.mem_of_getElem? (i := 863) (by decide +kernel)
theorem q864 : (Cond.selects RX7 yX7_dropSlice yX7_dropSlice) ∈ lw_all := List.mem_of_getElem? (i := 864) (by decide +kernel)
theorem q865 : (Cond.code yX7_dropSlice cX7_dropSlice 3 (some .int)) ∈ lw_all := List.mem_of_getElem? (i := 865) (by decide +kernel)
theorem q866 : (Cond.methodLink RL 42 yX7_detach) ∈ lw_all := List.mem_of_getElem? (i := 866) (by decide +kernel)
theorem q867 : (Cond.instanceMethod yX7_detach) ∈ lw_all := List.mem_of_getElem? (i := 867) (by decide +kernel)
theorem q868 : (Cond.selects RX7 yX7_detach yX7_detach) ∈ lw_all := List.mem_of_getElem? (i := 868) (by decide +kernel)
theorem q869 : (Cond.code yX7_detach cX7_detach 3 (some .int)) ∈ lw_all := List.mem_of_getElem? (i := 869) (by decide +kernel)
theorem q870 : (Cond.methodLink RL 46 yX7_attach) ∈ lw_all := List.mem_of_getElem? (i := 870) (by decide +kernel)
theorem q871 : (Cond.instanceMethod yX7_attach) ∈ lw_all := List.mem_of_getElem? (i := 871) (by decide +kernel)
theorem q872 : (Cond.selects RX7 yX7_attach yX7_attach) ∈ lw_all := List.mem_of_getElem? (i := 872) (by decide +kernel)
theorem q873 : (Cond.code yX7_attach cX7_attach 4 (some .int)) ∈ lw_all := List.mem_of_getElem? (i := 873) (by decide +kernel)
theorem q874 : (Cond.methodLink RL 51 yX7_swap) ∈ lw_all := List.mem_of_getElem? (i := 874) (by decide +kernel)
theorem q875 : (Cond.instanceMethod yX7_swap) ∈ lw_all := List.mem_of_getElem? (i := 875) (by decide +kernel)
theorem q876 : (Cond.selects RX7 yX7_swap yX7_swap) ∈ lw_all := List.mem_of_getElem? (i := 876) (by decide +kernel)
theorem q877 : (Cond.code yX7_swap cX7_swap 5 (some .int)) ∈ lw_all := List.mem_of_getElem? (i := 877) (by decide +kernel)
theorem q878 : (Cond.methodLink RL 55 yX7_split) ∈ lw_all := List.mem_of_getElem? (i := 878) (by decide +kernel)
theorem q879 : (Cond.instanceMethod yX7_split) ∈ lw_all := List.mem_of_getElem? (i := 879) (by decide +kernel)
theorem q880 : (Cond.selects RX7 yX7_split yX7_split) ∈ lw_all := List.mem_of_getElem? (i := 880) (by decide +kernel)
theorem q881 : (Cond.code yX7_split cX7_split 5 (some .int)) ∈ lw_all := List.mem_of_getElem? (i := 881) (by decide +kernel)
theorem q882 : (Cond.methodLink RL 59 yX7_merge) ∈ lw_all := List.mem_of_getElem? (i := 882) (by decide +kernel)
theorem q883 : (Cond.instanceMethod yX7_merge) ∈ lw_all := List.mem_of_getElem? (i := 883) (by decide +kernel)
theorem q884 : (Cond.selects RX7 yX7_merge yX7_merge) ∈ lw_all := List.mem_of_getElem? (i := 884) (by decide +kernel)
theorem q885 : (Cond.code yX7_merge cX7_merge 5 (some .int)) ∈ lw_all := List.mem_of_getElem? (i := 885) (by decide +kernel)
theorem q886 : (Cond.methodLink RL 64 yX7_useDefault) ∈ lw_all := List.mem_of_getElem? (i := 886) (by decide +kernel)
theorem q887 : (Cond.instanceMethod yX7_useDefault) ∈ lw_all := List.mem_of_getElem? (i := 887) (by decide +kernel)
theorem q888 : (Cond.selects RX7 yX7_useDefault yX7_useDefault) ∈ lw_all := List.mem_of_getElem? (i := 888) (by decide +kernel)
theorem q889 : (Cond.code yX7_useDefault cX7_useDefault 2 (some .int)) ∈ lw_all := List.mem_of_getElem? (i := 889) (by decide +kernel)
theorem q890 : (Cond.methodLink RX7 104 yX7_freeKeys) ∈ lw_all := List.mem_of_getElem? (i := 890) (by decide +kernel)
theorem q891 : (Cond.instanceMethod yX7_freeKeys) ∈ lw_all := List.mem_of_getElem? (i := 891) (by decide +kernel)
theorem q892 : (Cond.code yX7_freeKeys cX7_freeKeys 3 (some .int)) ∈ lw_all := List.mem_of_getElem? (i := 892) (by decide +kernel)
theorem q893 : (Cond.methodLink RL 69 yX7_mend) ∈ lw_all := List.mem_of_getElem? (i := 893) (by decide +kernel)
theorem q894 : (Cond.instanceMethod yX7_mend) ∈ lw_all := List.mem_of_getElem? (i := 894) (by decide +kernel)
theorem q895 : (Cond.selects RX7 yX7_mend yX7_mend) ∈ lw_all := List.mem_of_getElem? (i := 895) (by decide +kernel)
theorem q896 : (Cond.code yX7_mend cX7_mend 4 (some .int)) ∈ lw_all := List.mem_of_getElem? (i := 896) (by decide +kernel)
theorem q897 : (Cond.methodLink RX7 110 yX7_strays) ∈ lw_all := List.mem_of_getElem? (i := 897) (by decide +kernel)
theorem q898 : (Cond.instanceMethod yX7_strays) ∈ lw_all := List.mem_of_getElem? (i := 898) (by decide +kernel)
theorem q899 : (Cond.code yX7_strays cX7_strays 3 (some .int)) ∈ lw_all := List.mem_of_getElem? (i := 899) (by decide +kernel)
theorem q900 : (Cond.methodLink RX7 107 yX7_isStray) ∈ lw_all := List.mem_of_getElem? (i := 900) (by decide +kernel)
theorem q901 : (Cond.instanceMethod yX7_isStray) ∈ lw_all := List.mem_of_getElem? (i := 901) (by decide +kernel)
theorem q902 : (Cond.code yX7_isStray cX7_isStray 3 (some .boolean)) ∈ lw_all := List.mem_of_getElem? (i := 902) (by decide +kernel)
theorem q903 : (Cond.methodLink RL 73 yX7_set) ∈ lw_all := List.mem_of_getElem? (i := 903) (by decide +kernel)
theorem q904 : (Cond.instanceMethod yX7_set) ∈ lw_all := List.mem_of_getElem? (i := 904) (by decide +kernel)
theorem q905 : (Cond.selects RX7 yX7_set yX7_set) ∈ lw_all := List.mem_of_getElem? (i := 905) (by decide +kernel)
theorem q906 : (Cond.code yX7_set cX7_set 4 (some .int)) ∈ lw_all := List.mem_of_getElem? (i := 906) (by decide +kernel)
theorem q907 : (Cond.methodLink RL 78 yX7_type) ∈ lw_all := List.mem_of_getElem? (i := 907) (by decide +kernel)
theorem q908 : (Cond.instanceMethod yX7_type) ∈ lw_all := List.mem_of_getElem? (i := 908) (by decide +kernel)
theorem q909 : (Cond.selects RX7 yX7_type yX7_type) ∈ lw_all := List.mem_of_getElem? (i := 909) (by decide +kernel)
theorem q910 : (Cond.code yX7_type cX7_type 2 (some .int)) ∈ lw_all := List.mem_of_getElem? (i := 910) (by decide +kernel)
theorem q911 : (Cond.methodLink RL 82 yX7_clearText) ∈ lw_all := List.mem_of_getElem? (i := 911) (by decide +kernel)
theorem q912 : (Cond.instanceMethod yX7_clearText) ∈ lw_all := List.mem_of_getElem? (i := 912) (by decide +kernel)
theorem q913 : (Cond.selects RX7 yX7_clearText yX7_clearText) ∈ lw_all := List.mem_of_getElem? (i := 913) (by decide +kernel)
theorem q914 : (Cond.code yX7_clearText cX7_clearText 2 (some .int)) ∈ lw_all := List.mem_of_getElem? (i := 914) (by decide +kernel)
theorem q915 : (Cond.methodLink RL 86 yX7_fault) ∈ lw_all := List.mem_of_getElem? (i := 915) (by decide +kernel)
theorem q916 : (Cond.instanceMethod yX7_fault) ∈ lw_all := List.mem_of_getElem? (i := 916) (by decide +kernel)
theorem q917 : (Cond.selects RX7 yX7_fault yX7_fault) ∈ lw_all := List.mem_of_getElem? (i := 917) (by decide +kernel)
theorem q918 : (Cond.code yX7_fault cX7_fault 1 (some .int)) ∈ lw_all := List.mem_of_getElem? (i := 918) (by decide +kernel)
theorem q919 : (Cond.methodLink RX7 142 yX7_read) ∈ lw_all := List.mem_of_getElem? (i := 919) (by decide +kernel)
theorem q920 : (Cond.instanceMethod yX7_read) ∈ lw_all := List.mem_of_getElem? (i := 920) (by decide +kernel)
theorem q921 : (Cond.code yX7_read cX7_read 6 (some .int)) ∈ lw_all := List.mem_of_getElem? (i := 921) (by decide +kernel)
theorem q922 : (Cond.methodLink RX7 129 yX7_isNext) ∈ lw_all := List.mem_of_getElem? (i := 922) (by decide +kernel)
theorem q923 : (Cond.instanceMethod yX7_isNext) ∈ lw_all := List.mem_of_getElem? (i := 923) (by decide +kernel)
theorem q924 : (Cond.code yX7_isNext cX7_isNext 3 (some .boolean)) ∈ lw_all := List.mem_of_getElem? (i := 924) (by decide +kernel)
theorem q925 : (Cond.methodLink RX7 132 yX7_isSign) ∈ lw_all := List.mem_of_getElem? (i := 925) (by decide +kernel)
theorem q926 : (Cond.instanceMethod yX7_isSign) ∈ lw_all := List.mem_of_getElem? (i := 926) (by decide +kernel)
theorem q927 : (Cond.code yX7_isSign cX7_isSign 1 (some .boolean)) ∈ lw_all := List.mem_of_getElem? (i := 927) (by decide +kernel)
theorem q928 : (Cond.methodLink RX7 135 yX7_readNumber) ∈ lw_all := List.mem_of_getElem? (i := 928) (by decide +kernel)
theorem q929 : (Cond.instanceMethod yX7_readNumber) ∈ lw_all := List.mem_of_getElem? (i := 929) (by decide +kernel)
theorem q930 : (Cond.code yX7_readNumber cX7_readNumber 5 (some .boolean)) ∈ lw_all := List.mem_of_getElem? (i := 930) (by decide +kernel)
theorem q931 : (Cond.methodLink RX7 125 yX7_add) ∈ lw_all := List.mem_of_getElem? (i := 931) (by decide +kernel)
theorem q932 : (Cond.instanceMethod yX7_add) ∈ lw_all := List.mem_of_getElem? (i := 932) (by decide +kernel)
theorem q933 : (Cond.code yX7_add cX7_add 4 none) ∈ lw_all := List.mem_of_getElem? (i := 933) (by decide +kernel)
theorem q934 : (Cond.methodLink RX7 138 yX7_settle) ∈ lw_all := List.mem_of_getElem? (i := 934) (by decide +kernel)
theorem q935 : (Cond.instanceMethod yX7_settle) ∈ lw_all := List.mem_of_getElem? (i := 935) (by decide +kernel)
theorem q936 : (Cond.code yX7_settle cX7_settle 2 none) ∈ lw_all := List.mem_of_getElem? (i := 936) (by decide +kernel)
theorem q937 : (Cond.methodLink RL 90 yX7_undo) ∈ lw_all := List.mem_of_getElem? (i := 937) (by decide +kernel)
theorem q938 : (Cond.instanceMethod yX7_undo) ∈ lw_all := List.mem_of_getElem? (i := 938) (by decide +kernel)
theorem q939 : (Cond.selects RX7 yX7_undo yX7_undo) ∈ lw_all := List.mem_of_getElem? (i := 939) (by decide +kernel)
theorem q940 : (Cond.code yX7_undo cX7_undo 2 (some .int)) ∈ lw_all := List.mem_of_getElem? (i := 940) (by decide +kernel)
theorem q941 : (Cond.methodLink RL 94 yX7_keep) ∈ lw_all := List.mem_of_getElem? (i := 941) (by decide +kernel)
theorem q942 : (Cond.instanceMethod yX7_keep) ∈ lw_all := List.mem_of_getElem? (i := 942) (by decide +kernel)
theorem q943 : (Cond.selects RX7 yX7_keep yX7_keep) ∈ lw_all := List.mem_of_getElem? (i := 943) (by decide +kernel)
theorem q944 : (Cond.code yX7_keep cX7_keep 2 (some .int)) ∈ lw_all := List.mem_of_getElem? (i := 944) (by decide +kernel)
theorem q945 : (Cond.methodLink RL 98 yX7_restore) ∈ lw_all := List.mem_of_getElem? (i := 945) (by decide +kernel)
theorem q946 : (Cond.instanceMethod yX7_restore) ∈ lw_all := List.mem_of_getElem? (i := 946) (by decide +kernel)
theorem q947 : (Cond.selects RX7 yX7_restore yX7_restore) ∈ lw_all := List.mem_of_getElem? (i := 947) (by decide +kernel)
theorem q948 : (Cond.code yX7_restore cX7_restore 2 (some .int)) ∈ lw_all := List.mem_of_getElem? (i := 948) (by decide +kernel)
theorem q949 : (Cond.methodLink RL 134 yX7_ask) ∈ lw_all := List.mem_of_getElem? (i := 949) (by decide +kernel)
theorem q950 : (Cond.instanceMethod yX7_ask) ∈ lw_all := List.mem_of_getElem? (i := 950) (by decide +kernel)
theorem q951 : (Cond.selects RX7 yX7_ask yX7_ask) ∈ lw_all := List.mem_of_getElem? (i := 951) (by decide +kernel)
theorem q952 : (Cond.code yX7_ask cX7_ask 9 (some .int)) ∈ lw_all := List.mem_of_getElem? (i := 952) (by decide +kernel)
theorem q953 : (Cond.methodLink RX7 182 yX7_look) ∈ lw_all := List.mem_of_getElem? (i := 953) (by decide +kernel)
theorem q954 : (Cond.instanceMethod yX7_look) ∈ lw_all := List.mem_of_getElem? (i := 954) (by decide +kernel)
theorem q955 : (Cond.code yX7_look cX7_look 2 none) ∈ lw_all := List.mem_of_getElem? (i := 955) (by decide +kernel)
theorem q956 : (Cond.methodLink RX7 173 yX7_looks) ∈ lw_all := List.mem_of_getElem? (i := 956) (by decide +kernel)
theorem q957 : (Cond.instanceMethod yX7_looks) ∈ lw_all := List.mem_of_getElem? (i := 957) (by decide +kernel)
theorem q958 : (Cond.code yX7_looks cX7_looks 3 (some .boolean)) ∈ lw_all := List.mem_of_getElem? (i := 958) (by decide +kernel)
theorem q959 : (Cond.methodLink RX7 167 yX7_canHold) ∈ lw_all := List.mem_of_getElem? (i := 959) (by decide +kernel)
theorem q960 : (Cond.instanceMethod yX7_canHold) ∈ lw_all := List.mem_of_getElem? (i := 960) (by decide +kernel)
theorem q961 : (Cond.code yX7_canHold cX7_canHold 5 (some .boolean)) ∈ lw_all := List.mem_of_getElem? (i := 961) (by decide +kernel)
theorem q962 : (Cond.methodLink RX7 159 yX7_passing) ∈ lw_all := List.mem_of_getElem? (i := 962) (by decide +kernel)
theorem q963 : (Cond.static yX7_passing) ∈ lw_all := List.mem_of_getElem? (i := 963) (by decide +kernel)
theorem q964 : (Cond.code yX7_passing cX7_passing 6 (some .int)) ∈ lw_all := List.mem_of_getElem? (i := 964) (by decide +kernel)
theorem q965 : (Cond.methodLink RX7 152 yX7_passesTest) ∈ lw_all := List.mem_of_getElem? (i := 965) (by decide +kernel)
theorem q966 : (Cond.static yX7_passesTest) ∈ lw_all := List.mem_of_getElem? (i := 966) (by decide +kernel)
theorem q967 : (Cond.code yX7_passesTest cX7_passesTest 3 (some .boolean)) ∈ lw_all := List.mem_of_getElem? (i := 967) (by decide +kernel)
theorem q968 : (Cond.methodLink RX7 155 yX7_push) ∈ lw_all := List.mem_of_getElem? (i := 968) (by decide +kernel)
theorem q969 : (Cond.instanceMethod yX7_push) ∈ lw_all := List.mem_of_getElem? (i := 969) (by decide +kernel)
theorem q970 : (Cond.code yX7_push cX7_push 3 none) ∈ lw_all := List.mem_of_getElem? (i := 970) (by decide +kernel)
theorem q971 : (Cond.methodLink RX7 170 yX7_hasKey) ∈ lw_all := List.mem_of_getElem? (i := 971) (by decide +kernel)
theorem q972 : (Cond.instanceMethod yX7_hasKey) ∈ lw_all := List.mem_of_getElem? (i := 972) (by decide +kernel)
theorem q973 : (Cond.code yX7_hasKey cX7_hasKey 4 (some .boolean)) ∈ lw_all := List.mem_of_getElem? (i := 973) (by decide +kernel)
theorem q974 : (Cond.methodLink RX7 163 yX7_truth) ∈ lw_all := List.mem_of_getElem? (i := 974) (by decide +kernel)
theorem q975 : (Cond.instanceMethod yX7_truth) ∈ lw_all := List.mem_of_getElem? (i := 975) (by decide +kernel)
theorem q976 : (Cond.code yX7_truth cX7_truth 7 (some .int)) ∈ lw_all := List.mem_of_getElem? (i := 976) (by decide +kernel)
theorem q977 : (Cond.methodLink RX7 176 yX7_isInTable) ∈ lw_all := List.mem_of_getElem? (i := 977) (by decide +kernel)
theorem q978 : (Cond.instanceMethod yX7_isInTable) ∈ lw_all := List.mem_of_getElem? (i := 978) (by decide +kernel)
theorem q979 : (Cond.code yX7_isInTable cX7_isInTable 2 (some .boolean)) ∈ lw_all := List.mem_of_getElem? (i := 979) (by decide +kernel)
theorem q980 : (Cond.methodLink RX7 185 yX7_isAnswer) ∈ lw_all := List.mem_of_getElem? (i := 980) (by decide +kernel)
theorem q981 : (Cond.instanceMethod yX7_isAnswer) ∈ lw_all := List.mem_of_getElem? (i := 981) (by decide +kernel)
theorem q982 : (Cond.code yX7_isAnswer cX7_isAnswer 2 (some .boolean)) ∈ lw_all := List.mem_of_getElem? (i := 982) (by decide +kernel)
theorem q983 : (Cond.methodLink RX7 179 yX7_isPassed) ∈ lw_all := List.mem_of_getElem? (i := 983) (by decide +kernel)
theorem q984 : (Cond.instanceMethod yX7_isPassed) ∈ lw_all := List.mem_of_getElem? (i := 984) (by decide +kernel)
theorem q985 : (Cond.code yX7_isPassed cX7_isPassed 2 (some .boolean)) ∈ lw_all := List.mem_of_getElem? (i := 985) (by decide +kernel)
theorem q986 : (Cond.methodLink RL 138 yX7_answer) ∈ lw_all := List.mem_of_getElem? (i := 986) (by decide +kernel)
theorem q987 : (Cond.instanceMethod yX7_answer) ∈ lw_all := List.mem_of_getElem? (i := 987) (by decide +kernel)
theorem q988 : (Cond.selects RX7 yX7_answer yX7_answer) ∈ lw_all := List.mem_of_getElem? (i := 988) (by decide +kernel)
theorem q989 : (Cond.code yX7_answer cX7_answer 4 (some .int)) ∈ lw_all := List.mem_of_getElem? (i := 989) (by decide +kernel)
theorem q990 : (Cond.methodLink RL 142 yX7_looksInto) ∈ lw_all := List.mem_of_getElem? (i := 990) (by decide +kernel)
theorem q991 : (Cond.instanceMethod yX7_looksInto) ∈ lw_all := List.mem_of_getElem? (i := 991) (by decide +kernel)
theorem q992 : (Cond.selects RX7 yX7_looksInto yX7_looksInto) ∈ lw_all := List.mem_of_getElem? (i := 992) (by decide +kernel)
theorem q993 : (Cond.code yX7_looksInto cX7_looksInto 3 (some .int)) ∈ lw_all := List.mem_of_getElem? (i := 993) (by decide +kernel)
theorem q994 : (Cond.methodLink RL 146 yX7_passes) ∈ lw_all := List.mem_of_getElem? (i := 994) (by decide +kernel)
theorem q995 : (Cond.instanceMethod yX7_passes) ∈ lw_all := List.mem_of_getElem? (i := 995) (by decide +kernel)
theorem q996 : (Cond.selects RX7 yX7_passes yX7_passes) ∈ lw_all := List.mem_of_getElem? (i := 996) (by decide +kernel)
theorem q997 : (Cond.code yX7_passes cX7_passes 2 (some .int)) ∈ lw_all := List.mem_of_getElem? (i := 997) (by decide +kernel)
theorem q998 : (Cond.methodLink RL 151 yX7_spared) ∈ lw_all := List.mem_of_getElem? (i := 998) (by decide +kernel)
theorem q999 : (Cond.instanceMethod yX7_spared) ∈ lw_all := List.mem_of_getElem? (i := 999) (by decide +kernel)
theorem q1000 : (Cond.selects RX7 yX7_spared yX7_spared) ∈ lw_all := List.mem_of_getElem? (i := 1000) (by decide +kernel)
theorem q1001 : (Cond.code yX7_spared cX7_spared 4 (some .double)) ∈ lw_all := List.mem_of_getElem? (i := 1001) (by decide +kernel)
theorem q1003 : (Cond.methodLink RL 102 yX7_row) ∈ lw_all := List.mem_of_getElem? (i := 1003) (by decide +kernel)
theorem q1004 : (Cond.instanceMethod yX7_row) ∈ lw_all := List.mem_of_getElem? (i := 1004) (by decide +kernel)
theorem q1005 : (Cond.selects RX7 yX7_row yX7_row) ∈ lw_all := List.mem_of_getElem? (i := 1005) (by decide +kernel)
theorem q1006 : (Cond.code yX7_row cX7_row 3 (some .int)) ∈ lw_all := List.mem_of_getElem? (i := 1006) (by decide +kernel)
theorem q1007 : (Cond.methodLink RL 106 yX7_slice) ∈ lw_all := List.mem_of_getElem? (i := 1007) (by decide +kernel)
theorem q1008 : (Cond.instanceMethod yX7_slice) ∈ lw_all := List.mem_of_getElem? (i := 1008) (by decide +kernel)
theorem q1009 : (Cond.selects RX7 yX7_slice yX7_slice) ∈ lw_all := List.mem_of_getElem? (i := 1009) (by decide +kernel)
theorem q1010 : (Cond.code yX7_slice cX7_slice 10 (some .int)) ∈ lw_all := List.mem_of_getElem? (i := 1010) (by decide +kernel)
theorem q1011 : (Cond.methodLink RX7 190 yX7_isPlace) ∈ lw_all := List.mem_of_getElem? (i := 1011) (by decide +kernel)
theorem q1012 : (Cond.instanceMethod yX7_isPlace) ∈ lw_all := List.mem_of_getElem? (i := 1012) (by decide +kernel)
theorem q1013 : (Cond.code yX7_isPlace cX7_isPlace 2 (some .boolean)) ∈ lw_all := List.mem_of_getElem? (i := 1013) (by decide +kernel)
theorem q1014 : (Cond.methodLink RL 110 yX7_ordered) ∈ lw_all := List.mem_of_getElem? (i := 1014) (by decide +kernel)
theorem q1015 : (Cond.instanceMethod yX7_ordered) ∈ lw_all := List.mem_of_getElem? (i := 1015) (by decide +kernel)
theorem q1016 : (Cond.selects RX7 yX7_ordered yX7_ordered) ∈ lw_all := List.mem_of_getElem? (i := 1016) (by decide +kernel)
theorem q1017 : (Cond.code yX7_ordered cX7_ordered 5 (some .int)) ∈ lw_all := List.mem_of_getElem? (i := 1017) (by decide +kernel)
theorem q1018 : (Cond.methodLink RL 114 yX7_lies) ∈ lw_all := List.mem_of_getElem? (i := 1018) (by decide +kernel)
theorem q1019 : (Cond.instanceMethod yX7_lies) ∈ lw_all := List.mem_of_getElem? (i := 1019) (by decide +kernel)
theorem q1020 : (Cond.selects RX7 yX7_lies yX7_lies) ∈ lw_all := List.mem_of_getElem? (i := 1020) (by decide +kernel)
theorem q1021 : (Cond.code yX7_lies cX7_lies 7 (some .int)) ∈ lw_all := List.mem_of_getElem? (i := 1021) (by decide +kernel)
theorem q1022 : (Cond.methodLink RL 118 yX7_belongs) ∈ lw_all := List.mem_of_getElem? (i := 1022) (by decide +kernel)
theorem q1023 : (Cond.instanceMethod yX7_belongs) ∈ lw_all := List.mem_of_getElem? (i := 1023) (by decide +kernel)
theorem q1024 : (Cond.selects RX7 yX7_belongs yX7_belongs) ∈ lw_all := List.mem_of_getElem? (i := 1024) (by decide +kernel)
theorem q1025 : (Cond.code yX7_belongs cX7_belongs 2 (some .int)) ∈ lw_all := List.mem_of_getElem? (i := 1025) (by decide +kernel)
theorem q1026 : (Cond.methodLink RL 122 yX7_gap) ∈ lw_all := List.mem_of_getElem? (i := 1026) (by decide +kernel)
theorem q1027 : (Cond.instanceMethod yX7_gap) ∈ lw_all := List.mem_of_getElem? (i := 1027) (by decide +kernel)
theorem q1028 : (Cond.selects RX7 yX7_gap yX7_gap) ∈ lw_all := List.mem_of_getElem? (i := 1028) (by decide +kernel)
theorem q1029 : (Cond.code yX7_gap cX7_gap 6 (some .int)) ∈ lw_all := List.mem_of_getElem? (i := 1029) (by decide +kernel)
theorem q1030 : (Cond.methodLink RL 126 yX7_stray) ∈ lw_all := List.mem_of_getElem? (i := 1030) (by decide +kernel)
theorem q1031 : (Cond.instanceMethod yX7_stray) ∈ lw_all := List.mem_of_getElem? (i := 1031) (by decide +kernel)
theorem q1032 : (Cond.selects RX7 yX7_stray yX7_stray) ∈ lw_all := List.mem_of_getElem? (i := 1032) (by decide +kernel)
theorem q1033 : (Cond.code yX7_stray cX7_stray 4 (some .int)) ∈ lw_all := List.mem_of_getElem? (i := 1033) (by decide +kernel)
theorem q1034 : (Cond.methodLink RL 130 yX7_count) ∈ lw_all := List.mem_of_getElem? (i := 1034) (by decide +kernel)
theorem q1035 : (Cond.instanceMethod yX7_count) ∈ lw_all := List.mem_of_getElem? (i := 1035) (by decide +kernel)
theorem q1036 : (Cond.selects RX7 yX7_count yX7_count) ∈ lw_all := List.mem_of_getElem? (i := 1036) (by decide +kernel)
theorem q1037 : (Cond.code yX7_count cX7_count 4 (some .int)) ∈ lw_all := List.mem_of_getElem? (i := 1037) (by decide +kernel)
theorem q1038 : (Cond.methodLink RX7 193 yX7_gaps) ∈ lw_all := List.mem_of_getElem? (i := 1038) (by decide +kernel)
theorem q1039 : (Cond.instanceMethod yX7_gaps) ∈ lw_all := List.mem_of_getElem? (i := 1039) (by decide +kernel)
theorem q1040 : (Cond.code yX7_gaps cX7_gaps 3 (some .int)) ∈ lw_all := List.mem_of_getElem? (i := 1040) (by decide +kernel)
theorem q1041 : (Cond.methodLink RL 155 yX7_unfit) ∈ lw_all := List.mem_of_getElem? (i := 1041) (by decide +kernel)
theorem q1042 : (Cond.instanceMethod yX7_unfit) ∈ lw_all := List.mem_of_getElem? (i := 1042) (by decide +kernel)
theorem q1043 : (Cond.selects RX7 yX7_unfit yX7_unfit) ∈ lw_all := List.mem_of_getElem? (i := 1043) (by decide +kernel)
theorem q1044 : (Cond.code yX7_unfit cX7_unfit 2 (some .int)) ∈ lw_all := List.mem_of_getElem? (i := 1044) (by decide +kernel)
theorem q1045 : (Cond.methodLink RL 159 yX7_bestSplit) ∈ lw_all := List.mem_of_getElem? (i := 1045) (by decide +kernel)
theorem q1046 : (Cond.instanceMethod yX7_bestSplit) ∈ lw_all := List.mem_of_getElem? (i := 1046) (by decide +kernel)
theorem q1047 : (Cond.selects RX7 yX7_bestSplit yX7_bestSplit) ∈ lw_all := List.mem_of_getElem? (i := 1047) (by decide +kernel)
theorem q1048 : (Cond.code yX7_bestSplit cX7_bestSplit 7 (some .int)) ∈ lw_all := List.mem_of_getElem? (i := 1048) (by decide +kernel)
theorem q1049 : (Cond.methodLink RX7 196 yX7_abs) ∈ lw_all := List.mem_of_getElem? (i := 1049) (by decide +kernel)
theorem q1050 : (Cond.static yX7_abs) ∈ lw_all := List.mem_of_getElem? (i := 1050) (by decide +kernel)
theorem q1051 : (Cond.code yX7_abs cX7_abs 1 (some .int)) ∈ lw_all := List.mem_of_getElem? (i := 1051) (by decide +kernel)
theorem q1052 : (Cond.methodLink RL 163 yX7_heaviest) ∈ lw_all := List.mem_of_getElem? (i := 1052) (by decide +kernel)
theorem q1053 : (Cond.instanceMethod yX7_heaviest) ∈ lw_all := List.mem_of_getElem? (i := 1053) (by decide +kernel)
theorem q1054 : (Cond.selects RX7 yX7_heaviest yX7_heaviest) ∈ lw_all := List.mem_of_getElem? (i := 1054) (by decide +kernel)
theorem q1055 : (Cond.code yX7_heaviest cX7_heaviest 3 (some .int)) ∈ lw_all := List.mem_of_getElem? (i := 1055) (by decide +kernel)
theorem inX0 : ∀ w ∈ wsX00, w ∈ lw_all := fun w h => (goodIn_r wsX00 [105] (by decide +kernel) (by decide +kernel) w h).1
theorem inX1 : ∀ w ∈ wsX10, w ∈ lw_all := fun w h => (goodIn_r wsX10 [165, 166, 167, 168] (by decide +kernel) (by decide +kernel) w h).1
theorem inX2 : ∀ w ∈ wsX20, w ∈ lw_all := fun w h => (goodIn_r wsX20 [191, 192, 193, 194, 195, 196, 197, 198, 199, 200, 201, 202, 203, 204] (by decide +kernel) (by decide +kernel) w h).1
theorem inX3 : ∀ w ∈ wsX30, w ∈ lw_all := fun w h => (goodIn_r wsX30 [113, 114, 115, 116] (by decide +kernel) (by decide +kernel) w h).1
theorem inX4 : ∀ w ∈ wsX40, w ∈ lw_all := fun w h => (goodIn_r wsX40 [131, 132, 133, 134, 135] (by decide +kernel) (by decide +kernel) w h).1
theorem inX5 : ∀ w ∈ wsX50, w ∈ lw_all := fun w h => (goodIn_r wsX50 [146, 147, 148, 149, 150] (by decide +kernel) (by decide +kernel) w h).1
theorem inX6 : ∀ w ∈ wsX60, w ∈ lw_all := fun w h => (goodIn_r wsX60 [212, 213, 214, 215, 216] (by decide +kernel) (by decide +kernel) w h).1
theorem inX7 : ∀ w ∈ wsX70, w ∈ lw_all := fun w h => (goodIn_r wsX70 [776, 777, 778, 779, 780, 781, 782, 783, 784, 785, 786, 787, 788, 789, 790, 791, 792, 793] (by decide +kernel) (by decide +kernel) w h).1
end
