-- ===== PART A: goes FIRST, ahead of the names: the tables' words, and 'selects' of the private methods out of them =====
/-- a private method of a class that the tables say can be made, by its rows of tables_1 -/
def lw_okq (q : MethodName × Nat) : Prop := (q.1.cls ≠ "java/lang/invoke/MethodHandle" ∧ q.1.cls ≠ "java/lang/invoke/VarHandle") ∧ Cond.instantiable q.1.cls q.2 ∈ tables_1 ∧ Cond.privateMethod q.1 ∈ tables_1 ∧ Cond.instanceMethod q.1 ∈ tables_1
theorem lw_p0 : lw_okq (⟨"PrunedSlices$History", "stateAt", "(I)LPrunedSlices$Table;"⟩, 4) := ⟨⟨by decide +kernel, by decide +kernel⟩, List.mem_of_getElem? (i := 104) (by decide +kernel), List.mem_of_getElem? (i := 204) (by decide +kernel), List.mem_of_getElem? (i := 205) (by decide +kernel)⟩
theorem lw_p1 : lw_okq (⟨"PrunedSlices$Rows", "liesWithKey", "(IIII)Z"⟩, 4) := ⟨⟨by decide +kernel, by decide +kernel⟩, List.mem_of_getElem? (i := 25) (by decide +kernel), List.mem_of_getElem? (i := 259) (by decide +kernel), List.mem_of_getElem? (i := 260) (by decide +kernel)⟩
theorem lw_p2 : lw_okq (⟨"PrunedSlices", "isPlace", "(I)Z"⟩, 5) := ⟨⟨by decide +kernel, by decide +kernel⟩, List.mem_of_getElem? (i := 11) (by decide +kernel), List.mem_of_getElem? (i := 352) (by decide +kernel), List.mem_of_getElem? (i := 353) (by decide +kernel)⟩
theorem lw_p3 : lw_okq (⟨"PrunedSlices", "keyOfRanked", "(II)I"⟩, 5) := ⟨⟨by decide +kernel, by decide +kernel⟩, List.mem_of_getElem? (i := 11) (by decide +kernel), List.mem_of_getElem? (i := 367) (by decide +kernel), List.mem_of_getElem? (i := 368) (by decide +kernel)⟩
theorem lw_p4 : lw_okq (⟨"PrunedSlices$Rows", "amountAhead", "(II)I"⟩, 4) := ⟨⟨by decide +kernel, by decide +kernel⟩, List.mem_of_getElem? (i := 25) (by decide +kernel), List.mem_of_getElem? (i := 375) (by decide +kernel), List.mem_of_getElem? (i := 376) (by decide +kernel)⟩
theorem lw_p5 : lw_okq (⟨"PrunedSlices$History", "putOldestLast", "()V"⟩, 4) := ⟨⟨by decide +kernel, by decide +kernel⟩, List.mem_of_getElem? (i := 104) (by decide +kernel), List.mem_of_getElem? (i := 439) (by decide +kernel), List.mem_of_getElem? (i := 440) (by decide +kernel)⟩
theorem lw_p6 : lw_okq (⟨"PrunedSlices$Slices", "copyEntry", "(II)V"⟩, 5) := ⟨⟨by decide +kernel, by decide +kernel⟩, List.mem_of_getElem? (i := 57) (by decide +kernel), List.mem_of_getElem? (i := 475) (by decide +kernel), List.mem_of_getElem? (i := 476) (by decide +kernel)⟩
theorem lw_p7 : lw_okq (⟨"PrunedSlices", "straysFit", "()Z"⟩, 5) := ⟨⟨by decide +kernel, by decide +kernel⟩, List.mem_of_getElem? (i := 11) (by decide +kernel), List.mem_of_getElem? (i := 566) (by decide +kernel), List.mem_of_getElem? (i := 567) (by decide +kernel)⟩
theorem lw_p8 : lw_okq (⟨"PrunedSlices", "unevenness", "(III)I"⟩, 5) := ⟨⟨by decide +kernel, by decide +kernel⟩, List.mem_of_getElem? (i := 11) (by decide +kernel), List.mem_of_getElem? (i := 600) (by decide +kernel), List.mem_of_getElem? (i := 601) (by decide +kernel)⟩
theorem lw_p9 : lw_okq (⟨"PrunedSlices$Question", "isAllowed", "(C)Z"⟩, 14) := ⟨⟨by decide +kernel, by decide +kernel⟩, List.mem_of_getElem? (i := 126) (by decide +kernel), List.mem_of_getElem? (i := 630) (by decide +kernel), List.mem_of_getElem? (i := 631) (by decide +kernel)⟩
theorem lw_p10 : lw_okq (⟨"PrunedSlices$Question", "startsTest", "(C)Z"⟩, 14) := ⟨⟨by decide +kernel, by decide +kernel⟩, List.mem_of_getElem? (i := 126) (by decide +kernel), List.mem_of_getElem? (i := 634) (by decide +kernel), List.mem_of_getElem? (i := 635) (by decide +kernel)⟩
theorem lw_p11 : lw_okq (⟨"PrunedSlices$Question", "addToken", "(CI)V"⟩, 14) := ⟨⟨by decide +kernel, by decide +kernel⟩, List.mem_of_getElem? (i := 126) (by decide +kernel), List.mem_of_getElem? (i := 638) (by decide +kernel), List.mem_of_getElem? (i := 639) (by decide +kernel)⟩
theorem lw_p12 : lw_okq (⟨"PrunedSlices$Question", "isSign", "(C)Z"⟩, 14) := ⟨⟨by decide +kernel, by decide +kernel⟩, List.mem_of_getElem? (i := 126) (by decide +kernel), List.mem_of_getElem? (i := 643) (by decide +kernel), List.mem_of_getElem? (i := 644) (by decide +kernel)⟩
theorem lw_p13 : lw_okq (⟨"PrunedSlices$Question", "isMinus", "(C)Z"⟩, 14) := ⟨⟨by decide +kernel, by decide +kernel⟩, List.mem_of_getElem? (i := 126) (by decide +kernel), List.mem_of_getElem? (i := 647) (by decide +kernel), List.mem_of_getElem? (i := 648) (by decide +kernel)⟩
theorem lw_p14 : lw_okq (⟨"PrunedSlices$Question", "isFirstDigit", "(C)Z"⟩, 14) := ⟨⟨by decide +kernel, by decide +kernel⟩, List.mem_of_getElem? (i := 126) (by decide +kernel), List.mem_of_getElem? (i := 651) (by decide +kernel), List.mem_of_getElem? (i := 652) (by decide +kernel)⟩
theorem lw_p15 : lw_okq (⟨"PrunedSlices$Question", "setDigits", "(I)V"⟩, 14) := ⟨⟨by decide +kernel, by decide +kernel⟩, List.mem_of_getElem? (i := 126) (by decide +kernel), List.mem_of_getElem? (i := 655) (by decide +kernel), List.mem_of_getElem? (i := 656) (by decide +kernel)⟩
def lw_privs_1 : List (MethodName × Nat) := [(⟨"PrunedSlices$History", "stateAt", "(I)LPrunedSlices$Table;"⟩, 4), (⟨"PrunedSlices$Rows", "liesWithKey", "(IIII)Z"⟩, 4), (⟨"PrunedSlices", "isPlace", "(I)Z"⟩, 5), (⟨"PrunedSlices", "keyOfRanked", "(II)I"⟩, 5), (⟨"PrunedSlices$Rows", "amountAhead", "(II)I"⟩, 4), (⟨"PrunedSlices$History", "putOldestLast", "()V"⟩, 4), (⟨"PrunedSlices$Slices", "copyEntry", "(II)V"⟩, 5), (⟨"PrunedSlices", "straysFit", "()Z"⟩, 5), (⟨"PrunedSlices", "unevenness", "(III)I"⟩, 5), (⟨"PrunedSlices$Question", "isAllowed", "(C)Z"⟩, 14), (⟨"PrunedSlices$Question", "startsTest", "(C)Z"⟩, 14), (⟨"PrunedSlices$Question", "addToken", "(CI)V"⟩, 14), (⟨"PrunedSlices$Question", "isSign", "(C)Z"⟩, 14), (⟨"PrunedSlices$Question", "isMinus", "(C)Z"⟩, 14), (⟨"PrunedSlices$Question", "isFirstDigit", "(C)Z"⟩, 14), (⟨"PrunedSlices$Question", "setDigits", "(I)V"⟩, 14)]
theorem lw_r1 : ∀ q ∈ lw_privs_1, lw_okq q := List.forall_mem_cons.mpr ⟨lw_p0, List.forall_mem_cons.mpr ⟨lw_p1, List.forall_mem_cons.mpr ⟨lw_p2, List.forall_mem_cons.mpr ⟨lw_p3, List.forall_mem_cons.mpr ⟨lw_p4, List.forall_mem_cons.mpr ⟨lw_p5, List.forall_mem_cons.mpr ⟨lw_p6, List.forall_mem_cons.mpr ⟨lw_p7, List.forall_mem_cons.mpr ⟨lw_p8, List.forall_mem_cons.mpr ⟨lw_p9, List.forall_mem_cons.mpr ⟨lw_p10, List.forall_mem_cons.mpr ⟨lw_p11, List.forall_mem_cons.mpr ⟨lw_p12, List.forall_mem_cons.mpr ⟨lw_p13, List.forall_mem_cons.mpr ⟨lw_p14, List.forall_mem_cons.mpr ⟨lw_p15, fun _ h => absurd h List.not_mem_nil⟩⟩⟩⟩⟩⟩⟩⟩⟩⟩⟩⟩⟩⟩⟩⟩
theorem lw_p16 : lw_okq (⟨"PrunedSlices$Question", "isNextDigit", "(C)Z"⟩, 14) := ⟨⟨by decide +kernel, by decide +kernel⟩, List.mem_of_getElem? (i := 126) (by decide +kernel), List.mem_of_getElem? (i := 659) (by decide +kernel), List.mem_of_getElem? (i := 660) (by decide +kernel)⟩
theorem lw_p17 : lw_okq (⟨"PrunedSlices$Question", "followsTest", "(C)Z"⟩, 14) := ⟨⟨by decide +kernel, by decide +kernel⟩, List.mem_of_getElem? (i := 126) (by decide +kernel), List.mem_of_getElem? (i := 663) (by decide +kernel), List.mem_of_getElem? (i := 664) (by decide +kernel)⟩
theorem lw_p18 : lw_okq (⟨"PrunedSlices", "rowPasses", "(I)Z"⟩, 5) := ⟨⟨by decide +kernel, by decide +kernel⟩, List.mem_of_getElem? (i := 11) (by decide +kernel), List.mem_of_getElem? (i := 679) (by decide +kernel), List.mem_of_getElem? (i := 680) (by decide +kernel)⟩
theorem lw_p19 : lw_okq (⟨"PrunedSlices$Question", "startDepth", "(I)V"⟩, 14) := ⟨⟨by decide +kernel, by decide +kernel⟩, List.mem_of_getElem? (i := 126) (by decide +kernel), List.mem_of_getElem? (i := 687) (by decide +kernel), List.mem_of_getElem? (i := 688) (by decide +kernel)⟩
theorem lw_p20 : lw_okq (⟨"PrunedSlices$Question", "testTruth", "(III)I"⟩, 14) := ⟨⟨by decide +kernel, by decide +kernel⟩, List.mem_of_getElem? (i := 126) (by decide +kernel), List.mem_of_getElem? (i := 692) (by decide +kernel), List.mem_of_getElem? (i := 693) (by decide +kernel)⟩
theorem lw_p21 : lw_okq (⟨"PrunedSlices$Question", "addTruth", "(II)V"⟩, 14) := ⟨⟨by decide +kernel, by decide +kernel⟩, List.mem_of_getElem? (i := 126) (by decide +kernel), List.mem_of_getElem? (i := 699) (by decide +kernel), List.mem_of_getElem? (i := 700) (by decide +kernel)⟩
theorem lw_p22 : lw_okq (⟨"PrunedSlices$Question", "endPart", "(I)V"⟩, 14) := ⟨⟨by decide +kernel, by decide +kernel⟩, List.mem_of_getElem? (i := 126) (by decide +kernel), List.mem_of_getElem? (i := 704) (by decide +kernel), List.mem_of_getElem? (i := 705) (by decide +kernel)⟩
theorem lw_p23 : lw_okq (⟨"PrunedSlices", "markLooked", "(I)V"⟩, 5) := ⟨⟨by decide +kernel, by decide +kernel⟩, List.mem_of_getElem? (i := 11) (by decide +kernel), List.mem_of_getElem? (i := 713) (by decide +kernel), List.mem_of_getElem? (i := 714) (by decide +kernel)⟩
theorem lw_p24 : lw_okq (⟨"PrunedSlices", "sliceMayHold", "(II)Z"⟩, 5) := ⟨⟨by decide +kernel, by decide +kernel⟩, List.mem_of_getElem? (i := 11) (by decide +kernel), List.mem_of_getElem? (i := 717) (by decide +kernel), List.mem_of_getElem? (i := 718) (by decide +kernel)⟩
theorem lw_p25 : lw_okq (⟨"PrunedSlices$Question", "keyMayHold", "(III)Z"⟩, 14) := ⟨⟨by decide +kernel, by decide +kernel⟩, List.mem_of_getElem? (i := 126) (by decide +kernel), List.mem_of_getElem? (i := 725) (by decide +kernel), List.mem_of_getElem? (i := 726) (by decide +kernel)⟩
theorem lw_p26 : lw_okq (⟨"PrunedSlices", "someFreeKeyMayHold", "()Z"⟩, 5) := ⟨⟨by decide +kernel, by decide +kernel⟩, List.mem_of_getElem? (i := 11) (by decide +kernel), List.mem_of_getElem? (i := 730) (by decide +kernel), List.mem_of_getElem? (i := 731) (by decide +kernel)⟩
theorem lw_p27 : lw_okq (⟨"PrunedSlices", "answerAmount", "()I"⟩, 5) := ⟨⟨by decide +kernel, by decide +kernel⟩, List.mem_of_getElem? (i := 11) (by decide +kernel), List.mem_of_getElem? (i := 734) (by decide +kernel), List.mem_of_getElem? (i := 735) (by decide +kernel)⟩
theorem lw_p28 : lw_okq (⟨"PrunedSlices", "isAnswer", "(I)Z"⟩, 5) := ⟨⟨by decide +kernel, by decide +kernel⟩, List.mem_of_getElem? (i := 11) (by decide +kernel), List.mem_of_getElem? (i := 738) (by decide +kernel), List.mem_of_getElem? (i := 739) (by decide +kernel)⟩
theorem lw_p29 : lw_okq (⟨"PrunedSlices", "isLooked", "(I)Z"⟩, 5) := ⟨⟨by decide +kernel, by decide +kernel⟩, List.mem_of_getElem? (i := 11) (by decide +kernel), List.mem_of_getElem? (i := 742) (by decide +kernel), List.mem_of_getElem? (i := 743) (by decide +kernel)⟩
theorem lw_p30 : lw_okq (⟨"PrunedSlices", "answerSum", "()I"⟩, 5) := ⟨⟨by decide +kernel, by decide +kernel⟩, List.mem_of_getElem? (i := 11) (by decide +kernel), List.mem_of_getElem? (i := 746) (by decide +kernel), List.mem_of_getElem? (i := 747) (by decide +kernel)⟩
theorem lw_p31 : lw_okq (⟨"PrunedSlices", "lookedPlaces", "()I"⟩, 5) := ⟨⟨by decide +kernel, by decide +kernel⟩, List.mem_of_getElem? (i := 11) (by decide +kernel), List.mem_of_getElem? (i := 750) (by decide +kernel), List.mem_of_getElem? (i := 751) (by decide +kernel)⟩
def lw_privs_2 : List (MethodName × Nat) := [(⟨"PrunedSlices$Question", "isNextDigit", "(C)Z"⟩, 14), (⟨"PrunedSlices$Question", "followsTest", "(C)Z"⟩, 14), (⟨"PrunedSlices", "rowPasses", "(I)Z"⟩, 5), (⟨"PrunedSlices$Question", "startDepth", "(I)V"⟩, 14), (⟨"PrunedSlices$Question", "testTruth", "(III)I"⟩, 14), (⟨"PrunedSlices$Question", "addTruth", "(II)V"⟩, 14), (⟨"PrunedSlices$Question", "endPart", "(I)V"⟩, 14), (⟨"PrunedSlices", "markLooked", "(I)V"⟩, 5), (⟨"PrunedSlices", "sliceMayHold", "(II)Z"⟩, 5), (⟨"PrunedSlices$Question", "keyMayHold", "(III)Z"⟩, 14), (⟨"PrunedSlices", "someFreeKeyMayHold", "()Z"⟩, 5), (⟨"PrunedSlices", "answerAmount", "()I"⟩, 5), (⟨"PrunedSlices", "isAnswer", "(I)Z"⟩, 5), (⟨"PrunedSlices", "isLooked", "(I)Z"⟩, 5), (⟨"PrunedSlices", "answerSum", "()I"⟩, 5), (⟨"PrunedSlices", "lookedPlaces", "()I"⟩, 5)]
theorem lw_r2 : ∀ q ∈ lw_privs_2, lw_okq q := List.forall_mem_cons.mpr ⟨lw_p16, List.forall_mem_cons.mpr ⟨lw_p17, List.forall_mem_cons.mpr ⟨lw_p18, List.forall_mem_cons.mpr ⟨lw_p19, List.forall_mem_cons.mpr ⟨lw_p20, List.forall_mem_cons.mpr ⟨lw_p21, List.forall_mem_cons.mpr ⟨lw_p22, List.forall_mem_cons.mpr ⟨lw_p23, List.forall_mem_cons.mpr ⟨lw_p24, List.forall_mem_cons.mpr ⟨lw_p25, List.forall_mem_cons.mpr ⟨lw_p26, List.forall_mem_cons.mpr ⟨lw_p27, List.forall_mem_cons.mpr ⟨lw_p28, List.forall_mem_cons.mpr ⟨lw_p29, List.forall_mem_cons.mpr ⟨lw_p30, List.forall_mem_cons.mpr ⟨lw_p31, fun _ h => absurd h List.not_mem_nil⟩⟩⟩⟩⟩⟩⟩⟩⟩⟩⟩⟩⟩⟩⟩⟩
theorem lw_p32 : lw_okq (⟨"PrunedSlices", "lookedRows", "()I"⟩, 5) := ⟨⟨by decide +kernel, by decide +kernel⟩, List.mem_of_getElem? (i := 11) (by decide +kernel), List.mem_of_getElem? (i := 754) (by decide +kernel), List.mem_of_getElem? (i := 755) (by decide +kernel)⟩
theorem lw_p33 : lw_okq (⟨"PrunedSlices", "wholeAmount", "()I"⟩, 5) := ⟨⟨by decide +kernel, by decide +kernel⟩, List.mem_of_getElem? (i := 11) (by decide +kernel), List.mem_of_getElem? (i := 758) (by decide +kernel), List.mem_of_getElem? (i := 759) (by decide +kernel)⟩
def lw_privs_3 : List (MethodName × Nat) := [(⟨"PrunedSlices", "lookedRows", "()I"⟩, 5), (⟨"PrunedSlices", "wholeAmount", "()I"⟩, 5)]
theorem lw_r3 : ∀ q ∈ lw_privs_3, lw_okq q := List.forall_mem_cons.mpr ⟨lw_p32, List.forall_mem_cons.mpr ⟨lw_p33, fun _ h => absurd h List.not_mem_nil⟩⟩
def lw_privs : List (MethodName × Nat) := lw_privs_1 ++ (lw_privs_2 ++ (lw_privs_3))
def lw_tbl : List Cond := k2_sels lw_privs ++ tables_1
theorem lw_privs_ok : ∀ q ∈ lw_privs, lw_okq q := by
  show ∀ q ∈ lw_privs_1 ++ (lw_privs_2 ++ (lw_privs_3)), lw_okq q
  exact List.forall_mem_append.mpr ⟨lw_r1, List.forall_mem_append.mpr ⟨lw_r2, lw_r3⟩⟩
/-- the streams that the claim lets the run draw from -/
abbrev lw_cs : List Choice := [Jvm.Choice.named "NaN.bits"]
theorem lw_bits : nanBits ∈ lw_cs := by first | decide | exact List.mem_cons_self | simp [lw_cs, nanBits]
-- ===== end of PART A
/-! ===== BEGIN words of one list among another's, by their places ===== -/
theorem goodIn_r {big : List Cond} (ws : List Cond) (ps : List Nat) (hp : ws = ps.filterMap (fun i => big[i]?)) (h : ws.all goodWord = true) : GoodIn big ws := by
  intro w hw
  have h1 := List.all_eq_true.mp h w hw
  rw [hp] at hw
  obtain ⟨i, -, hi⟩ := List.mem_filterMap.mp hw
  have hm : w ∈ big := by first | exact List.mem_of_getElem? hi | exact List.getElem?_mem hi
  exact ⟨hm, good_of_word h1⟩
theorem goodIn_app {big a b : List Cond} (ha : GoodIn big a) (hb : GoodIn big b) : GoodIn big (a ++ b) := fun w h => (List.mem_append.mp h).elim (ha w) (hb w)
theorem goodIn_ca {big a b : List Cond} {c : Cond} (ha : GoodIn big (c :: a)) (hb : GoodIn big b) : GoodIn big (c :: (a ++ b)) := fun w h => (List.mem_cons.mp h).elim (fun e => ha w (List.mem_cons.mpr (Or.inl e))) (fun h => (List.mem_append.mp h).elim (fun h => ha w (List.mem_cons.mpr (Or.inr h))) (hb w))
theorem goodIn_sub {big ws : List Cond} (hm : ∀ w ∈ ws, w ∈ big) (h : ws.all goodWord = true) : GoodIn big ws := fun w hw => ⟨hm w hw, good_of_word (List.all_eq_true.mp h w hw)⟩
/-! ===== BEGIN printed: names, fields, word lists, decode rows ===== -/
def RX0 : String := "PrunedSlices$Cells"
def TX0 : u_T := fun k => match k with
  | _ => ("PrunedSlices$Cells", "cells", "[I", true)
def tyX0 : Nat → FieldType := fun k => match k with
  | _ => .array .int
abbrev wsX00 : List Cond := u_ws RX0 TX0 1
theorem nmX0 : ∀ a, a < 1 → ∀ b, b < 1 → a ≠ b → (TX0 a).2.1 ≠ (TX0 b).2.1 := by decide +kernel
theorem tyX0_ok : ∀ k, k < 1 → parseFieldDescriptor (TX0 k).2.2.1 = some (tyX0 k) := by decide +kernel
abbrev cX0_init : ByteArray := prog_2_method_1_code
def yX0_init : MethodName := ⟨RX0, "<init>", "(I)V"⟩
abbrev cX0_at : ByteArray := prog_2_method_2_code
def yX0_at : MethodName := ⟨RX0, "at", "(I)I"⟩
abbrev cX0_write : ByteArray := prog_2_method_3_code
def yX0_write : MethodName := ⟨RX0, "write", "(II)V"⟩
abbrev cX0_clear : ByteArray := prog_2_method_4_code
def yX0_clear : MethodName := ⟨RX0, "clear", "()V"⟩
abbrev cX0_copyFrom : ByteArray := prog_2_method_5_code
def yX0_copyFrom : MethodName := ⟨RX0, "copyFrom", "(LPrunedSlices$Cells;)V"⟩
def RX1 : String := "PrunedSlices$History"
def TX1 : u_T := fun k => match k with
  | 0 => ("PrunedSlices$History", "states", "[LPrunedSlices$Table;", true)
  | 1 => ("PrunedSlices$History", "snapshot", "LPrunedSlices$Table;", true)
  | 2 => ("PrunedSlices$History", "hasSnapshot", "Z", false)
  | _ => ("PrunedSlices$History", "amount", "I", false)
def tyX1 : Nat → FieldType := fun k => match k with
  | 0 => .array (.object "PrunedSlices$Table")
  | 1 => .object "PrunedSlices$Table"
  | 2 => .boolean
  | _ => .int
abbrev wsX10 : List Cond := u_ws RX1 TX1 4
theorem nmX1 : ∀ a, a < 4 → ∀ b, b < 4 → a ≠ b → (TX1 a).2.1 ≠ (TX1 b).2.1 := by decide +kernel
theorem tyX1_ok : ∀ k, k < 4 → parseFieldDescriptor (TX1 k).2.2.1 = some (tyX1 k) := by decide +kernel
abbrev cX1_init : ByteArray := prog_3_method_1_code
def yX1_init : MethodName := ⟨RX1, "<init>", "()V"⟩
abbrev cX1_record : ByteArray := prog_3_method_2_code
def yX1_record : MethodName := ⟨RX1, "record", "(LPrunedSlices$Table;)V"⟩
abbrev cX1_putOldestLast : ByteArray := prog_3_method_3_code
def yX1_putOldestLast : MethodName := ⟨RX1, "putOldestLast", "()V"⟩
abbrev cX1_giveBack : ByteArray := prog_3_method_4_code
def yX1_giveBack : MethodName := ⟨RX1, "giveBack", "(LPrunedSlices$Table;)V"⟩
abbrev cX1_stateAt : ByteArray := prog_3_method_6_code
def yX1_stateAt : MethodName := ⟨RX1, "stateAt", "(I)LPrunedSlices$Table;"⟩
def RX2 : String := "PrunedSlices$Question"
def TX2 : u_T := fun k => match k with
  | 0 => ("PrunedSlices$Question", "length", "I", false)
  | 1 => ("PrunedSlices$Question", "faultAt", "I", false)
  | 2 => ("PrunedSlices$Question", "step", "I", false)
  | 3 => ("PrunedSlices$Question", "open", "I", false)
  | 4 => ("PrunedSlices$Question", "nots", "I", false)
  | 5 => ("PrunedSlices$Question", "minus", "Z", false)
  | 6 => ("PrunedSlices$Question", "digits", "I", false)
  | 7 => ("PrunedSlices$Question", "tokens", "I", false)
  | 8 => ("PrunedSlices$Question", "kinds", "LPrunedSlices$Cells;", true)
  | 9 => ("PrunedSlices$Question", "signs", "LPrunedSlices$Cells;", true)
  | 10 => ("PrunedSlices$Question", "numbers", "LPrunedSlices$Cells;", true)
  | 11 => ("PrunedSlices$Question", "ended", "LPrunedSlices$Cells;", true)
  | 12 => ("PrunedSlices$Question", "going", "LPrunedSlices$Cells;", true)
  | _ => ("PrunedSlices$Question", "turned", "LPrunedSlices$Cells;", true)
def tyX2 : Nat → FieldType := fun k => match k with
  | 0 => .int
  | 1 => .int
  | 2 => .int
  | 3 => .int
  | 4 => .int
  | 5 => .boolean
  | 6 => .int
  | 7 => .int
  | 8 => .object "PrunedSlices$Cells"
  | 9 => .object "PrunedSlices$Cells"
  | 10 => .object "PrunedSlices$Cells"
  | 11 => .object "PrunedSlices$Cells"
  | 12 => .object "PrunedSlices$Cells"
  | _ => .object "PrunedSlices$Cells"
abbrev wsX20 : List Cond := u_ws RX2 TX2 14
theorem nmX2 : ∀ a, a < 14 → ∀ b, b < 14 → a ≠ b → (TX2 a).2.1 ≠ (TX2 b).2.1 := by decide +kernel
theorem tyX2_ok : ∀ k, k < 14 → parseFieldDescriptor (TX2 k).2.2.1 = some (tyX2 k) := by decide +kernel
abbrev cX2_init : ByteArray := prog_4_method_1_code
def yX2_init : MethodName := ⟨RX2, "<init>", "()V"⟩
abbrev cX2_forget : ByteArray := prog_4_method_2_code
def yX2_forget : MethodName := ⟨RX2, "forget", "()V"⟩
abbrev cX2_read : ByteArray := prog_4_method_3_code
def yX2_read : MethodName := ⟨RX2, "read", "(C)V"⟩
abbrev cX2_isFaulty : ByteArray := prog_4_method_4_code
def yX2_isFaulty : MethodName := ⟨RX2, "isFaulty", "()Z"⟩
abbrev cX2_firstFault : ByteArray := prog_4_method_5_code
def yX2_firstFault : MethodName := ⟨RX2, "firstFault", "()I"⟩
abbrev cX2_isAllowed : ByteArray := prog_4_method_6_code
def yX2_isAllowed : MethodName := ⟨RX2, "isAllowed", "(C)Z"⟩
abbrev cX2_startsTest : ByteArray := prog_4_method_7_code
def yX2_startsTest : MethodName := ⟨RX2, "startsTest", "(C)Z"⟩
abbrev cX2_isSign : ByteArray := prog_4_method_8_code
def yX2_isSign : MethodName := ⟨RX2, "isSign", "(C)Z"⟩
abbrev cX2_isMinus : ByteArray := prog_4_method_9_code
def yX2_isMinus : MethodName := ⟨RX2, "isMinus", "(C)Z"⟩
abbrev cX2_isFirstDigit : ByteArray := prog_4_method_10_code
def yX2_isFirstDigit : MethodName := ⟨RX2, "isFirstDigit", "(C)Z"⟩
abbrev cX2_isNextDigit : ByteArray := prog_4_method_11_code
def yX2_isNextDigit : MethodName := ⟨RX2, "isNextDigit", "(C)Z"⟩
abbrev cX2_setDigits : ByteArray := prog_4_method_12_code
def yX2_setDigits : MethodName := ⟨RX2, "setDigits", "(I)V"⟩
abbrev cX2_followsTest : ByteArray := prog_4_method_13_code
def yX2_followsTest : MethodName := ⟨RX2, "followsTest", "(C)Z"⟩
abbrev cX2_addToken : ByteArray := prog_4_method_14_code
def yX2_addToken : MethodName := ⟨RX2, "addToken", "(CI)V"⟩
abbrev cX2_someKeyMayHold : ByteArray := prog_4_method_15_code
def yX2_someKeyMayHold : MethodName := ⟨RX2, "someKeyMayHold", "(II)Z"⟩
abbrev cX2_keyMayHold : ByteArray := prog_4_method_16_code
def yX2_keyMayHold : MethodName := ⟨RX2, "keyMayHold", "(III)Z"⟩
abbrev cX2_truth : ByteArray := prog_4_method_17_code
def yX2_truth : MethodName := ⟨RX2, "truth", "(IIZI)I"⟩
abbrev cX2_startDepth : ByteArray := prog_4_method_18_code
def yX2_startDepth : MethodName := ⟨RX2, "startDepth", "(I)V"⟩
abbrev cX2_addTruth : ByteArray := prog_4_method_19_code
def yX2_addTruth : MethodName := ⟨RX2, "addTruth", "(II)V"⟩
abbrev cX2_endPart : ByteArray := prog_4_method_20_code
def yX2_endPart : MethodName := ⟨RX2, "endPart", "(I)V"⟩
abbrev cX2_testTruth : ByteArray := prog_4_method_21_code
def yX2_testTruth : MethodName := ⟨RX2, "testTruth", "(III)I"⟩
abbrev cX2_truthOf : ByteArray := prog_4_method_22_code
def yX2_truthOf : MethodName := ⟨RX2, "truthOf", "(ZZ)I"⟩
def RX3 : String := "PrunedSlices$Rows"
def TX3 : u_T := fun k => match k with
  | 0 => ("PrunedSlices$Rows", "keys", "LPrunedSlices$Cells;", true)
  | 1 => ("PrunedSlices$Rows", "values", "LPrunedSlices$Cells;", true)
  | 2 => ("PrunedSlices$Rows", "places", "LPrunedSlices$Cells;", true)
  | _ => ("PrunedSlices$Rows", "came", "I", false)
def tyX3 : Nat → FieldType := fun k => match k with
  | 0 => .object "PrunedSlices$Cells"
  | 1 => .object "PrunedSlices$Cells"
  | 2 => .object "PrunedSlices$Cells"
  | _ => .int
abbrev wsX30 : List Cond := u_ws RX3 TX3 4
theorem nmX3 : ∀ a, a < 4 → ∀ b, b < 4 → a ≠ b → (TX3 a).2.1 ≠ (TX3 b).2.1 := by decide +kernel
theorem tyX3_ok : ∀ k, k < 4 → parseFieldDescriptor (TX3 k).2.2.1 = some (tyX3 k) := by decide +kernel
abbrev cX3_init : ByteArray := prog_5_method_1_code
def yX3_init : MethodName := ⟨RX3, "<init>", "()V"⟩
abbrev cX3_copyFrom : ByteArray := prog_5_method_2_code
def yX3_copyFrom : MethodName := ⟨RX3, "copyFrom", "(LPrunedSlices$Rows;)V"⟩
abbrev cX3_has : ByteArray := prog_5_method_3_code
def yX3_has : MethodName := ⟨RX3, "has", "(I)Z"⟩
abbrev cX3_keyOf : ByteArray := prog_5_method_4_code
def yX3_keyOf : MethodName := ⟨RX3, "keyOf", "(I)I"⟩
abbrev cX3_valueOf : ByteArray := prog_5_method_5_code
def yX3_valueOf : MethodName := ⟨RX3, "valueOf", "(I)I"⟩
abbrev cX3_placeOf : ByteArray := prog_5_method_6_code
def yX3_placeOf : MethodName := ⟨RX3, "placeOf", "(I)I"⟩
abbrev cX3_isInTable : ByteArray := prog_5_method_7_code
def yX3_isInTable : MethodName := ⟨RX3, "isInTable", "(I)Z"⟩
abbrev cX3_append : ByteArray := prog_5_method_8_code
def yX3_append : MethodName := ⟨RX3, "append", "(III)I"⟩
abbrev cX3_changeKey : ByteArray := prog_5_method_9_code
def yX3_changeKey : MethodName := ⟨RX3, "changeKey", "(II)V"⟩
abbrev cX3_move : ByteArray := prog_5_method_10_code
def yX3_move : MethodName := ⟨RX3, "move", "(II)V"⟩
abbrev cX3_moveAll : ByteArray := prog_5_method_11_code
def yX3_moveAll : MethodName := ⟨RX3, "moveAll", "(II)V"⟩
abbrev cX3_moveKeys : ByteArray := prog_5_method_12_code
def yX3_moveKeys : MethodName := ⟨RX3, "moveKeys", "(IIII)V"⟩
abbrev cX3_exchange : ByteArray := prog_5_method_13_code
def yX3_exchange : MethodName := ⟨RX3, "exchange", "(II)V"⟩
abbrev cX3_amountInTable : ByteArray := prog_5_method_14_code
def yX3_amountInTable : MethodName := ⟨RX3, "amountInTable", "()I"⟩
abbrev cX3_amountAt : ByteArray := prog_5_method_15_code
def yX3_amountAt : MethodName := ⟨RX3, "amountAt", "(I)I"⟩
abbrev cX3_amountWithKeys : ByteArray := prog_5_method_16_code
def yX3_amountWithKeys : MethodName := ⟨RX3, "amountWithKeys", "(III)I"⟩
abbrev cX3_liesWithKey : ByteArray := prog_5_method_17_code
def yX3_liesWithKey : MethodName := ⟨RX3, "liesWithKey", "(IIII)Z"⟩
abbrev cX3_sumAt : ByteArray := prog_5_method_18_code
def yX3_sumAt : MethodName := ⟨RX3, "sumAt", "(I)I"⟩
abbrev cX3_ranked : ByteArray := prog_5_method_19_code
def yX3_ranked : MethodName := ⟨RX3, "ranked", "(II)I"⟩
abbrev cX3_amountAhead : ByteArray := prog_5_method_20_code
def yX3_amountAhead : MethodName := ⟨RX3, "amountAhead", "(II)I"⟩
def RX4 : String := "PrunedSlices$Slices"
def TX4 : u_T := fun k => match k with
  | 0 => ("PrunedSlices$Slices", "numbers", "LPrunedSlices$Cells;", true)
  | 1 => ("PrunedSlices$Slices", "lows", "LPrunedSlices$Cells;", true)
  | 2 => ("PrunedSlices$Slices", "highs", "LPrunedSlices$Cells;", true)
  | 3 => ("PrunedSlices$Slices", "amount", "I", false)
  | _ => ("PrunedSlices$Slices", "came", "I", false)
def tyX4 : Nat → FieldType := fun k => match k with
  | 0 => .object "PrunedSlices$Cells"
  | 1 => .object "PrunedSlices$Cells"
  | 2 => .object "PrunedSlices$Cells"
  | 3 => .int
  | _ => .int
abbrev wsX40 : List Cond := u_ws RX4 TX4 5
theorem nmX4 : ∀ a, a < 5 → ∀ b, b < 5 → a ≠ b → (TX4 a).2.1 ≠ (TX4 b).2.1 := by decide +kernel
theorem tyX4_ok : ∀ k, k < 5 → parseFieldDescriptor (TX4 k).2.2.1 = some (tyX4 k) := by decide +kernel
abbrev cX4_init : ByteArray := prog_6_method_1_code
def yX4_init : MethodName := ⟨RX4, "<init>", "()V"⟩
abbrev cX4_copyFrom : ByteArray := prog_6_method_2_code
def yX4_copyFrom : MethodName := ⟨RX4, "copyFrom", "(LPrunedSlices$Slices;)V"⟩
abbrev cX4_isFull : ByteArray := prog_6_method_3_code
def yX4_isFull : MethodName := ⟨RX4, "isFull", "()Z"⟩
abbrev cX4_has : ByteArray := prog_6_method_4_code
def yX4_has : MethodName := ⟨RX4, "has", "(I)Z"⟩
abbrev cX4_positionOf : ByteArray := prog_6_method_5_code
def yX4_positionOf : MethodName := ⟨RX4, "positionOf", "(I)I"⟩
abbrev cX4_numberAt : ByteArray := prog_6_method_6_code
def yX4_numberAt : MethodName := ⟨RX4, "numberAt", "(I)I"⟩
abbrev cX4_lowAt : ByteArray := prog_6_method_7_code
def yX4_lowAt : MethodName := ⟨RX4, "lowAt", "(I)I"⟩
abbrev cX4_highAt : ByteArray := prog_6_method_8_code
def yX4_highAt : MethodName := ⟨RX4, "highAt", "(I)I"⟩
abbrev cX4_having : ByteArray := prog_6_method_9_code
def yX4_having : MethodName := ⟨RX4, "having", "(I)I"⟩
abbrev cX4_overlap : ByteArray := prog_6_method_10_code
def yX4_overlap : MethodName := ⟨RX4, "overlap", "(II)Z"⟩
abbrev cX4_areBeside : ByteArray := prog_6_method_11_code
def yX4_areBeside : MethodName := ⟨RX4, "areBeside", "(II)Z"⟩
abbrev cX4_append : ByteArray := prog_6_method_12_code
def yX4_append : MethodName := ⟨RX4, "append", "(II)I"⟩
abbrev cX4_remove : ByteArray := prog_6_method_13_code
def yX4_remove : MethodName := ⟨RX4, "remove", "(I)V"⟩
abbrev cX4_copyEntry : ByteArray := prog_6_method_14_code
def yX4_copyEntry : MethodName := ⟨RX4, "copyEntry", "(II)V"⟩
abbrev cX4_changeBounds : ByteArray := prog_6_method_15_code
def yX4_changeBounds : MethodName := ⟨RX4, "changeBounds", "(III)V"⟩
abbrev cX4_unite : ByteArray := prog_6_method_16_code
def yX4_unite : MethodName := ⟨RX4, "unite", "(II)V"⟩
abbrev cX4_gapLow : ByteArray := prog_6_method_17_code
def yX4_gapLow : MethodName := ⟨RX4, "gapLow", "(I)I"⟩
abbrev cX4_gapHigh : ByteArray := prog_6_method_18_code
def yX4_gapHigh : MethodName := ⟨RX4, "gapHigh", "(I)I"⟩
abbrev cX4_gapRanked : ByteArray := prog_6_method_19_code
def yX4_gapRanked : MethodName := ⟨RX4, "gapRanked", "(I)I"⟩
abbrev cX4_gaps : ByteArray := prog_6_method_20_code
def yX4_gaps : MethodName := ⟨RX4, "gaps", "()I"⟩
abbrev cX4_freeKeys : ByteArray := prog_6_method_21_code
def yX4_freeKeys : MethodName := ⟨RX4, "freeKeys", "()I"⟩
def RX5 : String := "PrunedSlices$Table"
def TX5 : u_T := fun k => match k with
  | 0 => ("PrunedSlices$Table", "rows", "LPrunedSlices$Rows;", true)
  | 1 => ("PrunedSlices$Table", "slices", "LPrunedSlices$Slices;", true)
  | 2 => ("PrunedSlices$Table", "defaultOn", "Z", false)
  | 3 => ("PrunedSlices$Table", "pruning", "I", false)
  | _ => ("PrunedSlices$Table", "moving", "I", false)
def tyX5 : Nat → FieldType := fun k => match k with
  | 0 => .object "PrunedSlices$Rows"
  | 1 => .object "PrunedSlices$Slices"
  | 2 => .boolean
  | 3 => .int
  | _ => .int
abbrev wsX50 : List Cond := u_ws RX5 TX5 5
theorem nmX5 : ∀ a, a < 5 → ∀ b, b < 5 → a ≠ b → (TX5 a).2.1 ≠ (TX5 b).2.1 := by decide +kernel
theorem tyX5_ok : ∀ k, k < 5 → parseFieldDescriptor (TX5 k).2.2.1 = some (tyX5 k) := by decide +kernel
abbrev cX5_init : ByteArray := prog_7_method_1_code
def yX5_init : MethodName := ⟨RX5, "<init>", "()V"⟩
abbrev cX5_copyFrom : ByteArray := prog_7_method_2_code
def yX5_copyFrom : MethodName := ⟨RX5, "copyFrom", "(LPrunedSlices$Table;)V"⟩
abbrev cX5_home : ByteArray := prog_7_method_3_code
def yX5_home : MethodName := ⟨RX5, "home", "(I)I"⟩
abbrev cX5_isStray : ByteArray := prog_7_method_4_code
def yX5_isStray : MethodName := ⟨RX5, "isStray", "(I)Z"⟩
abbrev cX5_strays : ByteArray := prog_7_method_5_code
def yX5_strays : MethodName := ⟨RX5, "strays", "()I"⟩
abbrev cX5_straysAt : ByteArray := prog_7_method_6_code
def yX5_straysAt : MethodName := ⟨RX5, "straysAt", "(I)I"⟩
abbrev cX5_strayIsHomeless : ByteArray := prog_7_method_7_code
def yX5_strayIsHomeless : MethodName := ⟨RX5, "strayIsHomeless", "()Z"⟩
abbrev cX5_moveStrays : ByteArray := prog_7_method_8_code
def yX5_moveStrays : MethodName := ⟨RX5, "moveStrays", "()V"⟩
abbrev cX5_unfitRows : ByteArray := prog_7_method_9_code
def yX5_unfitRows : MethodName := ⟨RX5, "unfitRows", "(II)I"⟩
def RX6 : String := "PrunedSlices"
def TX6 : u_T := fun k => match k with
  | 0 => ("PrunedSlices", "table", "LPrunedSlices$Table;", true)
  | 1 => ("PrunedSlices", "history", "LPrunedSlices$History;", true)
  | 2 => ("PrunedSlices", "question", "LPrunedSlices$Question;", true)
  | 3 => ("PrunedSlices", "looked", "LPrunedSlices$Cells;", true)
  | _ => ("PrunedSlices", "amounts", "LPrunedSlices$Cells;", true)
def tyX6 : Nat → FieldType := fun k => match k with
  | 0 => .object "PrunedSlices$Table"
  | 1 => .object "PrunedSlices$History"
  | 2 => .object "PrunedSlices$Question"
  | 3 => .object "PrunedSlices$Cells"
  | _ => .object "PrunedSlices$Cells"
abbrev wsX60 : List Cond := u_ws RX6 TX6 5
theorem nmX6 : ∀ a, a < 5 → ∀ b, b < 5 → a ≠ b → (TX6 a).2.1 ≠ (TX6 b).2.1 := by decide +kernel
theorem tyX6_ok : ∀ k, k < 5 → parseFieldDescriptor (TX6 k).2.2.1 = some (tyX6 k) := by decide +kernel
abbrev cX6_init : ByteArray := prog_1_method_1_code
def yX6_init : MethodName := ⟨RX6, "<init>", "()V"⟩
abbrev cX6_put : ByteArray := prog_1_method_2_code
def yX6_put : MethodName := ⟨RX6, "put", "(II)I"⟩
abbrev cX6_stage : ByteArray := prog_1_method_3_code
def yX6_stage : MethodName := ⟨RX6, "stage", "(II)I"⟩
abbrev cX6_take : ByteArray := prog_1_method_4_code
def yX6_take : MethodName := ⟨RX6, "take", "(I)I"⟩
abbrev cX6_rekey : ByteArray := prog_1_method_5_code
def yX6_rekey : MethodName := ⟨RX6, "rekey", "(II)I"⟩
abbrev cX6_addSlice : ByteArray := prog_1_method_6_code
def yX6_addSlice : MethodName := ⟨RX6, "addSlice", "(II)I"⟩
abbrev cX6_dropSlice : ByteArray := prog_1_method_7_code
def yX6_dropSlice : MethodName := ⟨RX6, "dropSlice", "(I)I"⟩
abbrev cX6_detach : ByteArray := prog_1_method_8_code
def yX6_detach : MethodName := ⟨RX6, "detach", "(I)I"⟩
abbrev cX6_attach : ByteArray := prog_1_method_9_code
def yX6_attach : MethodName := ⟨RX6, "attach", "(II)I"⟩
abbrev cX6_swap : ByteArray := prog_1_method_10_code
def yX6_swap : MethodName := ⟨RX6, "swap", "(IZ)I"⟩
abbrev cX6_split : ByteArray := prog_1_method_11_code
def yX6_split : MethodName := ⟨RX6, "split", "(II)I"⟩
abbrev cX6_merge : ByteArray := prog_1_method_12_code
def yX6_merge : MethodName := ⟨RX6, "merge", "(II)I"⟩
abbrev cX6_useDefault : ByteArray := prog_1_method_13_code
def yX6_useDefault : MethodName := ⟨RX6, "useDefault", "(Z)I"⟩
abbrev cX6_mend : ByteArray := prog_1_method_14_code
def yX6_mend : MethodName := ⟨RX6, "mend", "()I"⟩
abbrev cX6_set : ByteArray := prog_1_method_15_code
def yX6_set : MethodName := ⟨RX6, "set", "(II)I"⟩
abbrev cX6_type : ByteArray := prog_1_method_16_code
def yX6_type : MethodName := ⟨RX6, "type", "(C)I"⟩
abbrev cX6_clearText : ByteArray := prog_1_method_17_code
def yX6_clearText : MethodName := ⟨RX6, "clearText", "()I"⟩
abbrev cX6_undo : ByteArray := prog_1_method_19_code
def yX6_undo : MethodName := ⟨RX6, "undo", "()I"⟩
abbrev cX6_row : ByteArray := prog_1_method_22_code
def yX6_row : MethodName := ⟨RX6, "row", "(II)I"⟩
abbrev cX6_slice : ByteArray := prog_1_method_23_code
def yX6_slice : MethodName := ⟨RX6, "slice", "(II)I"⟩
abbrev cX6_ordered : ByteArray := prog_1_method_24_code
def yX6_ordered : MethodName := ⟨RX6, "ordered", "(I)I"⟩
abbrev cX6_lies : ByteArray := prog_1_method_25_code
def yX6_lies : MethodName := ⟨RX6, "lies", "(II)I"⟩
abbrev cX6_belongs : ByteArray := prog_1_method_26_code
def yX6_belongs : MethodName := ⟨RX6, "belongs", "(I)I"⟩
abbrev cX6_gap : ByteArray := prog_1_method_27_code
def yX6_gap : MethodName := ⟨RX6, "gap", "(II)I"⟩
abbrev cX6_stray : ByteArray := prog_1_method_28_code
def yX6_stray : MethodName := ⟨RX6, "stray", "(I)I"⟩
abbrev cX6_count : ByteArray := prog_1_method_29_code
def yX6_count : MethodName := ⟨RX6, "count", "(I)I"⟩
abbrev cX6_ask : ByteArray := prog_1_method_30_code
def yX6_ask : MethodName := ⟨RX6, "ask", "(I)I"⟩
abbrev cX6_answer : ByteArray := prog_1_method_31_code
def yX6_answer : MethodName := ⟨RX6, "answer", "(I)I"⟩
abbrev cX6_passes : ByteArray := prog_1_method_33_code
def yX6_passes : MethodName := ⟨RX6, "passes", "(I)I"⟩
abbrev cX6_spared : ByteArray := prog_1_method_34_code
def yX6_spared : MethodName := ⟨RX6, "spared", "()D"⟩
abbrev cX6_unfit : ByteArray := prog_1_method_35_code
def yX6_unfit : MethodName := ⟨RX6, "unfit", "(I)I"⟩
abbrev cX6_bestSplit : ByteArray := prog_1_method_36_code
def yX6_bestSplit : MethodName := ⟨RX6, "bestSplit", "(I)I"⟩
abbrev cX6_heaviest : ByteArray := prog_1_method_37_code
def yX6_heaviest : MethodName := ⟨RX6, "heaviest", "()I"⟩
abbrev cX6_isKey : ByteArray := prog_1_method_38_code
def yX6_isKey : MethodName := ⟨RX6, "isKey", "(I)Z"⟩
abbrev cX6_isValue : ByteArray := prog_1_method_39_code
def yX6_isValue : MethodName := ⟨RX6, "isValue", "(I)Z"⟩
abbrev cX6_areBounds : ByteArray := prog_1_method_40_code
def yX6_areBounds : MethodName := ⟨RX6, "areBounds", "(II)Z"⟩
abbrev cX6_isPlace : ByteArray := prog_1_method_41_code
def yX6_isPlace : MethodName := ⟨RX6, "isPlace", "(I)Z"⟩
abbrev cX6_keyOfRanked : ByteArray := prog_1_method_42_code
def yX6_keyOfRanked : MethodName := ⟨RX6, "keyOfRanked", "(II)I"⟩
abbrev cX6_straysFit : ByteArray := prog_1_method_43_code
def yX6_straysFit : MethodName := ⟨RX6, "straysFit", "()Z"⟩
abbrev cX6_unevenness : ByteArray := prog_1_method_44_code
def yX6_unevenness : MethodName := ⟨RX6, "unevenness", "(III)I"⟩
abbrev cX6_markLooked : ByteArray := prog_1_method_45_code
def yX6_markLooked : MethodName := ⟨RX6, "markLooked", "(I)V"⟩
abbrev cX6_sliceMayHold : ByteArray := prog_1_method_46_code
def yX6_sliceMayHold : MethodName := ⟨RX6, "sliceMayHold", "(II)Z"⟩
abbrev cX6_someFreeKeyMayHold : ByteArray := prog_1_method_47_code
def yX6_someFreeKeyMayHold : MethodName := ⟨RX6, "someFreeKeyMayHold", "()Z"⟩
abbrev cX6_isLooked : ByteArray := prog_1_method_48_code
def yX6_isLooked : MethodName := ⟨RX6, "isLooked", "(I)Z"⟩
abbrev cX6_rowPasses : ByteArray := prog_1_method_49_code
def yX6_rowPasses : MethodName := ⟨RX6, "rowPasses", "(I)Z"⟩
abbrev cX6_isAnswer : ByteArray := prog_1_method_50_code
def yX6_isAnswer : MethodName := ⟨RX6, "isAnswer", "(I)Z"⟩
abbrev cX6_answerAmount : ByteArray := prog_1_method_51_code
def yX6_answerAmount : MethodName := ⟨RX6, "answerAmount", "()I"⟩
abbrev cX6_answerSum : ByteArray := prog_1_method_52_code
def yX6_answerSum : MethodName := ⟨RX6, "answerSum", "()I"⟩
abbrev cX6_wholeAmount : ByteArray := prog_1_method_53_code
def yX6_wholeAmount : MethodName := ⟨RX6, "wholeAmount", "()I"⟩
abbrev cX6_lookedPlaces : ByteArray := prog_1_method_54_code
def yX6_lookedPlaces : MethodName := ⟨RX6, "lookedPlaces", "()I"⟩
abbrev cX6_lookedRows : ByteArray := prog_1_method_55_code
def yX6_lookedRows : MethodName := ⟨RX6, "lookedRows", "()I"⟩
def RX7 : String := "PrunedSlicesModel"
def TX7 : u_T := fun k => match k with
  | _ => ("", "", "", false)
def tyX7 : Nat → FieldType := fun k => match k with
  | _ => .int
abbrev wsX70 : List Cond := u_ws RX7 TX7 0
theorem nmX7 : ∀ a, a < 0 → ∀ b, b < 0 → a ≠ b → (TX7 a).2.1 ≠ (TX7 b).2.1 := by decide +kernel
theorem tyX7_ok : ∀ k, k < 0 → parseFieldDescriptor (TX7 k).2.2.1 = some (tyX7 k) := by decide +kernel
def RJ9 : String := "java/lang/Math"
def TJ9 : u_T := fun k => match k with
  | _ => ("", "", "", false)
def tyJ9 : Nat → FieldType := fun k => match k with
  | _ => .int
abbrev wsJ90 : List Cond := u_ws RJ9 TJ9 0
theorem nmJ9 : ∀ a, a < 0 → ∀ b, b < 0 → a ≠ b → (TJ9 a).2.1 ≠ (TJ9 b).2.1 := by decide +kernel
theorem tyJ9_ok : ∀ k, k < 0 → parseFieldDescriptor (TJ9 k).2.2.1 = some (tyJ9 k) := by decide +kernel
abbrev cJ9_abs_0f7a4 : ByteArray := prog_10_method_59_code
def yJ9_abs_0f7a4 : MethodName := ⟨RJ9, "abs", "(I)I"⟩
abbrev cJ9_max_7cf53 : ByteArray := prog_10_method_65_code
def yJ9_max_7cf53 : MethodName := ⟨RJ9, "max", "(II)I"⟩
abbrev cJ9_min_7cf53 : ByteArray := prog_10_method_69_code
def yJ9_min_7cf53 : MethodName := ⟨RJ9, "min", "(II)I"⟩
def RJ10 : String := "java/lang/System"
def TJ10 : u_T := fun k => match k with
  | _ => ("", "", "", false)
def tyJ10 : Nat → FieldType := fun k => match k with
  | _ => .int
abbrev wsJ100 : List Cond := u_ws RJ10 TJ10 0
theorem nmJ10 : ∀ a, a < 0 → ∀ b, b < 0 → a ≠ b → (TJ10 a).2.1 ≠ (TJ10 b).2.1 := by decide +kernel
theorem tyJ10_ok : ∀ k, k < 0 → parseFieldDescriptor (TJ10 k).2.2.1 = some (tyJ10 k) := by decide +kernel
def RL : String := "PrunedSlicesLaw"
abbrev cL_cell : ByteArray := method_2_code
def yL_cell : MethodName := ⟨RL, "cell", "([II)I"⟩
abbrev cL_low : ByteArray := method_3_code
def yL_low : MethodName := ⟨RL, "low", "(II)I"⟩
abbrev cL_tell : ByteArray := method_4_code
def yL_tell : MethodName := ⟨RL, "tell", "(LPrunedSlices;)[I"⟩
abbrev cL_same : ByteArray := method_5_code
def yL_same : MethodName := ⟨RL, "same", "([I[I)Z"⟩
abbrev cL_place : ByteArray := method_6_code
def yL_place : MethodName := ⟨RL, "place", "(LPrunedSlices;I)Z"⟩
abbrev cL_sums : ByteArray := method_7_code
def yL_sums : MethodName := ⟨RL, "sums", "(LPrunedSlices;)Z"⟩
abbrev cL_act : ByteArray := method_8_code
def yL_act : MethodName := ⟨RL, "act", "(LPrunedSlices;II)I"⟩
abbrev cL_back : ByteArray := method_9_code
def yL_back : MethodName := ⟨RL, "back", "(LPrunedSlices;II)Z"⟩
abbrev cL_turned : ByteArray := method_10_code
def yL_turned : MethodName := ⟨RL, "turned", "(LPrunedSlices;I)Z"⟩
abbrev cL_law : ByteArray := code
def yL_law : MethodName := ⟨RL, "law", "([I)Z"⟩
abbrev vwCl : List vw_C := [(RX0, TX0, 1), (RX1, TX1, 4), (RX2, TX2, 14), (RX3, TX3, 4), (RX4, TX4, 5), (RX5, TX5, 5), (RX6, TX6, 5)]
/-- the tables' words but those of nest mates' links -/
def lw_keepw : Cond → Bool
  | .methodLinkNest _ _ _ _ => false
  | .soleField _ _ => false
  | .superclass _ _ => false
  | .arrayOver _ => false
  | .privateMethod _ => false
  | _ => true
def lw_all : List Cond := lw_tbl.filter lw_keepw
theorem lw_all_tbl {w : Cond} (h : w ∈ lw_all) : w ∈ lw_tbl := (List.mem_filter.mp h).1
theorem lw_good : lw_all.all goodWord = true := by decide +kernel
theorem lw_gg : GoodIn lw_all lw_all := goodIn_sub (fun _ h => h) lw_good
