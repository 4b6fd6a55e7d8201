section
variable {p : Program} {l : Launch} {e : Env} {s : State} {m : MethodId} {below : List Frame} {meth : Method} {c : Code} {b L : Nat} {xs : Nat → Int32} {D : va_G} {a a2 : Nat → Nat} {cA cT : ClassId} {Rel : MG → MG → Prop}
set_option maxHeartbeats 4000000 in
set_option maxRecDepth 100000 in
theorem law_loop (hC : LW p s m meth c b L xs D a a2 cA cT) (hdn : ∀ q : UInt64, isNaN64 q = true → isNaN64 (FP.dsub FP.dconst1 q) = true) (hdc1 : ∀ q : UInt64, isNaN64 q = true → FP.dcmp q q = none) (hdc2 : ∀ q q' : UInt64, isNaN64 q = true → isNaN64 q' = true → FP.dcmp q q' = none) (hdc3 : ∀ q : UInt64, isNaN64 q = false → FP.dcmp q q = some .eq) (hsim : Sims Rel) : ∀ (n i : Nat), i ≤ L → L - i < n → ∀ (g h : MG), Rel g h → ∀ (H : Heap) (locs : List Loc) (ls : Array Slot) (d0 : Drawn), s.drawn.sameBut d0 lw_cs → WP D a cA cT TC g H → WP D a2 cA cT TM h H → va_S (fun q => s.heap.size ≤ q) s.heap H locs → lv_has ls 8 [(0, .ref b), (1, .ref (a 0)), (2, .ref (a2 0)), (3, .int (nI i))] → W p l e room_1 (s.setDrawn d0) m #[Value.ref b] below meth c H locs 600000 7302250 (lw_Z below #[Value.ref b] s) (F0 m 18 ls []) := by
  obtain ⟨⟨hx, hb, hr, hml, hown, hts0, hX, hbl, hlocks, hgv⟩, hK, hI, hI2, hap, hA1, hA2, hL⟩ := id hC
  have hbA : ¬ (fun q : Nat => s.heap.size ≤ q) b := Nat.not_le.mpr hbl
  obtain ⟨hs_put, hs_stage, hs_take, hs_rekey, hs_addSlice, hs_dropSlice, hs_detach, hs_attach, hs_swap, hs_split, hs_merge, hs_useDefault, hs_mend, hs_set, hs_type, hs_clearText, hs_fault, hs_undo, hs_keep, hs_restore, hs_row, hs_slice, hs_ordered, hs_lies, hs_belongs, hs_gap, hs_stray, hs_count, hs_ask, hs_answer, hs_looksInto, hs_passes, hs_spared, hs_unfit, hs_bestSplit, hs_heaviest⟩ := hsim
  intro n
  induction n with
  | zero => intro i h1 h2; exact absurd h2 (Nat.not_lt_zero _)
  | succ n ih =>
    intro i hiL hn g h hR H locs ls d0 hd0 hP1 hP2 hS hl
    refine lv_iload_n hx hb dL_law_18 rfl (lv_at hl 3 rfl) ?_
    refine lv_aload_n hx hb dL_law_19 rfl (lv_at hl 0 rfl) ?_
    refine va_slen (s := s.setDrawn d0) hx hb hX hbl hbA hS dL_law_20 ?_
    refine lv_iconst (v := (3 : Int32)) hx hb dL_law_21 (by decide) ?_
    refine lv_isub hx hb dL_law_22 ?_
    have hval : (Int32.ofNat L - (3 : Int32)).toInt = (L : Int) - 3 := pk_sub_toInt (a := L) (b := 3) (by omega) (by omega)
    have hvi : (nI i).toInt = (i : Int) := nI_toInt (by omega)
    refine lv_icmp_gt (tgt := 1148) hx hb dL_law_23 (by decide) (fun hc => ?_) (fun hc => ?_)
    · refine lv_iconst (v := (1 : Int32)) hx hb dL_law_1148 (by decide) ?_
      refine va_forget (fun q hq => hS.2.2 q hq) ?_
      exact lw_ret hd0 hx hb hr hlocks dL_law_1149
    · have hi : i + 3 ≤ L := by
        have := Int32.le_iff_toInt_le.mp (Int32.not_lt.mp hc)
        rw [hval, hvi] at this
        omega
      have hin0 : vp_in (nI i) L := vp_in_nI (by omega) (by omega)
      have hk : ∀ (g h : MG), Rel g h → ∀ (H : Heap) (locs : List Loc) (ls : Array Slot) (d0 : Drawn), s.drawn.sameBut d0 lw_cs → WP D a cA cT TC g H → WP D a2 cA cT TM h H → va_S (fun q => s.heap.size ≤ q) s.heap H locs → lv_has ls 8 [(0, .ref b), (1, .ref (a 0)), (2, .ref (a2 0)), (3, .int (nI i))] → W p l e room_1 (s.setDrawn d0) m #[Value.ref b] below meth c H locs 600000 7302250 (lw_Z below #[Value.ref b] s) (F0 m 1142 ls []) := by
        intro g h hR H locs ls d0 hd0 hP1 hP2 hS hl
        refine lv_iinc (v := nI (i + 3)) (lv' := [(3, .int (nI (i + 3))), (0, .ref b), (1, .ref (a 0)), (2, .ref (a2 0))]) hx hb dL_law_1142 hl (k := 3) rfl (nI_add i 3) (by decide) rfl (fun ls hl => ?_)
        refine lv_goto (tgt := 18) hx hb dL_law_1145 (by decide) ?_
        exact ih (i + 3) hi (by omega) g h hR H locs ls d0 hd0 hP1 hP2 hS (lv_sub hl [1, 2, 3, 0] rfl)
      refine lv_aload_n hx hb dL_law_26 rfl (lv_at hl 0 rfl) ?_
      refine lv_iload_n hx hb dL_law_27 rfl (lv_at hl 3 rfl) ?_
      refine va_sld (s := s.setDrawn d0) hx hb hX hbl hbA hS hin0 dL_law_28 ?_
      refine lv_bipush (v := (63 : Int32)) hx hb dL_law_29 (by decide) ?_
      refine lv_iand hx hb dL_law_31 ?_
      refine lv_topi (fun w ew => ?_)
      by_cases hs0 : w = (0 : Int32)
      · refine lv_tableIn (off := 160) (tgt := 192) hx hb dL_law_32 (by rw [hs0]; decide) (by rw [hs0]; decide) (by rw [hs0]; rfl) (by decide) ?_
        exact lc_0 hC hs_put hi hR hk H locs ls d0 hd0 hP1 hP2 hS hl
      by_cases hs1 : w = (1 : Int32)
      · refine lv_tableIn (off := 193) (tgt := 225) hx hb dL_law_32 (by rw [hs1]; decide) (by rw [hs1]; decide) (by rw [hs1]; rfl) (by decide) ?_
        exact lc_1 hC hs_stage hi hR hk H locs ls d0 hd0 hP1 hP2 hS hl
      by_cases hs2 : w = (2 : Int32)
      · refine lv_tableIn (off := 226) (tgt := 258) hx hb dL_law_32 (by rw [hs2]; decide) (by rw [hs2]; decide) (by rw [hs2]; rfl) (by decide) ?_
        exact lc_2 hC hs_take hi hR hk H locs ls d0 hd0 hP1 hP2 hS hl
      by_cases hs3 : w = (3 : Int32)
      · refine lv_tableIn (off := 249) (tgt := 281) hx hb dL_law_32 (by rw [hs3]; decide) (by rw [hs3]; decide) (by rw [hs3]; rfl) (by decide) ?_
        exact lc_3 hC hs_rekey hi hR hk H locs ls d0 hd0 hP1 hP2 hS hl
      by_cases hs4 : w = (4 : Int32)
      · refine lv_tableIn (off := 282) (tgt := 314) hx hb dL_law_32 (by rw [hs4]; decide) (by rw [hs4]; decide) (by rw [hs4]; rfl) (by decide) ?_
        exact lc_4 hC hs_addSlice hi hR hk H locs ls d0 hd0 hP1 hP2 hS hl
      by_cases hs5 : w = (5 : Int32)
      · refine lv_tableIn (off := 315) (tgt := 347) hx hb dL_law_32 (by rw [hs5]; decide) (by rw [hs5]; decide) (by rw [hs5]; rfl) (by decide) ?_
        exact lc_5 hC hs_dropSlice hi hR hk H locs ls d0 hd0 hP1 hP2 hS hl
      by_cases hs6 : w = (6 : Int32)
      · refine lv_tableIn (off := 338) (tgt := 370) hx hb dL_law_32 (by rw [hs6]; decide) (by rw [hs6]; decide) (by rw [hs6]; rfl) (by decide) ?_
        exact lc_6 hC hs_detach hi hR hk H locs ls d0 hd0 hP1 hP2 hS hl
      by_cases hs7 : w = (7 : Int32)
      · refine lv_tableIn (off := 361) (tgt := 393) hx hb dL_law_32 (by rw [hs7]; decide) (by rw [hs7]; decide) (by rw [hs7]; rfl) (by decide) ?_
        exact lc_7 hC hs_attach hi hR hk H locs ls d0 hd0 hP1 hP2 hS hl
      by_cases hs8 : w = (8 : Int32)
      · refine lv_tableIn (off := 394) (tgt := 426) hx hb dL_law_32 (by rw [hs8]; decide) (by rw [hs8]; decide) (by rw [hs8]; rfl) (by decide) ?_
        exact lc_8 hC hs_swap hi hR hk H locs ls d0 hd0 hP1 hP2 hS hl
      by_cases hs9 : w = (9 : Int32)
      · refine lv_tableIn (off := 443) (tgt := 475) hx hb dL_law_32 (by rw [hs9]; decide) (by rw [hs9]; decide) (by rw [hs9]; rfl) (by decide) ?_
        exact lc_9 hC hs_split hi hR hk H locs ls d0 hd0 hP1 hP2 hS hl
      by_cases hs10 : w = (10 : Int32)
      · refine lv_tableIn (off := 476) (tgt := 508) hx hb dL_law_32 (by rw [hs10]; decide) (by rw [hs10]; decide) (by rw [hs10]; rfl) (by decide) ?_
        exact lc_10 hC hs_merge hi hR hk H locs ls d0 hd0 hP1 hP2 hS hl
      by_cases hs11 : w = (11 : Int32)
      · refine lv_tableIn (off := 509) (tgt := 541) hx hb dL_law_32 (by rw [hs11]; decide) (by rw [hs11]; decide) (by rw [hs11]; rfl) (by decide) ?_
        exact lc_11 hC hs_useDefault hi hR hk H locs ls d0 hd0 hP1 hP2 hS hl
      by_cases hs12 : w = (12 : Int32)
      · refine lv_tableIn (off := 548) (tgt := 580) hx hb dL_law_32 (by rw [hs12]; decide) (by rw [hs12]; decide) (by rw [hs12]; rfl) (by decide) ?_
        exact lc_12 hC hs_mend hi hR hk H locs ls d0 hd0 hP1 hP2 hS hl
      by_cases hs13 : w = (13 : Int32)
      · refine lv_tableIn (off := 561) (tgt := 593) hx hb dL_law_32 (by rw [hs13]; decide) (by rw [hs13]; decide) (by rw [hs13]; rfl) (by decide) ?_
        exact lc_13 hC hs_set hi hR hk H locs ls d0 hd0 hP1 hP2 hS hl
      by_cases hs14 : w = (14 : Int32)
      · refine lv_tableIn (off := 594) (tgt := 626) hx hb dL_law_32 (by rw [hs14]; decide) (by rw [hs14]; decide) (by rw [hs14]; rfl) (by decide) ?_
        exact lc_14 hC hs_type hi hR hk H locs ls d0 hd0 hP1 hP2 hS hl
      by_cases hs15 : w = (15 : Int32)
      · refine lv_tableIn (off := 619) (tgt := 651) hx hb dL_law_32 (by rw [hs15]; decide) (by rw [hs15]; decide) (by rw [hs15]; rfl) (by decide) ?_
        exact lc_15 hC hs_clearText hi hR hk H locs ls d0 hd0 hP1 hP2 hS hl
      by_cases hs16 : w = (16 : Int32)
      · refine lv_tableIn (off := 632) (tgt := 664) hx hb dL_law_32 (by rw [hs16]; decide) (by rw [hs16]; decide) (by rw [hs16]; rfl) (by decide) ?_
        exact lc_16 hC hs_fault hi hR hk H locs ls d0 hd0 hP1 hP2 hS hl
      by_cases hs17 : w = (17 : Int32)
      · refine lv_tableIn (off := 645) (tgt := 677) hx hb dL_law_32 (by rw [hs17]; decide) (by rw [hs17]; decide) (by rw [hs17]; rfl) (by decide) ?_
        exact lc_17 hC hs_undo hi hR hk H locs ls d0 hd0 hP1 hP2 hS hl
      by_cases hs18 : w = (18 : Int32)
      · refine lv_tableIn (off := 658) (tgt := 690) hx hb dL_law_32 (by rw [hs18]; decide) (by rw [hs18]; decide) (by rw [hs18]; rfl) (by decide) ?_
        exact lc_18 hC hs_keep hi hR hk H locs ls d0 hd0 hP1 hP2 hS hl
      by_cases hs19 : w = (19 : Int32)
      · refine lv_tableIn (off := 671) (tgt := 703) hx hb dL_law_32 (by rw [hs19]; decide) (by rw [hs19]; decide) (by rw [hs19]; rfl) (by decide) ?_
        exact lc_19 hC hs_restore hi hR hk H locs ls d0 hd0 hP1 hP2 hS hl
      by_cases hs20 : w = (20 : Int32)
      · refine lv_tableIn (off := 684) (tgt := 716) hx hb dL_law_32 (by rw [hs20]; decide) (by rw [hs20]; decide) (by rw [hs20]; rfl) (by decide) ?_
        exact lc_20 hC hs_row hi hR hk H locs ls d0 hd0 hP1 hP2 hS hl
      by_cases hs21 : w = (21 : Int32)
      · refine lv_tableIn (off := 717) (tgt := 749) hx hb dL_law_32 (by rw [hs21]; decide) (by rw [hs21]; decide) (by rw [hs21]; rfl) (by decide) ?_
        exact lc_21 hC hs_slice hi hR hk H locs ls d0 hd0 hP1 hP2 hS hl
      by_cases hs22 : w = (22 : Int32)
      · refine lv_tableIn (off := 750) (tgt := 782) hx hb dL_law_32 (by rw [hs22]; decide) (by rw [hs22]; decide) (by rw [hs22]; rfl) (by decide) ?_
        exact lc_22 hC hs_ordered hi hR hk H locs ls d0 hd0 hP1 hP2 hS hl
      by_cases hs23 : w = (23 : Int32)
      · refine lv_tableIn (off := 773) (tgt := 805) hx hb dL_law_32 (by rw [hs23]; decide) (by rw [hs23]; decide) (by rw [hs23]; rfl) (by decide) ?_
        exact lc_23 hC hs_lies hi hR hk H locs ls d0 hd0 hP1 hP2 hS hl
      by_cases hs24 : w = (24 : Int32)
      · refine lv_tableIn (off := 806) (tgt := 838) hx hb dL_law_32 (by rw [hs24]; decide) (by rw [hs24]; decide) (by rw [hs24]; rfl) (by decide) ?_
        exact lc_24 hC hs_belongs hi hR hk H locs ls d0 hd0 hP1 hP2 hS hl
      by_cases hs25 : w = (25 : Int32)
      · refine lv_tableIn (off := 829) (tgt := 861) hx hb dL_law_32 (by rw [hs25]; decide) (by rw [hs25]; decide) (by rw [hs25]; rfl) (by decide) ?_
        exact lc_25 hC hs_gap hi hR hk H locs ls d0 hd0 hP1 hP2 hS hl
      by_cases hs26 : w = (26 : Int32)
      · refine lv_tableIn (off := 862) (tgt := 894) hx hb dL_law_32 (by rw [hs26]; decide) (by rw [hs26]; decide) (by rw [hs26]; rfl) (by decide) ?_
        exact lc_26 hC hs_stray hi hR hk H locs ls d0 hd0 hP1 hP2 hS hl
      by_cases hs27 : w = (27 : Int32)
      · refine lv_tableIn (off := 885) (tgt := 917) hx hb dL_law_32 (by rw [hs27]; decide) (by rw [hs27]; decide) (by rw [hs27]; rfl) (by decide) ?_
        exact lc_27 hC hs_count hi hR hk H locs ls d0 hd0 hP1 hP2 hS hl
      by_cases hs28 : w = (28 : Int32)
      · refine lv_tableIn (off := 908) (tgt := 940) hx hb dL_law_32 (by rw [hs28]; decide) (by rw [hs28]; decide) (by rw [hs28]; rfl) (by decide) ?_
        exact lc_28 hC hs_ask hi hR hk H locs ls d0 hd0 hP1 hP2 hS hl
      by_cases hs29 : w = (29 : Int32)
      · refine lv_tableIn (off := 931) (tgt := 963) hx hb dL_law_32 (by rw [hs29]; decide) (by rw [hs29]; decide) (by rw [hs29]; rfl) (by decide) ?_
        exact lc_29 hC hs_answer hi hR hk H locs ls d0 hd0 hP1 hP2 hS hl
      by_cases hs30 : w = (30 : Int32)
      · refine lv_tableIn (off := 954) (tgt := 986) hx hb dL_law_32 (by rw [hs30]; decide) (by rw [hs30]; decide) (by rw [hs30]; rfl) (by decide) ?_
        exact lc_30 hC hs_looksInto hi hR hk H locs ls d0 hd0 hP1 hP2 hS hl
      by_cases hs31 : w = (31 : Int32)
      · refine lv_tableIn (off := 987) (tgt := 1019) hx hb dL_law_32 (by rw [hs31]; decide) (by rw [hs31]; decide) (by rw [hs31]; rfl) (by decide) ?_
        exact lc_31 hC hs_passes hi hR hk H locs ls d0 hd0 hP1 hP2 hS hl
      by_cases hs32 : w = (32 : Int32)
      · refine lv_tableIn (off := 1010) (tgt := 1042) hx hb dL_law_32 (by rw [hs32]; decide) (by rw [hs32]; decide) (by rw [hs32]; rfl) (by decide) ?_
        exact lc_32 hC hdn hdc1 hdc2 hdc3 hs_spared hi hR hk H locs ls d0 hd0 hP1 hP2 hS hl
      by_cases hs33 : w = (33 : Int32)
      · refine lv_tableIn (off := 1051) (tgt := 1083) hx hb dL_law_32 (by rw [hs33]; decide) (by rw [hs33]; decide) (by rw [hs33]; rfl) (by decide) ?_
        exact lc_33 hC hs_unfit hi hR hk H locs ls d0 hd0 hP1 hP2 hS hl
      by_cases hs34 : w = (34 : Int32)
      · refine lv_tableIn (off := 1074) (tgt := 1106) hx hb dL_law_32 (by rw [hs34]; decide) (by rw [hs34]; decide) (by rw [hs34]; rfl) (by decide) ?_
        exact lc_34 hC hs_bestSplit hi hR hk H locs ls d0 hd0 hP1 hP2 hS hl
      by_cases hs35 : w = (35 : Int32)
      · refine lv_tableIn (off := 1097) (tgt := 1129) hx hb dL_law_32 (by rw [hs35]; decide) (by rw [hs35]; decide) (by rw [hs35]; rfl) (by decide) ?_
        exact lc_35 hC hs_heaviest hi hR hk H locs ls d0 hd0 hP1 hP2 hS hl
      have hq : w.toInt ≠ 0 ∧ w.toInt ≠ 1 ∧ w.toInt ≠ 2 ∧ w.toInt ≠ 3 ∧ w.toInt ≠ 4 ∧ w.toInt ≠ 5 ∧ w.toInt ≠ 6 ∧ w.toInt ≠ 7 ∧ w.toInt ≠ 8 ∧ w.toInt ≠ 9 ∧ w.toInt ≠ 10 ∧ w.toInt ≠ 11 ∧ w.toInt ≠ 12 ∧ w.toInt ≠ 13 ∧ w.toInt ≠ 14 ∧ w.toInt ≠ 15 ∧ w.toInt ≠ 16 ∧ w.toInt ≠ 17 ∧ w.toInt ≠ 18 ∧ w.toInt ≠ 19 ∧ w.toInt ≠ 20 ∧ w.toInt ≠ 21 ∧ w.toInt ≠ 22 ∧ w.toInt ≠ 23 ∧ w.toInt ≠ 24 ∧ w.toInt ≠ 25 ∧ w.toInt ≠ 26 ∧ w.toInt ≠ 27 ∧ w.toInt ≠ 28 ∧ w.toInt ≠ 29 ∧ w.toInt ≠ 30 ∧ w.toInt ≠ 31 ∧ w.toInt ≠ 32 ∧ w.toInt ≠ 33 ∧ w.toInt ≠ 34 ∧ w.toInt ≠ 35 := ⟨sw_ne hs0 rfl, sw_ne hs1 rfl, sw_ne hs2 rfl, sw_ne hs3 rfl, sw_ne hs4 rfl, sw_ne hs5 rfl, sw_ne hs6 rfl, sw_ne hs7 rfl, sw_ne hs8 rfl, sw_ne hs9 rfl, sw_ne hs10 rfl, sw_ne hs11 rfl, sw_ne hs12 rfl, sw_ne hs13 rfl, sw_ne hs14 rfl, sw_ne hs15 rfl, sw_ne hs16 rfl, sw_ne hs17 rfl, sw_ne hs18 rfl, sw_ne hs19 rfl, sw_ne hs20 rfl, sw_ne hs21 rfl, sw_ne hs22 rfl, sw_ne hs23 rfl, sw_ne hs24 rfl, sw_ne hs25 rfl, sw_ne hs26 rfl, sw_ne hs27 rfl, sw_ne hs28 rfl, sw_ne hs29 rfl, sw_ne hs30 rfl, sw_ne hs31 rfl, sw_ne hs32 rfl, sw_ne hs33 rfl, sw_ne hs34 rfl, sw_ne hs35 rfl⟩
      refine lv_tableOut (tgt := 1142) hx hb dL_law_32 (by omega) (by decide) ?_
      exact hk g h hR H locs ls d0 hd0 hP1 hP2 hS hl
end
