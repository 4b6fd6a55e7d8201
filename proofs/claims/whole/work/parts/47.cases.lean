/-! what is owed of the two systems side by side, a method each; then the law's cases -/
def Sim_put (Rel : MG → MG → Prop) : Prop := ∀ (g h : MG) (x0 : Int32) (x1 : Int32), Rel g h → ∃ (r : Int32) (g' : MG) (h' : MG), m_X6_put g x0 x1 = some (r, g') ∧ m_X7_put h x0 x1 = some (r, h') ∧ Rel g' h'
def Sim_stage (Rel : MG → MG → Prop) : Prop := ∀ (g h : MG) (x0 : Int32) (x1 : Int32), Rel g h → ∃ (r : Int32) (g' : MG) (h' : MG), m_X6_stage g x0 x1 = some (r, g') ∧ m_X7_stage h x0 x1 = some (r, h') ∧ Rel g' h'
def Sim_take (Rel : MG → MG → Prop) : Prop := ∀ (g h : MG) (x0 : Int32), Rel g h → ∃ (r : Int32) (g' : MG) (h' : MG), m_X6_take g x0 = some (r, g') ∧ m_X7_take h x0 = some (r, h') ∧ Rel g' h'
def Sim_rekey (Rel : MG → MG → Prop) : Prop := ∀ (g h : MG) (x0 : Int32) (x1 : Int32), Rel g h → ∃ (r : Int32) (g' : MG) (h' : MG), m_X6_rekey g x0 x1 = some (r, g') ∧ m_X7_rekey h x0 x1 = some (r, h') ∧ Rel g' h'
def Sim_addSlice (Rel : MG → MG → Prop) : Prop := ∀ (g h : MG) (x0 : Int32) (x1 : Int32), Rel g h → ∃ (r : Int32) (g' : MG) (h' : MG), m_X6_addSlice g x0 x1 = some (r, g') ∧ m_X7_addSlice h x0 x1 = some (r, h') ∧ Rel g' h'
def Sim_dropSlice (Rel : MG → MG → Prop) : Prop := ∀ (g h : MG) (x0 : Int32), Rel g h → ∃ (r : Int32) (g' : MG) (h' : MG), m_X6_dropSlice g x0 = some (r, g') ∧ m_X7_dropSlice h x0 = some (r, h') ∧ Rel g' h'
def Sim_detach (Rel : MG → MG → Prop) : Prop := ∀ (g h : MG) (x0 : Int32), Rel g h → ∃ (r : Int32) (g' : MG) (h' : MG), m_X6_detach g x0 = some (r, g') ∧ m_X7_detach h x0 = some (r, h') ∧ Rel g' h'
def Sim_attach (Rel : MG → MG → Prop) : Prop := ∀ (g h : MG) (x0 : Int32) (x1 : Int32), Rel g h → ∃ (r : Int32) (g' : MG) (h' : MG), m_X6_attach g x0 x1 = some (r, g') ∧ m_X7_attach h x0 x1 = some (r, h') ∧ Rel g' h'
def Sim_swap (Rel : MG → MG → Prop) : Prop := ∀ (g h : MG) (x0 : Int32) (x1 : Int32), (x1 = 0 ∨ x1 = 1) → Rel g h → ∃ (r : Int32) (g' : MG) (h' : MG), m_X6_swap g x0 x1 = some (r, g') ∧ m_X7_swap h x0 x1 = some (r, h') ∧ Rel g' h'
def Sim_split (Rel : MG → MG → Prop) : Prop := ∀ (g h : MG) (x0 : Int32) (x1 : Int32), Rel g h → ∃ (r : Int32) (g' : MG) (h' : MG), m_X6_split g x0 x1 = some (r, g') ∧ m_X7_split h x0 x1 = some (r, h') ∧ Rel g' h'
def Sim_merge (Rel : MG → MG → Prop) : Prop := ∀ (g h : MG) (x0 : Int32) (x1 : Int32), Rel g h → ∃ (r : Int32) (g' : MG) (h' : MG), m_X6_merge g x0 x1 = some (r, g') ∧ m_X7_merge h x0 x1 = some (r, h') ∧ Rel g' h'
def Sim_useDefault (Rel : MG → MG → Prop) : Prop := ∀ (g h : MG) (x0 : Int32), (x0 = 0 ∨ x0 = 1) → Rel g h → ∃ (r : Int32) (g' : MG) (h' : MG), m_X6_useDefault g x0 = some (r, g') ∧ m_X7_useDefault h x0 = some (r, h') ∧ Rel g' h'
def Sim_mend (Rel : MG → MG → Prop) : Prop := ∀ (g h : MG), Rel g h → ∃ (r : Int32) (g' : MG) (h' : MG), m_X6_mend g = some (r, g') ∧ m_X7_mend h = some (r, h') ∧ Rel g' h'
def Sim_set (Rel : MG → MG → Prop) : Prop := ∀ (g h : MG) (x0 : Int32) (x1 : Int32), Rel g h → ∃ (r : Int32) (g' : MG) (h' : MG), m_X6_set g x0 x1 = some (r, g') ∧ m_X7_set h x0 x1 = some (r, h') ∧ Rel g' h'
def Sim_type (Rel : MG → MG → Prop) : Prop := ∀ (g h : MG) (x0 : Int32), (∃ q : Nat, q < 65536 ∧ x0 = nI q) → Rel g h → ∃ (r : Int32) (g' : MG) (h' : MG), m_X6_type g x0 = some (r, g') ∧ m_X7_type h x0 = some (r, h') ∧ Rel g' h'
def Sim_clearText (Rel : MG → MG → Prop) : Prop := ∀ (g h : MG), Rel g h → ∃ (r : Int32) (g' : MG) (h' : MG), m_X6_clearText g = some (r, g') ∧ m_X7_clearText h = some (r, h') ∧ Rel g' h'
def Sim_fault (Rel : MG → MG → Prop) : Prop := ∀ (g h : MG), Rel g h → ∃ (r : Int32) (h' : MG), m_X6_fault g = some r ∧ m_X7_fault h = some (r, h') ∧ Rel g h'
def Sim_undo (Rel : MG → MG → Prop) : Prop := ∀ (g h : MG), Rel g h → ∃ (r : Int32) (g' : MG) (h' : MG), m_X6_undo g = some (r, g') ∧ m_X7_undo h = some (r, h') ∧ Rel g' h'
def Sim_keep (Rel : MG → MG → Prop) : Prop := ∀ (g h : MG), Rel g h → ∃ (r : Int32) (g' : MG) (h' : MG), m_X6_keep g = some (r, g') ∧ m_X7_keep h = some (r, h') ∧ Rel g' h'
def Sim_restore (Rel : MG → MG → Prop) : Prop := ∀ (g h : MG), Rel g h → ∃ (r : Int32) (g' : MG) (h' : MG), m_X6_restore g = some (r, g') ∧ m_X7_restore h = some (r, h') ∧ Rel g' h'
def Sim_row (Rel : MG → MG → Prop) : Prop := ∀ (g h : MG) (x0 : Int32) (x1 : Int32), Rel g h → ∃ (r : Int32), m_X6_row g x0 x1 = some r ∧ m_X7_row h x0 x1 = some r
def Sim_slice (Rel : MG → MG → Prop) : Prop := ∀ (g h : MG) (x0 : Int32) (x1 : Int32), Rel g h → ∃ (r : Int32), m_X6_slice g x0 x1 = some r ∧ m_X7_slice h x0 x1 = some r
def Sim_ordered (Rel : MG → MG → Prop) : Prop := ∀ (g h : MG) (x0 : Int32), Rel g h → ∃ (r : Int32), m_X6_ordered g x0 = some r ∧ m_X7_ordered h x0 = some r
def Sim_lies (Rel : MG → MG → Prop) : Prop := ∀ (g h : MG) (x0 : Int32) (x1 : Int32), Rel g h → ∃ (r : Int32), m_X6_lies g x0 x1 = some r ∧ m_X7_lies h x0 x1 = some r
def Sim_belongs (Rel : MG → MG → Prop) : Prop := ∀ (g h : MG) (x0 : Int32), Rel g h → ∃ (r : Int32), m_X6_belongs g x0 = some r ∧ m_X7_belongs h x0 = some r
def Sim_gap (Rel : MG → MG → Prop) : Prop := ∀ (g h : MG) (x0 : Int32) (x1 : Int32), Rel g h → ∃ (r : Int32), m_X6_gap g x0 x1 = some r ∧ m_X7_gap h x0 x1 = some r
def Sim_stray (Rel : MG → MG → Prop) : Prop := ∀ (g h : MG) (x0 : Int32), Rel g h → ∃ (r : Int32), m_X6_stray g x0 = some r ∧ m_X7_stray h x0 = some r
def Sim_count (Rel : MG → MG → Prop) : Prop := ∀ (g h : MG) (x0 : Int32), Rel g h → ∃ (r : Int32), m_X6_count g x0 = some r ∧ m_X7_count h x0 = some r
def Sim_ask (Rel : MG → MG → Prop) : Prop := ∀ (g h : MG) (x0 : Int32), Rel g h → ∃ (r : Int32) (g' : MG) (h' : MG), m_X6_ask g x0 = some (r, g') ∧ m_X7_ask h x0 = some (r, h') ∧ Rel g' h'
def Sim_answer (Rel : MG → MG → Prop) : Prop := ∀ (g h : MG) (x0 : Int32), Rel g h → ∃ (r : Int32) (g' : MG) (h' : MG), m_X6_answer g x0 = some (r, g') ∧ m_X7_answer h x0 = some (r, h') ∧ Rel g' h'
def Sim_looksInto (Rel : MG → MG → Prop) : Prop := ∀ (g h : MG) (x0 : Int32) (x1 : Int32), Rel g h → ∃ (r : Int32) (g' : MG) (h' : MG), m_X6_looksInto g x0 x1 = some (r, g') ∧ m_X7_looksInto h x0 x1 = some (r, h') ∧ Rel g' h'
def Sim_passes (Rel : MG → MG → Prop) : Prop := ∀ (g h : MG) (x0 : Int32), Rel g h → ∃ (r : Int32) (g' : MG) (h' : MG), m_X6_passes g x0 = some (r, g') ∧ m_X7_passes h x0 = some (r, h') ∧ Rel g' h'
def Sim_spared (Rel : MG → MG → Prop) : Prop := ∀ (g h : MG), Rel g h → ∃ (r : Int32 × Int32 × Int32) (g' : MG) (h' : MG), m_X6_spared g = some (r, g') ∧ m_X7_spared h = some (r, h') ∧ Rel g' h'
def Sim_unfit (Rel : MG → MG → Prop) : Prop := ∀ (g h : MG) (x0 : Int32), Rel g h → ∃ (r : Int32), m_X6_unfit g x0 = some r ∧ m_X7_unfit h x0 = some r
def Sim_bestSplit (Rel : MG → MG → Prop) : Prop := ∀ (g h : MG) (x0 : Int32), Rel g h → ∃ (r : Int32), m_X6_bestSplit g x0 = some r ∧ m_X7_bestSplit h x0 = some r
def Sim_heaviest (Rel : MG → MG → Prop) : Prop := ∀ (g h : MG), Rel g h → ∃ (r : Int32), m_X6_heaviest g = some r ∧ m_X7_heaviest h = some r
def Sims (Rel : MG → MG → Prop) : Prop := Sim_put Rel ∧ Sim_stage Rel ∧ Sim_take Rel ∧ Sim_rekey Rel ∧ Sim_addSlice Rel ∧ Sim_dropSlice Rel ∧ Sim_detach Rel ∧ Sim_attach Rel ∧ Sim_swap Rel ∧ Sim_split Rel ∧ Sim_merge Rel ∧ Sim_useDefault Rel ∧ Sim_mend Rel ∧ Sim_set Rel ∧ Sim_type Rel ∧ Sim_clearText Rel ∧ Sim_fault Rel ∧ Sim_undo Rel ∧ Sim_keep Rel ∧ Sim_restore Rel ∧ Sim_row Rel ∧ Sim_slice Rel ∧ Sim_ordered Rel ∧ Sim_lies Rel ∧ Sim_belongs Rel ∧ Sim_gap Rel ∧ Sim_stray Rel ∧ Sim_count Rel ∧ Sim_ask Rel ∧ Sim_answer Rel ∧ Sim_looksInto Rel ∧ Sim_passes Rel ∧ Sim_spared Rel ∧ Sim_unfit Rel ∧ Sim_bestSplit Rel ∧ Sim_heaviest Rel
section
variable {p : Program} {l : Launch} {e : Env} {s : State} {m : MethodId} {below : List Frame} {meth : Method} {c : Code} {b L : Nat} {xs : Nat → Int32} {D : va_G} {a a2 : Nat → Nat} {cA cT : ClassId} {Rel : MG → MG → Prop}
set_option maxHeartbeats 4000000 in
set_option maxRecDepth 100000 in
theorem lc_0 (hC : LW p s m meth c b L xs D a a2 cA cT) (hsim : Sim_put Rel) {i : Nat} (hi : i + 3 ≤ L) {g h : MG} (hR : Rel g h) (hk : ∀ (g h : MG), Rel g h → ∀ (H : Heap) (locs : List Loc) (ls : Array Slot) (d0 : Drawn), s.drawn.sameBut d0 lw_cs → WP D a cA cT TC g H → WP D a2 cA cT TM h H → va_S (fun q => s.heap.size ≤ q) s.heap H locs → lv_has ls 8 [(0, .ref b), (1, .ref (a 0)), (2, .ref (a2 0)), (3, .int (nI i))] → W p l e room_1 (s.setDrawn d0) m #[Value.ref b] below meth c H locs 600000 7302250 (lw_Z below #[Value.ref b] s) (F0 m 1142 ls [])) : ∀ (H : Heap) (locs : List Loc) (ls : Array Slot) (d0 : Drawn), s.drawn.sameBut d0 lw_cs → WP D a cA cT TC g H → WP D a2 cA cT TM h H → va_S (fun q => s.heap.size ≤ q) s.heap H locs → lv_has ls 8 [(0, .ref b), (1, .ref (a 0)), (2, .ref (a2 0)), (3, .int (nI i))] → W p l e room_1 (s.setDrawn d0) m #[Value.ref b] below meth c H locs 600000 7302250 (lw_Z below #[Value.ref b] s) (F0 m 192 ls []) := by
  obtain ⟨⟨hx, hb, hr, hml, hown, hts0, hX, hbl, hlocks, hgv⟩, hK, hI, hI2, hap, hA1, hA2, hL⟩ := hC
  have hts : ∀ w ∈ lw_all, w.before #[Value.ref b] s = true := fun w h => hts0 w (lw_all_tbl h)
  have hbA : ¬ (fun q : Nat => s.heap.size ≤ q) b := Nat.not_le.mpr hbl
  have hin1 : vp_in (nI i + (1 : Int32)) L := by rw [nI_1]; exact vp_in_nI (by omega) (by omega)
  have hin2 : vp_in (nI i + (2 : Int32)) L := by rw [show nI i + (2 : Int32) = nI (i + 2) from nI_add i 2]; exact vp_in_nI (by omega) (by omega)
  intro H locs ls d0 hd0 hP1 hP2 hS hl
  obtain ⟨r, g', h', hcc, hcm, hR2⟩ := hsim g h (xs (nI i + (1 : Int32)).toNatClampNeg) (xs (nI i + (2 : Int32)).toNatClampNeg) hR
  refine lv_aload_n hx hb dL_law_192 rfl (lv_at hl 1 rfl) ?_
  refine lv_aload_n hx hb dL_law_193 rfl (lv_at hl 0 rfl) ?_
  refine lv_iload_n hx hb dL_law_194 rfl (lv_at hl 3 rfl) ?_
  refine lv_iconst (v := (1 : Int32)) hx hb dL_law_195 (by decide) ?_
  refine lv_iadd hx hb dL_law_196 ?_
  refine va_sld (s := s.setDrawn d0) hx hb hX hbl hbA hS hin1 dL_law_197 ?_
  refine lv_aload_n hx hb dL_law_198 rfl (lv_at hl 0 rfl) ?_
  refine lv_iload_n hx hb dL_law_199 rfl (lv_at hl 3 rfl) ?_
  refine lv_iconst (v := (2 : Int32)) hx hb dL_law_200 (by decide) ?_
  refine lv_iadd hx hb dL_law_201 ?_
  refine va_sld (s := s.setDrawn d0) hx hb hX hbl hbA hS hin2 dL_law_202 ?_
  refine y_VI (R := room_1) (s := s.setDrawn d0) (As := [.int (xs (nI i + (1 : Int32)).toNatClampNeg), .int (xs (nI i + (2 : Int32)).toNatClampNeg)]) hx hb hml hown (dr_words hts d0) hK hP1 hS hA1 hP2 (lw_ap (D := D) (a := a2) (fun q h1 h2 => hap q h2 h1)) (ct_X6_put l D a cA cT hI g (xs (nI i + (1 : Int32)).toNatClampNeg) (xs (nI i + (2 : Int32)).toNatClampNeg) r g' hcc) tF_0 (C := RX6) (F := TX6) (N := 5) rfl (g_V q217 q218 q219 q70 q220) yd_X6_put ⟨Nat.le_of_ble_eq_true rfl, Nat.le_of_ble_eq_true rfl⟩ [] rfl (Nat.le_of_ble_eq_true rfl) hl.1 ⟨Nat.le_refl _, Nat.le_refl _⟩ dL_law_203 (fun H locs hP1 hP2 hS => ?_)
  refine lv_aload_n hx hb dL_law_206 rfl (lv_at hl 2 rfl) ?_
  refine lv_aload_n hx hb dL_law_207 rfl (lv_at hl 0 rfl) ?_
  refine lv_iload_n hx hb dL_law_208 rfl (lv_at hl 3 rfl) ?_
  refine lv_iconst (v := (1 : Int32)) hx hb dL_law_209 (by decide) ?_
  refine lv_iadd hx hb dL_law_210 ?_
  refine va_sld (s := s.setDrawn d0) hx hb hX hbl hbA hS hin1 dL_law_211 ?_
  refine lv_aload_n hx hb dL_law_212 rfl (lv_at hl 0 rfl) ?_
  refine lv_iload_n hx hb dL_law_213 rfl (lv_at hl 3 rfl) ?_
  refine lv_iconst (v := (2 : Int32)) hx hb dL_law_214 (by decide) ?_
  refine lv_iadd hx hb dL_law_215 ?_
  refine va_sld (s := s.setDrawn d0) hx hb hX hbl hbA hS hin2 dL_law_216 ?_
  refine y_VI (R := room_1) (s := s.setDrawn d0) (As := [.int (xs (nI i + (1 : Int32)).toNatClampNeg), .int (xs (nI i + (2 : Int32)).toNatClampNeg)]) hx hb hml hown (dr_words hts d0) hK hP2 hS hA2 hP1 (lw_ap (D := D) (a := a) (fun q h1 h2 => hap q h1 h2)) (ct_X7_put l D a2 cA cT hI2 h (xs (nI i + (1 : Int32)).toNatClampNeg) (xs (nI i + (2 : Int32)).toNatClampNeg) r h' hcm) tM_0 (C := RX7) (F := TX7) (N := 18) rfl (g_V q794 q795 q796 q77 q797) yd_X7_put ⟨Nat.le_of_ble_eq_true rfl, Nat.le_of_ble_eq_true rfl⟩ [.int r] rfl (Nat.le_of_ble_eq_true rfl) hl.1 ⟨Nat.le_refl _, Nat.le_refl _⟩ dL_law_217 (fun H locs hP2 hP1 hS => ?_)
  refine lv_icmp_eq (tgt := 1142) hx hb dL_law_220 (by decide) (fun _ => ?_) (fun hn => absurd rfl hn)
  exact hk g' h' hR2 H locs ls d0 hd0 hP1 hP2 hS hl
set_option maxHeartbeats 4000000 in
set_option maxRecDepth 100000 in
theorem lc_1 (hC : LW p s m meth c b L xs D a a2 cA cT) (hsim : Sim_stage Rel) {i : Nat} (hi : i + 3 ≤ L) {g h : MG} (hR : Rel g h) (hk : ∀ (g h : MG), Rel g h → ∀ (H : Heap) (locs : List Loc) (ls : Array Slot) (d0 : Drawn), s.drawn.sameBut d0 lw_cs → WP D a cA cT TC g H → WP D a2 cA cT TM h H → va_S (fun q => s.heap.size ≤ q) s.heap H locs → lv_has ls 8 [(0, .ref b), (1, .ref (a 0)), (2, .ref (a2 0)), (3, .int (nI i))] → W p l e room_1 (s.setDrawn d0) m #[Value.ref b] below meth c H locs 600000 7302250 (lw_Z below #[Value.ref b] s) (F0 m 1142 ls [])) : ∀ (H : Heap) (locs : List Loc) (ls : Array Slot) (d0 : Drawn), s.drawn.sameBut d0 lw_cs → WP D a cA cT TC g H → WP D a2 cA cT TM h H → va_S (fun q => s.heap.size ≤ q) s.heap H locs → lv_has ls 8 [(0, .ref b), (1, .ref (a 0)), (2, .ref (a2 0)), (3, .int (nI i))] → W p l e room_1 (s.setDrawn d0) m #[Value.ref b] below meth c H locs 600000 7302250 (lw_Z below #[Value.ref b] s) (F0 m 225 ls []) := by
  obtain ⟨⟨hx, hb, hr, hml, hown, hts0, hX, hbl, hlocks, hgv⟩, hK, hI, hI2, hap, hA1, hA2, hL⟩ := hC
  have hts : ∀ w ∈ lw_all, w.before #[Value.ref b] s = true := fun w h => hts0 w (lw_all_tbl h)
  have hbA : ¬ (fun q : Nat => s.heap.size ≤ q) b := Nat.not_le.mpr hbl
  have hin1 : vp_in (nI i + (1 : Int32)) L := by rw [nI_1]; exact vp_in_nI (by omega) (by omega)
  have hin2 : vp_in (nI i + (2 : Int32)) L := by rw [show nI i + (2 : Int32) = nI (i + 2) from nI_add i 2]; exact vp_in_nI (by omega) (by omega)
  intro H locs ls d0 hd0 hP1 hP2 hS hl
  obtain ⟨r, g', h', hcc, hcm, hR2⟩ := hsim g h (xs (nI i + (1 : Int32)).toNatClampNeg) (xs (nI i + (2 : Int32)).toNatClampNeg) hR
  refine lv_aload_n hx hb dL_law_225 rfl (lv_at hl 1 rfl) ?_
  refine lv_aload_n hx hb dL_law_226 rfl (lv_at hl 0 rfl) ?_
  refine lv_iload_n hx hb dL_law_227 rfl (lv_at hl 3 rfl) ?_
  refine lv_iconst (v := (1 : Int32)) hx hb dL_law_228 (by decide) ?_
  refine lv_iadd hx hb dL_law_229 ?_
  refine va_sld (s := s.setDrawn d0) hx hb hX hbl hbA hS hin1 dL_law_230 ?_
  refine lv_aload_n hx hb dL_law_231 rfl (lv_at hl 0 rfl) ?_
  refine lv_iload_n hx hb dL_law_232 rfl (lv_at hl 3 rfl) ?_
  refine lv_iconst (v := (2 : Int32)) hx hb dL_law_233 (by decide) ?_
  refine lv_iadd hx hb dL_law_234 ?_
  refine va_sld (s := s.setDrawn d0) hx hb hX hbl hbA hS hin2 dL_law_235 ?_
  refine y_VI (R := room_1) (s := s.setDrawn d0) (As := [.int (xs (nI i + (1 : Int32)).toNatClampNeg), .int (xs (nI i + (2 : Int32)).toNatClampNeg)]) hx hb hml hown (dr_words hts d0) hK hP1 hS hA1 hP2 (lw_ap (D := D) (a := a2) (fun q h1 h2 => hap q h2 h1)) (ct_X6_stage l D a cA cT hI g (xs (nI i + (1 : Int32)).toNatClampNeg) (xs (nI i + (2 : Int32)).toNatClampNeg) r g' hcc) tF_0 (C := RX6) (F := TX6) (N := 5) rfl (g_V q312 q313 q314 q70 q315) yd_X6_stage ⟨Nat.le_of_ble_eq_true rfl, Nat.le_of_ble_eq_true rfl⟩ [] rfl (Nat.le_of_ble_eq_true rfl) hl.1 ⟨Nat.le_refl _, Nat.le_refl _⟩ dL_law_236 (fun H locs hP1 hP2 hS => ?_)
  refine lv_aload_n hx hb dL_law_239 rfl (lv_at hl 2 rfl) ?_
  refine lv_aload_n hx hb dL_law_240 rfl (lv_at hl 0 rfl) ?_
  refine lv_iload_n hx hb dL_law_241 rfl (lv_at hl 3 rfl) ?_
  refine lv_iconst (v := (1 : Int32)) hx hb dL_law_242 (by decide) ?_
  refine lv_iadd hx hb dL_law_243 ?_
  refine va_sld (s := s.setDrawn d0) hx hb hX hbl hbA hS hin1 dL_law_244 ?_
  refine lv_aload_n hx hb dL_law_245 rfl (lv_at hl 0 rfl) ?_
  refine lv_iload_n hx hb dL_law_246 rfl (lv_at hl 3 rfl) ?_
  refine lv_iconst (v := (2 : Int32)) hx hb dL_law_247 (by decide) ?_
  refine lv_iadd hx hb dL_law_248 ?_
  refine va_sld (s := s.setDrawn d0) hx hb hX hbl hbA hS hin2 dL_law_249 ?_
  refine y_VI (R := room_1) (s := s.setDrawn d0) (As := [.int (xs (nI i + (1 : Int32)).toNatClampNeg), .int (xs (nI i + (2 : Int32)).toNatClampNeg)]) hx hb hml hown (dr_words hts d0) hK hP2 hS hA2 hP1 (lw_ap (D := D) (a := a) (fun q h1 h2 => hap q h1 h2)) (ct_X7_stage l D a2 cA cT hI2 h (xs (nI i + (1 : Int32)).toNatClampNeg) (xs (nI i + (2 : Int32)).toNatClampNeg) r h' hcm) tM_0 (C := RX7) (F := TX7) (N := 18) rfl (g_V q822 q823 q824 q77 q825) yd_X7_stage ⟨Nat.le_of_ble_eq_true rfl, Nat.le_of_ble_eq_true rfl⟩ [.int r] rfl (Nat.le_of_ble_eq_true rfl) hl.1 ⟨Nat.le_refl _, Nat.le_refl _⟩ dL_law_250 (fun H locs hP2 hP1 hS => ?_)
  refine lv_icmp_eq (tgt := 1142) hx hb dL_law_253 (by decide) (fun _ => ?_) (fun hn => absurd rfl hn)
  exact hk g' h' hR2 H locs ls d0 hd0 hP1 hP2 hS hl
set_option maxHeartbeats 4000000 in
set_option maxRecDepth 100000 in
theorem lc_2 (hC : LW p s m meth c b L xs D a a2 cA cT) (hsim : Sim_take Rel) {i : Nat} (hi : i + 3 ≤ L) {g h : MG} (hR : Rel g h) (hk : ∀ (g h : MG), Rel g h → ∀ (H : Heap) (locs : List Loc) (ls : Array Slot) (d0 : Drawn), s.drawn.sameBut d0 lw_cs → WP D a cA cT TC g H → WP D a2 cA cT TM h H → va_S (fun q => s.heap.size ≤ q) s.heap H locs → lv_has ls 8 [(0, .ref b), (1, .ref (a 0)), (2, .ref (a2 0)), (3, .int (nI i))] → W p l e room_1 (s.setDrawn d0) m #[Value.ref b] below meth c H locs 600000 7302250 (lw_Z below #[Value.ref b] s) (F0 m 1142 ls [])) : ∀ (H : Heap) (locs : List Loc) (ls : Array Slot) (d0 : Drawn), s.drawn.sameBut d0 lw_cs → WP D a cA cT TC g H → WP D a2 cA cT TM h H → va_S (fun q => s.heap.size ≤ q) s.heap H locs → lv_has ls 8 [(0, .ref b), (1, .ref (a 0)), (2, .ref (a2 0)), (3, .int (nI i))] → W p l e room_1 (s.setDrawn d0) m #[Value.ref b] below meth c H locs 600000 7302250 (lw_Z below #[Value.ref b] s) (F0 m 258 ls []) := by
  obtain ⟨⟨hx, hb, hr, hml, hown, hts0, hX, hbl, hlocks, hgv⟩, hK, hI, hI2, hap, hA1, hA2, hL⟩ := hC
  have hts : ∀ w ∈ lw_all, w.before #[Value.ref b] s = true := fun w h => hts0 w (lw_all_tbl h)
  have hbA : ¬ (fun q : Nat => s.heap.size ≤ q) b := Nat.not_le.mpr hbl
  have hin1 : vp_in (nI i + (1 : Int32)) L := by rw [nI_1]; exact vp_in_nI (by omega) (by omega)
  have hin2 : vp_in (nI i + (2 : Int32)) L := by rw [show nI i + (2 : Int32) = nI (i + 2) from nI_add i 2]; exact vp_in_nI (by omega) (by omega)
  intro H locs ls d0 hd0 hP1 hP2 hS hl
  obtain ⟨r, g', h', hcc, hcm, hR2⟩ := hsim g h (xs (nI i + (1 : Int32)).toNatClampNeg) hR
  refine lv_aload_n hx hb dL_law_258 rfl (lv_at hl 1 rfl) ?_
  refine lv_aload_n hx hb dL_law_259 rfl (lv_at hl 0 rfl) ?_
  refine lv_iload_n hx hb dL_law_260 rfl (lv_at hl 3 rfl) ?_
  refine lv_iconst (v := (1 : Int32)) hx hb dL_law_261 (by decide) ?_
  refine lv_iadd hx hb dL_law_262 ?_
  refine va_sld (s := s.setDrawn d0) hx hb hX hbl hbA hS hin1 dL_law_263 ?_
  refine y_VI (R := room_1) (s := s.setDrawn d0) (As := [.int (xs (nI i + (1 : Int32)).toNatClampNeg)]) hx hb hml hown (dr_words hts d0) hK hP1 hS hA1 hP2 (lw_ap (D := D) (a := a2) (fun q h1 h2 => hap q h2 h1)) (ct_X6_take l D a cA cT hI g (xs (nI i + (1 : Int32)).toNatClampNeg) r g' hcc) tF_0 (C := RX6) (F := TX6) (N := 5) rfl (g_V q316 q317 q318 q70 q319) yd_X6_take ⟨Nat.le_of_ble_eq_true rfl, Nat.le_of_ble_eq_true rfl⟩ [] rfl (Nat.le_of_ble_eq_true rfl) hl.1 ⟨Nat.le_refl _, Nat.le_refl _⟩ dL_law_264 (fun H locs hP1 hP2 hS => ?_)
  refine lv_aload_n hx hb dL_law_267 rfl (lv_at hl 2 rfl) ?_
  refine lv_aload_n hx hb dL_law_268 rfl (lv_at hl 0 rfl) ?_
  refine lv_iload_n hx hb dL_law_269 rfl (lv_at hl 3 rfl) ?_
  refine lv_iconst (v := (1 : Int32)) hx hb dL_law_270 (by decide) ?_
  refine lv_iadd hx hb dL_law_271 ?_
  refine va_sld (s := s.setDrawn d0) hx hb hX hbl hbA hS hin1 dL_law_272 ?_
  refine y_VI (R := room_1) (s := s.setDrawn d0) (As := [.int (xs (nI i + (1 : Int32)).toNatClampNeg)]) hx hb hml hown (dr_words hts d0) hK hP2 hS hA2 hP1 (lw_ap (D := D) (a := a) (fun q h1 h2 => hap q h1 h2)) (ct_X7_take l D a2 cA cT hI2 h (xs (nI i + (1 : Int32)).toNatClampNeg) r h' hcm) tM_0 (C := RX7) (F := TX7) (N := 18) rfl (g_V q826 q827 q828 q77 q829) yd_X7_take ⟨Nat.le_of_ble_eq_true rfl, Nat.le_of_ble_eq_true rfl⟩ [.int r] rfl (Nat.le_of_ble_eq_true rfl) hl.1 ⟨Nat.le_refl _, Nat.le_refl _⟩ dL_law_273 (fun H locs hP2 hP1 hS => ?_)
  refine lv_icmp_eq (tgt := 1142) hx hb dL_law_276 (by decide) (fun _ => ?_) (fun hn => absurd rfl hn)
  exact hk g' h' hR2 H locs ls d0 hd0 hP1 hP2 hS hl
set_option maxHeartbeats 4000000 in
set_option maxRecDepth 100000 in
theorem lc_3 (hC : LW p s m meth c b L xs D a a2 cA cT) (hsim : Sim_rekey Rel) {i : Nat} (hi : i + 3 ≤ L) {g h : MG} (hR : Rel g h) (hk : ∀ (g h : MG), Rel g h → ∀ (H : Heap) (locs : List Loc) (ls : Array Slot) (d0 : Drawn), s.drawn.sameBut d0 lw_cs → WP D a cA cT TC g H → WP D a2 cA cT TM h H → va_S (fun q => s.heap.size ≤ q) s.heap H locs → lv_has ls 8 [(0, .ref b), (1, .ref (a 0)), (2, .ref (a2 0)), (3, .int (nI i))] → W p l e room_1 (s.setDrawn d0) m #[Value.ref b] below meth c H locs 600000 7302250 (lw_Z below #[Value.ref b] s) (F0 m 1142 ls [])) : ∀ (H : Heap) (locs : List Loc) (ls : Array Slot) (d0 : Drawn), s.drawn.sameBut d0 lw_cs → WP D a cA cT TC g H → WP D a2 cA cT TM h H → va_S (fun q => s.heap.size ≤ q) s.heap H locs → lv_has ls 8 [(0, .ref b), (1, .ref (a 0)), (2, .ref (a2 0)), (3, .int (nI i))] → W p l e room_1 (s.setDrawn d0) m #[Value.ref b] below meth c H locs 600000 7302250 (lw_Z below #[Value.ref b] s) (F0 m 281 ls []) := by
  obtain ⟨⟨hx, hb, hr, hml, hown, hts0, hX, hbl, hlocks, hgv⟩, hK, hI, hI2, hap, hA1, hA2, hL⟩ := hC
  have hts : ∀ w ∈ lw_all, w.before #[Value.ref b] s = true := fun w h => hts0 w (lw_all_tbl h)
  have hbA : ¬ (fun q : Nat => s.heap.size ≤ q) b := Nat.not_le.mpr hbl
  have hin1 : vp_in (nI i + (1 : Int32)) L := by rw [nI_1]; exact vp_in_nI (by omega) (by omega)
  have hin2 : vp_in (nI i + (2 : Int32)) L := by rw [show nI i + (2 : Int32) = nI (i + 2) from nI_add i 2]; exact vp_in_nI (by omega) (by omega)
  intro H locs ls d0 hd0 hP1 hP2 hS hl
  obtain ⟨r, g', h', hcc, hcm, hR2⟩ := hsim g h (xs (nI i + (1 : Int32)).toNatClampNeg) (xs (nI i + (2 : Int32)).toNatClampNeg) hR
  refine lv_aload_n hx hb dL_law_281 rfl (lv_at hl 1 rfl) ?_
  refine lv_aload_n hx hb dL_law_282 rfl (lv_at hl 0 rfl) ?_
  refine lv_iload_n hx hb dL_law_283 rfl (lv_at hl 3 rfl) ?_
  refine lv_iconst (v := (1 : Int32)) hx hb dL_law_284 (by decide) ?_
  refine lv_iadd hx hb dL_law_285 ?_
  refine va_sld (s := s.setDrawn d0) hx hb hX hbl hbA hS hin1 dL_law_286 ?_
  refine lv_aload_n hx hb dL_law_287 rfl (lv_at hl 0 rfl) ?_
  refine lv_iload_n hx hb dL_law_288 rfl (lv_at hl 3 rfl) ?_
  refine lv_iconst (v := (2 : Int32)) hx hb dL_law_289 (by decide) ?_
  refine lv_iadd hx hb dL_law_290 ?_
  refine va_sld (s := s.setDrawn d0) hx hb hX hbl hbA hS hin2 dL_law_291 ?_
  refine y_VI (R := room_1) (s := s.setDrawn d0) (As := [.int (xs (nI i + (1 : Int32)).toNatClampNeg), .int (xs (nI i + (2 : Int32)).toNatClampNeg)]) hx hb hml hown (dr_words hts d0) hK hP1 hS hA1 hP2 (lw_ap (D := D) (a := a2) (fun q h1 h2 => hap q h2 h1)) (ct_X6_rekey l D a cA cT hI g (xs (nI i + (1 : Int32)).toNatClampNeg) (xs (nI i + (2 : Int32)).toNatClampNeg) r g' hcc) tF_0 (C := RX6) (F := TX6) (N := 5) rfl (g_V q329 q330 q331 q70 q332) yd_X6_rekey ⟨Nat.le_of_ble_eq_true rfl, Nat.le_of_ble_eq_true rfl⟩ [] rfl (Nat.le_of_ble_eq_true rfl) hl.1 ⟨Nat.le_refl _, Nat.le_refl _⟩ dL_law_292 (fun H locs hP1 hP2 hS => ?_)
  refine lv_aload_n hx hb dL_law_295 rfl (lv_at hl 2 rfl) ?_
  refine lv_aload_n hx hb dL_law_296 rfl (lv_at hl 0 rfl) ?_
  refine lv_iload_n hx hb dL_law_297 rfl (lv_at hl 3 rfl) ?_
  refine lv_iconst (v := (1 : Int32)) hx hb dL_law_298 (by decide) ?_
  refine lv_iadd hx hb dL_law_299 ?_
  refine va_sld (s := s.setDrawn d0) hx hb hX hbl hbA hS hin1 dL_law_300 ?_
  refine lv_aload_n hx hb dL_law_301 rfl (lv_at hl 0 rfl) ?_
  refine lv_iload_n hx hb dL_law_302 rfl (lv_at hl 3 rfl) ?_
  refine lv_iconst (v := (2 : Int32)) hx hb dL_law_303 (by decide) ?_
  refine lv_iadd hx hb dL_law_304 ?_
  refine va_sld (s := s.setDrawn d0) hx hb hX hbl hbA hS hin2 dL_law_305 ?_
  refine y_VI (R := room_1) (s := s.setDrawn d0) (As := [.int (xs (nI i + (1 : Int32)).toNatClampNeg), .int (xs (nI i + (2 : Int32)).toNatClampNeg)]) hx hb hml hown (dr_words hts d0) hK hP2 hS hA2 hP1 (lw_ap (D := D) (a := a) (fun q h1 h2 => hap q h1 h2)) (ct_X7_rekey l D a2 cA cT hI2 h (xs (nI i + (1 : Int32)).toNatClampNeg) (xs (nI i + (2 : Int32)).toNatClampNeg) r h' hcm) tM_0 (C := RX7) (F := TX7) (N := 18) rfl (g_V q833 q834 q835 q77 q836) yd_X7_rekey ⟨Nat.le_of_ble_eq_true rfl, Nat.le_of_ble_eq_true rfl⟩ [.int r] rfl (Nat.le_of_ble_eq_true rfl) hl.1 ⟨Nat.le_refl _, Nat.le_refl _⟩ dL_law_306 (fun H locs hP2 hP1 hS => ?_)
  refine lv_icmp_eq (tgt := 1142) hx hb dL_law_309 (by decide) (fun _ => ?_) (fun hn => absurd rfl hn)
  exact hk g' h' hR2 H locs ls d0 hd0 hP1 hP2 hS hl
set_option maxHeartbeats 4000000 in
set_option maxRecDepth 100000 in
theorem lc_4 (hC : LW p s m meth c b L xs D a a2 cA cT) (hsim : Sim_addSlice Rel) {i : Nat} (hi : i + 3 ≤ L) {g h : MG} (hR : Rel g h) (hk : ∀ (g h : MG), Rel g h → ∀ (H : Heap) (locs : List Loc) (ls : Array Slot) (d0 : Drawn), s.drawn.sameBut d0 lw_cs → WP D a cA cT TC g H → WP D a2 cA cT TM h H → va_S (fun q => s.heap.size ≤ q) s.heap H locs → lv_has ls 8 [(0, .ref b), (1, .ref (a 0)), (2, .ref (a2 0)), (3, .int (nI i))] → W p l e room_1 (s.setDrawn d0) m #[Value.ref b] below meth c H locs 600000 7302250 (lw_Z below #[Value.ref b] s) (F0 m 1142 ls [])) : ∀ (H : Heap) (locs : List Loc) (ls : Array Slot) (d0 : Drawn), s.drawn.sameBut d0 lw_cs → WP D a cA cT TC g H → WP D a2 cA cT TM h H → va_S (fun q => s.heap.size ≤ q) s.heap H locs → lv_has ls 8 [(0, .ref b), (1, .ref (a 0)), (2, .ref (a2 0)), (3, .int (nI i))] → W p l e room_1 (s.setDrawn d0) m #[Value.ref b] below meth c H locs 600000 7302250 (lw_Z below #[Value.ref b] s) (F0 m 314 ls []) := by
  obtain ⟨⟨hx, hb, hr, hml, hown, hts0, hX, hbl, hlocks, hgv⟩, hK, hI, hI2, hap, hA1, hA2, hL⟩ := hC
  have hts : ∀ w ∈ lw_all, w.before #[Value.ref b] s = true := fun w h => hts0 w (lw_all_tbl h)
  have hbA : ¬ (fun q : Nat => s.heap.size ≤ q) b := Nat.not_le.mpr hbl
  have hin1 : vp_in (nI i + (1 : Int32)) L := by rw [nI_1]; exact vp_in_nI (by omega) (by omega)
  have hin2 : vp_in (nI i + (2 : Int32)) L := by rw [show nI i + (2 : Int32) = nI (i + 2) from nI_add i 2]; exact vp_in_nI (by omega) (by omega)
  intro H locs ls d0 hd0 hP1 hP2 hS hl
  obtain ⟨r, g', h', hcc, hcm, hR2⟩ := hsim g h (xs (nI i + (1 : Int32)).toNatClampNeg) (xs (nI i + (2 : Int32)).toNatClampNeg) hR
  refine lv_aload_n hx hb dL_law_314 rfl (lv_at hl 1 rfl) ?_
  refine lv_aload_n hx hb dL_law_315 rfl (lv_at hl 0 rfl) ?_
  refine lv_iload_n hx hb dL_law_316 rfl (lv_at hl 3 rfl) ?_
  refine lv_iconst (v := (1 : Int32)) hx hb dL_law_317 (by decide) ?_
  refine lv_iadd hx hb dL_law_318 ?_
  refine va_sld (s := s.setDrawn d0) hx hb hX hbl hbA hS hin1 dL_law_319 ?_
  refine lv_aload_n hx hb dL_law_320 rfl (lv_at hl 0 rfl) ?_
  refine lv_iload_n hx hb dL_law_321 rfl (lv_at hl 3 rfl) ?_
  refine lv_iconst (v := (2 : Int32)) hx hb dL_law_322 (by decide) ?_
  refine lv_iadd hx hb dL_law_323 ?_
  refine va_sld (s := s.setDrawn d0) hx hb hX hbl hbA hS hin2 dL_law_324 ?_
  refine y_VI (R := room_1) (s := s.setDrawn d0) (As := [.int (xs (nI i + (1 : Int32)).toNatClampNeg), .int (xs (nI i + (2 : Int32)).toNatClampNeg)]) hx hb hml hown (dr_words hts d0) hK hP1 hS hA1 hP2 (lw_ap (D := D) (a := a2) (fun q h1 h2 => hap q h2 h1)) (ct_X6_addSlice l D a cA cT hI g (xs (nI i + (1 : Int32)).toNatClampNeg) (xs (nI i + (2 : Int32)).toNatClampNeg) r g' hcc) tF_0 (C := RX6) (F := TX6) (N := 5) rfl (g_V q338 q339 q340 q70 q341) yd_X6_addSlice ⟨Nat.le_of_ble_eq_true rfl, Nat.le_of_ble_eq_true rfl⟩ [] rfl (Nat.le_of_ble_eq_true rfl) hl.1 ⟨Nat.le_refl _, Nat.le_refl _⟩ dL_law_325 (fun H locs hP1 hP2 hS => ?_)
  refine lv_aload_n hx hb dL_law_328 rfl (lv_at hl 2 rfl) ?_
  refine lv_aload_n hx hb dL_law_329 rfl (lv_at hl 0 rfl) ?_
  refine lv_iload_n hx hb dL_law_330 rfl (lv_at hl 3 rfl) ?_
  refine lv_iconst (v := (1 : Int32)) hx hb dL_law_331 (by decide) ?_
  refine lv_iadd hx hb dL_law_332 ?_
  refine va_sld (s := s.setDrawn d0) hx hb hX hbl hbA hS hin1 dL_law_333 ?_
  refine lv_aload_n hx hb dL_law_334 rfl (lv_at hl 0 rfl) ?_
  refine lv_iload_n hx hb dL_law_335 rfl (lv_at hl 3 rfl) ?_
  refine lv_iconst (v := (2 : Int32)) hx hb dL_law_336 (by decide) ?_
  refine lv_iadd hx hb dL_law_337 ?_
  refine va_sld (s := s.setDrawn d0) hx hb hX hbl hbA hS hin2 dL_law_338 ?_
  refine y_VI (R := room_1) (s := s.setDrawn d0) (As := [.int (xs (nI i + (1 : Int32)).toNatClampNeg), .int (xs (nI i + (2 : Int32)).toNatClampNeg)]) hx hb hml hown (dr_words hts d0) hK hP2 hS hA2 hP1 (lw_ap (D := D) (a := a) (fun q h1 h2 => hap q h1 h2)) (ct_X7_addSlice l D a2 cA cT hI2 h (xs (nI i + (1 : Int32)).toNatClampNeg) (xs (nI i + (2 : Int32)).toNatClampNeg) r h' hcm) tM_0 (C := RX7) (F := TX7) (N := 18) rfl (g_V q837 q838 q839 q77 q840) yd_X7_addSlice ⟨Nat.le_of_ble_eq_true rfl, Nat.le_of_ble_eq_true rfl⟩ [.int r] rfl (Nat.le_of_ble_eq_true rfl) hl.1 ⟨Nat.le_refl _, Nat.le_refl _⟩ dL_law_339 (fun H locs hP2 hP1 hS => ?_)
  refine lv_icmp_eq (tgt := 1142) hx hb dL_law_342 (by decide) (fun _ => ?_) (fun hn => absurd rfl hn)
  exact hk g' h' hR2 H locs ls d0 hd0 hP1 hP2 hS hl
set_option maxHeartbeats 4000000 in
set_option maxRecDepth 100000 in
theorem lc_5 (hC : LW p s m meth c b L xs D a a2 cA cT) (hsim : Sim_dropSlice Rel) {i : Nat} (hi : i + 3 ≤ L) {g h : MG} (hR : Rel g h) (hk : ∀ (g h : MG), Rel g h → ∀ (H : Heap) (locs : List Loc) (ls : Array Slot) (d0 : Drawn), s.drawn.sameBut d0 lw_cs → WP D a cA cT TC g H → WP D a2 cA cT TM h H → va_S (fun q => s.heap.size ≤ q) s.heap H locs → lv_has ls 8 [(0, .ref b), (1, .ref (a 0)), (2, .ref (a2 0)), (3, .int (nI i))] → W p l e room_1 (s.setDrawn d0) m #[Value.ref b] below meth c H locs 600000 7302250 (lw_Z below #[Value.ref b] s) (F0 m 1142 ls [])) : ∀ (H : Heap) (locs : List Loc) (ls : Array Slot) (d0 : Drawn), s.drawn.sameBut d0 lw_cs → WP D a cA cT TC g H → WP D a2 cA cT TM h H → va_S (fun q => s.heap.size ≤ q) s.heap H locs → lv_has ls 8 [(0, .ref b), (1, .ref (a 0)), (2, .ref (a2 0)), (3, .int (nI i))] → W p l e room_1 (s.setDrawn d0) m #[Value.ref b] below meth c H locs 600000 7302250 (lw_Z below #[Value.ref b] s) (F0 m 347 ls []) := by
  obtain ⟨⟨hx, hb, hr, hml, hown, hts0, hX, hbl, hlocks, hgv⟩, hK, hI, hI2, hap, hA1, hA2, hL⟩ := hC
  have hts : ∀ w ∈ lw_all, w.before #[Value.ref b] s = true := fun w h => hts0 w (lw_all_tbl h)
  have hbA : ¬ (fun q : Nat => s.heap.size ≤ q) b := Nat.not_le.mpr hbl
  have hin1 : vp_in (nI i + (1 : Int32)) L := by rw [nI_1]; exact vp_in_nI (by omega) (by omega)
  have hin2 : vp_in (nI i + (2 : Int32)) L := by rw [show nI i + (2 : Int32) = nI (i + 2) from nI_add i 2]; exact vp_in_nI (by omega) (by omega)
  intro H locs ls d0 hd0 hP1 hP2 hS hl
  obtain ⟨r, g', h', hcc, hcm, hR2⟩ := hsim g h (xs (nI i + (1 : Int32)).toNatClampNeg) hR
  refine lv_aload_n hx hb dL_law_347 rfl (lv_at hl 1 rfl) ?_
  refine lv_aload_n hx hb dL_law_348 rfl (lv_at hl 0 rfl) ?_
  refine lv_iload_n hx hb dL_law_349 rfl (lv_at hl 3 rfl) ?_
  refine lv_iconst (v := (1 : Int32)) hx hb dL_law_350 (by decide) ?_
  refine lv_iadd hx hb dL_law_351 ?_
  refine va_sld (s := s.setDrawn d0) hx hb hX hbl hbA hS hin1 dL_law_352 ?_
  refine y_VI (R := room_1) (s := s.setDrawn d0) (As := [.int (xs (nI i + (1 : Int32)).toNatClampNeg)]) hx hb hml hown (dr_words hts d0) hK hP1 hS hA1 hP2 (lw_ap (D := D) (a := a2) (fun q h1 h2 => hap q h2 h1)) (ct_X6_dropSlice l D a cA cT hI g (xs (nI i + (1 : Int32)).toNatClampNeg) r g' hcc) tF_0 (C := RX6) (F := TX6) (N := 5) rfl (g_V q371 q372 q373 q70 q374) yd_X6_dropSlice ⟨Nat.le_of_ble_eq_true rfl, Nat.le_of_ble_eq_true rfl⟩ [] rfl (Nat.le_of_ble_eq_true rfl) hl.1 ⟨Nat.le_refl _, Nat.le_refl _⟩ dL_law_353 (fun H locs hP1 hP2 hS => ?_)
  refine lv_aload_n hx hb dL_law_356 rfl (lv_at hl 2 rfl) ?_
  refine lv_aload_n hx hb dL_law_357 rfl (lv_at hl 0 rfl) ?_
  refine lv_iload_n hx hb dL_law_358 rfl (lv_at hl 3 rfl) ?_
  refine lv_iconst (v := (1 : Int32)) hx hb dL_law_359 (by decide) ?_
  refine lv_iadd hx hb dL_law_360 ?_
  refine va_sld (s := s.setDrawn d0) hx hb hX hbl hbA hS hin1 dL_law_361 ?_
  refine y_VI (R := room_1) (s := s.setDrawn d0) (As := [.int (xs (nI i + (1 : Int32)).toNatClampNeg)]) hx hb hml hown (dr_words hts d0) hK hP2 hS hA2 hP1 (lw_ap (D := D) (a := a) (fun q h1 h2 => hap q h1 h2)) (ct_X7_dropSlice l D a2 cA cT hI2 h (xs (nI i + (1 : Int32)).toNatClampNeg) r h' hcm) tM_0 (C := RX7) (F := TX7) (N := 18) rfl (g_V q862 q863 q864 q77 q865) yd_X7_dropSlice ⟨Nat.le_of_ble_eq_true rfl, Nat.le_of_ble_eq_true rfl⟩ [.int r] rfl (Nat.le_of_ble_eq_true rfl) hl.1 ⟨Nat.le_refl _, Nat.le_refl _⟩ dL_law_362 (fun H locs hP2 hP1 hS => ?_)
  refine lv_icmp_eq (tgt := 1142) hx hb dL_law_365 (by decide) (fun _ => ?_) (fun hn => absurd rfl hn)
  exact hk g' h' hR2 H locs ls d0 hd0 hP1 hP2 hS hl
set_option maxHeartbeats 4000000 in
set_option maxRecDepth 100000 in
theorem lc_6 (hC : LW p s m meth c b L xs D a a2 cA cT) (hsim : Sim_detach Rel) {i : Nat} (hi : i + 3 ≤ L) {g h : MG} (hR : Rel g h) (hk : ∀ (g h : MG), Rel g h → ∀ (H : Heap) (locs : List Loc) (ls : Array Slot) (d0 : Drawn), s.drawn.sameBut d0 lw_cs → WP D a cA cT TC g H → WP D a2 cA cT TM h H → va_S (fun q => s.heap.size ≤ q) s.heap H locs → lv_has ls 8 [(0, .ref b), (1, .ref (a 0)), (2, .ref (a2 0)), (3, .int (nI i))] → W p l e room_1 (s.setDrawn d0) m #[Value.ref b] below meth c H locs 600000 7302250 (lw_Z below #[Value.ref b] s) (F0 m 1142 ls [])) : ∀ (H : Heap) (locs : List Loc) (ls : Array Slot) (d0 : Drawn), s.drawn.sameBut d0 lw_cs → WP D a cA cT TC g H → WP D a2 cA cT TM h H → va_S (fun q => s.heap.size ≤ q) s.heap H locs → lv_has ls 8 [(0, .ref b), (1, .ref (a 0)), (2, .ref (a2 0)), (3, .int (nI i))] → W p l e room_1 (s.setDrawn d0) m #[Value.ref b] below meth c H locs 600000 7302250 (lw_Z below #[Value.ref b] s) (F0 m 370 ls []) := by
  obtain ⟨⟨hx, hb, hr, hml, hown, hts0, hX, hbl, hlocks, hgv⟩, hK, hI, hI2, hap, hA1, hA2, hL⟩ := hC
  have hts : ∀ w ∈ lw_all, w.before #[Value.ref b] s = true := fun w h => hts0 w (lw_all_tbl h)
  have hbA : ¬ (fun q : Nat => s.heap.size ≤ q) b := Nat.not_le.mpr hbl
  have hin1 : vp_in (nI i + (1 : Int32)) L := by rw [nI_1]; exact vp_in_nI (by omega) (by omega)
  have hin2 : vp_in (nI i + (2 : Int32)) L := by rw [show nI i + (2 : Int32) = nI (i + 2) from nI_add i 2]; exact vp_in_nI (by omega) (by omega)
  intro H locs ls d0 hd0 hP1 hP2 hS hl
  obtain ⟨r, g', h', hcc, hcm, hR2⟩ := hsim g h (xs (nI i + (1 : Int32)).toNatClampNeg) hR
  refine lv_aload_n hx hb dL_law_370 rfl (lv_at hl 1 rfl) ?_
  refine lv_aload_n hx hb dL_law_371 rfl (lv_at hl 0 rfl) ?_
  refine lv_iload_n hx hb dL_law_372 rfl (lv_at hl 3 rfl) ?_
  refine lv_iconst (v := (1 : Int32)) hx hb dL_law_373 (by decide) ?_
  refine lv_iadd hx hb dL_law_374 ?_
  refine va_sld (s := s.setDrawn d0) hx hb hX hbl hbA hS hin1 dL_law_375 ?_
  refine y_VI (R := room_1) (s := s.setDrawn d0) (As := [.int (xs (nI i + (1 : Int32)).toNatClampNeg)]) hx hb hml hown (dr_words hts d0) hK hP1 hS hA1 hP2 (lw_ap (D := D) (a := a2) (fun q h1 h2 => hap q h2 h1)) (ct_X6_detach l D a cA cT hI g (xs (nI i + (1 : Int32)).toNatClampNeg) r g' hcc) tF_0 (C := RX6) (F := TX6) (N := 5) rfl (g_V q392 q393 q394 q70 q395) yd_X6_detach ⟨Nat.le_of_ble_eq_true rfl, Nat.le_of_ble_eq_true rfl⟩ [] rfl (Nat.le_of_ble_eq_true rfl) hl.1 ⟨Nat.le_refl _, Nat.le_refl _⟩ dL_law_376 (fun H locs hP1 hP2 hS => ?_)
  refine lv_aload_n hx hb dL_law_379 rfl (lv_at hl 2 rfl) ?_
  refine lv_aload_n hx hb dL_law_380 rfl (lv_at hl 0 rfl) ?_
  refine lv_iload_n hx hb dL_law_381 rfl (lv_at hl 3 rfl) ?_
  refine lv_iconst (v := (1 : Int32)) hx hb dL_law_382 (by decide) ?_
  refine lv_iadd hx hb dL_law_383 ?_
  refine va_sld (s := s.setDrawn d0) hx hb hX hbl hbA hS hin1 dL_law_384 ?_
  refine y_VI (R := room_1) (s := s.setDrawn d0) (As := [.int (xs (nI i + (1 : Int32)).toNatClampNeg)]) hx hb hml hown (dr_words hts d0) hK hP2 hS hA2 hP1 (lw_ap (D := D) (a := a) (fun q h1 h2 => hap q h1 h2)) (ct_X7_detach l D a2 cA cT hI2 h (xs (nI i + (1 : Int32)).toNatClampNeg) r h' hcm) tM_0 (C := RX7) (F := TX7) (N := 18) rfl (g_V q866 q867 q868 q77 q869) yd_X7_detach ⟨Nat.le_of_ble_eq_true rfl, Nat.le_of_ble_eq_true rfl⟩ [.int r] rfl (Nat.le_of_ble_eq_true rfl) hl.1 ⟨Nat.le_refl _, Nat.le_refl _⟩ dL_law_385 (fun H locs hP2 hP1 hS => ?_)
  refine lv_icmp_eq (tgt := 1142) hx hb dL_law_388 (by decide) (fun _ => ?_) (fun hn => absurd rfl hn)
  exact hk g' h' hR2 H locs ls d0 hd0 hP1 hP2 hS hl
set_option maxHeartbeats 4000000 in
set_option maxRecDepth 100000 in
theorem lc_7 (hC : LW p s m meth c b L xs D a a2 cA cT) (hsim : Sim_attach Rel) {i : Nat} (hi : i + 3 ≤ L) {g h : MG} (hR : Rel g h) (hk : ∀ (g h : MG), Rel g h → ∀ (H : Heap) (locs : List Loc) (ls : Array Slot) (d0 : Drawn), s.drawn.sameBut d0 lw_cs → WP D a cA cT TC g H → WP D a2 cA cT TM h H → va_S (fun q => s.heap.size ≤ q) s.heap H locs → lv_has ls 8 [(0, .ref b), (1, .ref (a 0)), (2, .ref (a2 0)), (3, .int (nI i))] → W p l e room_1 (s.setDrawn d0) m #[Value.ref b] below meth c H locs 600000 7302250 (lw_Z below #[Value.ref b] s) (F0 m 1142 ls [])) : ∀ (H : Heap) (locs : List Loc) (ls : Array Slot) (d0 : Drawn), s.drawn.sameBut d0 lw_cs → WP D a cA cT TC g H → WP D a2 cA cT TM h H → va_S (fun q => s.heap.size ≤ q) s.heap H locs → lv_has ls 8 [(0, .ref b), (1, .ref (a 0)), (2, .ref (a2 0)), (3, .int (nI i))] → W p l e room_1 (s.setDrawn d0) m #[Value.ref b] below meth c H locs 600000 7302250 (lw_Z below #[Value.ref b] s) (F0 m 393 ls []) := by
  obtain ⟨⟨hx, hb, hr, hml, hown, hts0, hX, hbl, hlocks, hgv⟩, hK, hI, hI2, hap, hA1, hA2, hL⟩ := hC
  have hts : ∀ w ∈ lw_all, w.before #[Value.ref b] s = true := fun w h => hts0 w (lw_all_tbl h)
  have hbA : ¬ (fun q : Nat => s.heap.size ≤ q) b := Nat.not_le.mpr hbl
  have hin1 : vp_in (nI i + (1 : Int32)) L := by rw [nI_1]; exact vp_in_nI (by omega) (by omega)
  have hin2 : vp_in (nI i + (2 : Int32)) L := by rw [show nI i + (2 : Int32) = nI (i + 2) from nI_add i 2]; exact vp_in_nI (by omega) (by omega)
  intro H locs ls d0 hd0 hP1 hP2 hS hl
  obtain ⟨r, g', h', hcc, hcm, hR2⟩ := hsim g h (xs (nI i + (1 : Int32)).toNatClampNeg) (xs (nI i + (2 : Int32)).toNatClampNeg) hR
  refine lv_aload_n hx hb dL_law_393 rfl (lv_at hl 1 rfl) ?_
  refine lv_aload_n hx hb dL_law_394 rfl (lv_at hl 0 rfl) ?_
  refine lv_iload_n hx hb dL_law_395 rfl (lv_at hl 3 rfl) ?_
  refine lv_iconst (v := (1 : Int32)) hx hb dL_law_396 (by decide) ?_
  refine lv_iadd hx hb dL_law_397 ?_
  refine va_sld (s := s.setDrawn d0) hx hb hX hbl hbA hS hin1 dL_law_398 ?_
  refine lv_aload_n hx hb dL_law_399 rfl (lv_at hl 0 rfl) ?_
  refine lv_iload_n hx hb dL_law_400 rfl (lv_at hl 3 rfl) ?_
  refine lv_iconst (v := (2 : Int32)) hx hb dL_law_401 (by decide) ?_
  refine lv_iadd hx hb dL_law_402 ?_
  refine va_sld (s := s.setDrawn d0) hx hb hX hbl hbA hS hin2 dL_law_403 ?_
  refine y_VI (R := room_1) (s := s.setDrawn d0) (As := [.int (xs (nI i + (1 : Int32)).toNatClampNeg), .int (xs (nI i + (2 : Int32)).toNatClampNeg)]) hx hb hml hown (dr_words hts d0) hK hP1 hS hA1 hP2 (lw_ap (D := D) (a := a2) (fun q h1 h2 => hap q h2 h1)) (ct_X6_attach l D a cA cT hI g (xs (nI i + (1 : Int32)).toNatClampNeg) (xs (nI i + (2 : Int32)).toNatClampNeg) r g' hcc) tF_0 (C := RX6) (F := TX6) (N := 5) rfl (g_V q396 q397 q398 q70 q399) yd_X6_attach ⟨Nat.le_of_ble_eq_true rfl, Nat.le_of_ble_eq_true rfl⟩ [] rfl (Nat.le_of_ble_eq_true rfl) hl.1 ⟨Nat.le_refl _, Nat.le_refl _⟩ dL_law_404 (fun H locs hP1 hP2 hS => ?_)
  refine lv_aload_n hx hb dL_law_407 rfl (lv_at hl 2 rfl) ?_
  refine lv_aload_n hx hb dL_law_408 rfl (lv_at hl 0 rfl) ?_
  refine lv_iload_n hx hb dL_law_409 rfl (lv_at hl 3 rfl) ?_
  refine lv_iconst (v := (1 : Int32)) hx hb dL_law_410 (by decide) ?_
  refine lv_iadd hx hb dL_law_411 ?_
  refine va_sld (s := s.setDrawn d0) hx hb hX hbl hbA hS hin1 dL_law_412 ?_
  refine lv_aload_n hx hb dL_law_413 rfl (lv_at hl 0 rfl) ?_
  refine lv_iload_n hx hb dL_law_414 rfl (lv_at hl 3 rfl) ?_
  refine lv_iconst (v := (2 : Int32)) hx hb dL_law_415 (by decide) ?_
  refine lv_iadd hx hb dL_law_416 ?_
  refine va_sld (s := s.setDrawn d0) hx hb hX hbl hbA hS hin2 dL_law_417 ?_
  refine y_VI (R := room_1) (s := s.setDrawn d0) (As := [.int (xs (nI i + (1 : Int32)).toNatClampNeg), .int (xs (nI i + (2 : Int32)).toNatClampNeg)]) hx hb hml hown (dr_words hts d0) hK hP2 hS hA2 hP1 (lw_ap (D := D) (a := a) (fun q h1 h2 => hap q h1 h2)) (ct_X7_attach l D a2 cA cT hI2 h (xs (nI i + (1 : Int32)).toNatClampNeg) (xs (nI i + (2 : Int32)).toNatClampNeg) r h' hcm) tM_0 (C := RX7) (F := TX7) (N := 18) rfl (g_V q870 q871 q872 q77 q873) yd_X7_attach ⟨Nat.le_of_ble_eq_true rfl, Nat.le_of_ble_eq_true rfl⟩ [.int r] rfl (Nat.le_of_ble_eq_true rfl) hl.1 ⟨Nat.le_refl _, Nat.le_refl _⟩ dL_law_418 (fun H locs hP2 hP1 hS => ?_)
  refine lv_icmp_eq (tgt := 1142) hx hb dL_law_421 (by decide) (fun _ => ?_) (fun hn => absurd rfl hn)
  exact hk g' h' hR2 H locs ls d0 hd0 hP1 hP2 hS hl
set_option maxHeartbeats 4000000 in
set_option maxRecDepth 100000 in
theorem lc_8 (hC : LW p s m meth c b L xs D a a2 cA cT) (hsim : Sim_swap Rel) {i : Nat} (hi : i + 3 ≤ L) {g h : MG} (hR : Rel g h) (hk : ∀ (g h : MG), Rel g h → ∀ (H : Heap) (locs : List Loc) (ls : Array Slot) (d0 : Drawn), s.drawn.sameBut d0 lw_cs → WP D a cA cT TC g H → WP D a2 cA cT TM h H → va_S (fun q => s.heap.size ≤ q) s.heap H locs → lv_has ls 8 [(0, .ref b), (1, .ref (a 0)), (2, .ref (a2 0)), (3, .int (nI i))] → W p l e room_1 (s.setDrawn d0) m #[Value.ref b] below meth c H locs 600000 7302250 (lw_Z below #[Value.ref b] s) (F0 m 1142 ls [])) : ∀ (H : Heap) (locs : List Loc) (ls : Array Slot) (d0 : Drawn), s.drawn.sameBut d0 lw_cs → WP D a cA cT TC g H → WP D a2 cA cT TM h H → va_S (fun q => s.heap.size ≤ q) s.heap H locs → lv_has ls 8 [(0, .ref b), (1, .ref (a 0)), (2, .ref (a2 0)), (3, .int (nI i))] → W p l e room_1 (s.setDrawn d0) m #[Value.ref b] below meth c H locs 600000 7302250 (lw_Z below #[Value.ref b] s) (F0 m 426 ls []) := by
  obtain ⟨⟨hx, hb, hr, hml, hown, hts0, hX, hbl, hlocks, hgv⟩, hK, hI, hI2, hap, hA1, hA2, hL⟩ := hC
  have hts : ∀ w ∈ lw_all, w.before #[Value.ref b] s = true := fun w h => hts0 w (lw_all_tbl h)
  have hbA : ¬ (fun q : Nat => s.heap.size ≤ q) b := Nat.not_le.mpr hbl
  have hin1 : vp_in (nI i + (1 : Int32)) L := by rw [nI_1]; exact vp_in_nI (by omega) (by omega)
  have hin2 : vp_in (nI i + (2 : Int32)) L := by rw [show nI i + (2 : Int32) = nI (i + 2) from nI_add i 2]; exact vp_in_nI (by omega) (by omega)
  intro H locs ls d0 hd0 hP1 hP2 hS hl
  by_cases hz : (xs (nI i + (2 : Int32)).toNatClampNeg) = 0
  · obtain ⟨r, g', h', hcc, hcm, hR2⟩ := hsim g h (xs (nI i + (1 : Int32)).toNatClampNeg) (0 : Int32) (Or.inl rfl) hR
    refine lv_aload_n hx hb dL_law_426 rfl (lv_at hl 1 rfl) ?_
    refine lv_aload_n hx hb dL_law_427 rfl (lv_at hl 0 rfl) ?_
    refine lv_iload_n hx hb dL_law_428 rfl (lv_at hl 3 rfl) ?_
    refine lv_iconst (v := (1 : Int32)) hx hb dL_law_429 (by decide) ?_
    refine lv_iadd hx hb dL_law_430 ?_
    refine va_sld (s := s.setDrawn d0) hx hb hX hbl hbA hS hin1 dL_law_431 ?_
    refine lv_aload_n hx hb dL_law_432 rfl (lv_at hl 0 rfl) ?_
    refine lv_iload_n hx hb dL_law_433 rfl (lv_at hl 3 rfl) ?_
    refine lv_iconst (v := (2 : Int32)) hx hb dL_law_434 (by decide) ?_
    refine lv_iadd hx hb dL_law_435 ?_
    refine va_sld (s := s.setDrawn d0) hx hb hX hbl hbA hS hin2 dL_law_436 ?_
    refine lv_if_eq (tgt := 444) hx hb dL_law_437 (by decide) (fun _ => ?_) (fun hn => absurd hz hn)
    refine lv_iconst (v := (0 : Int32)) hx hb dL_law_444 (by decide) ?_
    refine y_VI (R := room_1) (s := s.setDrawn d0) (As := [.int (xs (nI i + (1 : Int32)).toNatClampNeg), .int (0 : Int32)]) hx hb hml hown (dr_words hts d0) hK hP1 hS hA1 hP2 (lw_ap (D := D) (a := a2) (fun q h1 h2 => hap q h2 h1)) (ct_X6_swap l D a cA cT hI g (xs (nI i + (1 : Int32)).toNatClampNeg) (0 : Int32) r g' hcc) tF_0 (C := RX6) (F := TX6) (N := 5) rfl (g_V q406 q407 q408 q70 q409) yd_X6_swap ⟨Nat.le_of_ble_eq_true rfl, Nat.le_of_ble_eq_true rfl⟩ [] rfl (Nat.le_of_ble_eq_true rfl) hl.1 ⟨Nat.le_refl _, Nat.le_refl _⟩ dL_law_445 (fun H locs hP1 hP2 hS => ?_)
    refine lv_aload_n hx hb dL_law_448 rfl (lv_at hl 2 rfl) ?_
    refine lv_aload_n hx hb dL_law_449 rfl (lv_at hl 0 rfl) ?_
    refine lv_iload_n hx hb dL_law_450 rfl (lv_at hl 3 rfl) ?_
    refine lv_iconst (v := (1 : Int32)) hx hb dL_law_451 (by decide) ?_
    refine lv_iadd hx hb dL_law_452 ?_
    refine va_sld (s := s.setDrawn d0) hx hb hX hbl hbA hS hin1 dL_law_453 ?_
    refine lv_aload_n hx hb dL_law_454 rfl (lv_at hl 0 rfl) ?_
    refine lv_iload_n hx hb dL_law_455 rfl (lv_at hl 3 rfl) ?_
    refine lv_iconst (v := (2 : Int32)) hx hb dL_law_456 (by decide) ?_
    refine lv_iadd hx hb dL_law_457 ?_
    refine va_sld (s := s.setDrawn d0) hx hb hX hbl hbA hS hin2 dL_law_458 ?_
    refine lv_if_eq (tgt := 466) hx hb dL_law_459 (by decide) (fun _ => ?_) (fun hn => absurd hz hn)
    refine lv_iconst (v := (0 : Int32)) hx hb dL_law_466 (by decide) ?_
    refine y_VI (R := room_1) (s := s.setDrawn d0) (As := [.int (xs (nI i + (1 : Int32)).toNatClampNeg), .int (0 : Int32)]) hx hb hml hown (dr_words hts d0) hK hP2 hS hA2 hP1 (lw_ap (D := D) (a := a) (fun q h1 h2 => hap q h1 h2)) (ct_X7_swap l D a2 cA cT hI2 h (xs (nI i + (1 : Int32)).toNatClampNeg) (0 : Int32) r h' hcm) tM_0 (C := RX7) (F := TX7) (N := 18) rfl (g_V q874 q875 q876 q77 q877) yd_X7_swap ⟨Nat.le_of_ble_eq_true rfl, Nat.le_of_ble_eq_true rfl⟩ [.int r] rfl (Nat.le_of_ble_eq_true rfl) hl.1 ⟨Nat.le_refl _, Nat.le_refl _⟩ dL_law_467 (fun H locs hP2 hP1 hS => ?_)
    refine lv_icmp_eq (tgt := 1142) hx hb dL_law_470 (by decide) (fun _ => ?_) (fun hn => absurd rfl hn)
    exact hk g' h' hR2 H locs ls d0 hd0 hP1 hP2 hS hl
  · obtain ⟨r, g', h', hcc, hcm, hR2⟩ := hsim g h (xs (nI i + (1 : Int32)).toNatClampNeg) (1 : Int32) (Or.inr rfl) hR
    refine lv_aload_n hx hb dL_law_426 rfl (lv_at hl 1 rfl) ?_
    refine lv_aload_n hx hb dL_law_427 rfl (lv_at hl 0 rfl) ?_
    refine lv_iload_n hx hb dL_law_428 rfl (lv_at hl 3 rfl) ?_
    refine lv_iconst (v := (1 : Int32)) hx hb dL_law_429 (by decide) ?_
    refine lv_iadd hx hb dL_law_430 ?_
    refine va_sld (s := s.setDrawn d0) hx hb hX hbl hbA hS hin1 dL_law_431 ?_
    refine lv_aload_n hx hb dL_law_432 rfl (lv_at hl 0 rfl) ?_
    refine lv_iload_n hx hb dL_law_433 rfl (lv_at hl 3 rfl) ?_
    refine lv_iconst (v := (2 : Int32)) hx hb dL_law_434 (by decide) ?_
    refine lv_iadd hx hb dL_law_435 ?_
    refine va_sld (s := s.setDrawn d0) hx hb hX hbl hbA hS hin2 dL_law_436 ?_
    refine lv_if_eq (tgt := 444) hx hb dL_law_437 (by decide) (fun hn => absurd hn hz) (fun _ => ?_)
    refine lv_iconst (v := (1 : Int32)) hx hb dL_law_440 (by decide) ?_
    refine lv_goto (tgt := 445) hx hb dL_law_441 (by decide) ?_
    refine y_VI (R := room_1) (s := s.setDrawn d0) (As := [.int (xs (nI i + (1 : Int32)).toNatClampNeg), .int (1 : Int32)]) hx hb hml hown (dr_words hts d0) hK hP1 hS hA1 hP2 (lw_ap (D := D) (a := a2) (fun q h1 h2 => hap q h2 h1)) (ct_X6_swap l D a cA cT hI g (xs (nI i + (1 : Int32)).toNatClampNeg) (1 : Int32) r g' hcc) tF_0 (C := RX6) (F := TX6) (N := 5) rfl (g_V q406 q407 q408 q70 q409) yd_X6_swap ⟨Nat.le_of_ble_eq_true rfl, Nat.le_of_ble_eq_true rfl⟩ [] rfl (Nat.le_of_ble_eq_true rfl) hl.1 ⟨Nat.le_refl _, Nat.le_refl _⟩ dL_law_445 (fun H locs hP1 hP2 hS => ?_)
    refine lv_aload_n hx hb dL_law_448 rfl (lv_at hl 2 rfl) ?_
    refine lv_aload_n hx hb dL_law_449 rfl (lv_at hl 0 rfl) ?_
    refine lv_iload_n hx hb dL_law_450 rfl (lv_at hl 3 rfl) ?_
    refine lv_iconst (v := (1 : Int32)) hx hb dL_law_451 (by decide) ?_
    refine lv_iadd hx hb dL_law_452 ?_
    refine va_sld (s := s.setDrawn d0) hx hb hX hbl hbA hS hin1 dL_law_453 ?_
    refine lv_aload_n hx hb dL_law_454 rfl (lv_at hl 0 rfl) ?_
    refine lv_iload_n hx hb dL_law_455 rfl (lv_at hl 3 rfl) ?_
    refine lv_iconst (v := (2 : Int32)) hx hb dL_law_456 (by decide) ?_
    refine lv_iadd hx hb dL_law_457 ?_
    refine va_sld (s := s.setDrawn d0) hx hb hX hbl hbA hS hin2 dL_law_458 ?_
    refine lv_if_eq (tgt := 466) hx hb dL_law_459 (by decide) (fun hn => absurd hn hz) (fun _ => ?_)
    refine lv_iconst (v := (1 : Int32)) hx hb dL_law_462 (by decide) ?_
    refine lv_goto (tgt := 467) hx hb dL_law_463 (by decide) ?_
    refine y_VI (R := room_1) (s := s.setDrawn d0) (As := [.int (xs (nI i + (1 : Int32)).toNatClampNeg), .int (1 : Int32)]) hx hb hml hown (dr_words hts d0) hK hP2 hS hA2 hP1 (lw_ap (D := D) (a := a) (fun q h1 h2 => hap q h1 h2)) (ct_X7_swap l D a2 cA cT hI2 h (xs (nI i + (1 : Int32)).toNatClampNeg) (1 : Int32) r h' hcm) tM_0 (C := RX7) (F := TX7) (N := 18) rfl (g_V q874 q875 q876 q77 q877) yd_X7_swap ⟨Nat.le_of_ble_eq_true rfl, Nat.le_of_ble_eq_true rfl⟩ [.int r] rfl (Nat.le_of_ble_eq_true rfl) hl.1 ⟨Nat.le_refl _, Nat.le_refl _⟩ dL_law_467 (fun H locs hP2 hP1 hS => ?_)
    refine lv_icmp_eq (tgt := 1142) hx hb dL_law_470 (by decide) (fun _ => ?_) (fun hn => absurd rfl hn)
    exact hk g' h' hR2 H locs ls d0 hd0 hP1 hP2 hS hl
set_option maxHeartbeats 4000000 in
set_option maxRecDepth 100000 in
theorem lc_9 (hC : LW p s m meth c b L xs D a a2 cA cT) (hsim : Sim_split Rel) {i : Nat} (hi : i + 3 ≤ L) {g h : MG} (hR : Rel g h) (hk : ∀ (g h : MG), Rel g h → ∀ (H : Heap) (locs : List Loc) (ls : Array Slot) (d0 : Drawn), s.drawn.sameBut d0 lw_cs → WP D a cA cT TC g H → WP D a2 cA cT TM h H → va_S (fun q => s.heap.size ≤ q) s.heap H locs → lv_has ls 8 [(0, .ref b), (1, .ref (a 0)), (2, .ref (a2 0)), (3, .int (nI i))] → W p l e room_1 (s.setDrawn d0) m #[Value.ref b] below meth c H locs 600000 7302250 (lw_Z below #[Value.ref b] s) (F0 m 1142 ls [])) : ∀ (H : Heap) (locs : List Loc) (ls : Array Slot) (d0 : Drawn), s.drawn.sameBut d0 lw_cs → WP D a cA cT TC g H → WP D a2 cA cT TM h H → va_S (fun q => s.heap.size ≤ q) s.heap H locs → lv_has ls 8 [(0, .ref b), (1, .ref (a 0)), (2, .ref (a2 0)), (3, .int (nI i))] → W p l e room_1 (s.setDrawn d0) m #[Value.ref b] below meth c H locs 600000 7302250 (lw_Z below #[Value.ref b] s) (F0 m 475 ls []) := by
  obtain ⟨⟨hx, hb, hr, hml, hown, hts0, hX, hbl, hlocks, hgv⟩, hK, hI, hI2, hap, hA1, hA2, hL⟩ := hC
  have hts : ∀ w ∈ lw_all, w.before #[Value.ref b] s = true := fun w h => hts0 w (lw_all_tbl h)
  have hbA : ¬ (fun q : Nat => s.heap.size ≤ q) b := Nat.not_le.mpr hbl
  have hin1 : vp_in (nI i + (1 : Int32)) L := by rw [nI_1]; exact vp_in_nI (by omega) (by omega)
  have hin2 : vp_in (nI i + (2 : Int32)) L := by rw [show nI i + (2 : Int32) = nI (i + 2) from nI_add i 2]; exact vp_in_nI (by omega) (by omega)
  intro H locs ls d0 hd0 hP1 hP2 hS hl
  obtain ⟨r, g', h', hcc, hcm, hR2⟩ := hsim g h (xs (nI i + (1 : Int32)).toNatClampNeg) (xs (nI i + (2 : Int32)).toNatClampNeg) hR
  refine lv_aload_n hx hb dL_law_475 rfl (lv_at hl 1 rfl) ?_
  refine lv_aload_n hx hb dL_law_476 rfl (lv_at hl 0 rfl) ?_
  refine lv_iload_n hx hb dL_law_477 rfl (lv_at hl 3 rfl) ?_
  refine lv_iconst (v := (1 : Int32)) hx hb dL_law_478 (by decide) ?_
  refine lv_iadd hx hb dL_law_479 ?_
  refine va_sld (s := s.setDrawn d0) hx hb hX hbl hbA hS hin1 dL_law_480 ?_
  refine lv_aload_n hx hb dL_law_481 rfl (lv_at hl 0 rfl) ?_
  refine lv_iload_n hx hb dL_law_482 rfl (lv_at hl 3 rfl) ?_
  refine lv_iconst (v := (2 : Int32)) hx hb dL_law_483 (by decide) ?_
  refine lv_iadd hx hb dL_law_484 ?_
  refine va_sld (s := s.setDrawn d0) hx hb hX hbl hbA hS hin2 dL_law_485 ?_
  refine y_VI (R := room_1) (s := s.setDrawn d0) (As := [.int (xs (nI i + (1 : Int32)).toNatClampNeg), .int (xs (nI i + (2 : Int32)).toNatClampNeg)]) hx hb hml hown (dr_words hts d0) hK hP1 hS hA1 hP2 (lw_ap (D := D) (a := a2) (fun q h1 h2 => hap q h2 h1)) (ct_X6_split l D a cA cT hI g (xs (nI i + (1 : Int32)).toNatClampNeg) (xs (nI i + (2 : Int32)).toNatClampNeg) r g' hcc) tF_0 (C := RX6) (F := TX6) (N := 5) rfl (g_V q417 q418 q419 q70 q420) yd_X6_split ⟨Nat.le_of_ble_eq_true rfl, Nat.le_of_ble_eq_true rfl⟩ [] rfl (Nat.le_of_ble_eq_true rfl) hl.1 ⟨Nat.le_refl _, Nat.le_refl _⟩ dL_law_486 (fun H locs hP1 hP2 hS => ?_)
  refine lv_aload_n hx hb dL_law_489 rfl (lv_at hl 2 rfl) ?_
  refine lv_aload_n hx hb dL_law_490 rfl (lv_at hl 0 rfl) ?_
  refine lv_iload_n hx hb dL_law_491 rfl (lv_at hl 3 rfl) ?_
  refine lv_iconst (v := (1 : Int32)) hx hb dL_law_492 (by decide) ?_
  refine lv_iadd hx hb dL_law_493 ?_
  refine va_sld (s := s.setDrawn d0) hx hb hX hbl hbA hS hin1 dL_law_494 ?_
  refine lv_aload_n hx hb dL_law_495 rfl (lv_at hl 0 rfl) ?_
  refine lv_iload_n hx hb dL_law_496 rfl (lv_at hl 3 rfl) ?_
  refine lv_iconst (v := (2 : Int32)) hx hb dL_law_497 (by decide) ?_
  refine lv_iadd hx hb dL_law_498 ?_
  refine va_sld (s := s.setDrawn d0) hx hb hX hbl hbA hS hin2 dL_law_499 ?_
  refine y_VI (R := room_1) (s := s.setDrawn d0) (As := [.int (xs (nI i + (1 : Int32)).toNatClampNeg), .int (xs (nI i + (2 : Int32)).toNatClampNeg)]) hx hb hml hown (dr_words hts d0) hK hP2 hS hA2 hP1 (lw_ap (D := D) (a := a) (fun q h1 h2 => hap q h1 h2)) (ct_X7_split l D a2 cA cT hI2 h (xs (nI i + (1 : Int32)).toNatClampNeg) (xs (nI i + (2 : Int32)).toNatClampNeg) r h' hcm) tM_0 (C := RX7) (F := TX7) (N := 18) rfl (g_V q878 q879 q880 q77 q881) yd_X7_split ⟨Nat.le_of_ble_eq_true rfl, Nat.le_of_ble_eq_true rfl⟩ [.int r] rfl (Nat.le_of_ble_eq_true rfl) hl.1 ⟨Nat.le_refl _, Nat.le_refl _⟩ dL_law_500 (fun H locs hP2 hP1 hS => ?_)
  refine lv_icmp_eq (tgt := 1142) hx hb dL_law_503 (by decide) (fun _ => ?_) (fun hn => absurd rfl hn)
  exact hk g' h' hR2 H locs ls d0 hd0 hP1 hP2 hS hl
set_option maxHeartbeats 4000000 in
set_option maxRecDepth 100000 in
theorem lc_10 (hC : LW p s m meth c b L xs D a a2 cA cT) (hsim : Sim_merge Rel) {i : Nat} (hi : i + 3 ≤ L) {g h : MG} (hR : Rel g h) (hk : ∀ (g h : MG), Rel g h → ∀ (H : Heap) (locs : List Loc) (ls : Array Slot) (d0 : Drawn), s.drawn.sameBut d0 lw_cs → WP D a cA cT TC g H → WP D a2 cA cT TM h H → va_S (fun q => s.heap.size ≤ q) s.heap H locs → lv_has ls 8 [(0, .ref b), (1, .ref (a 0)), (2, .ref (a2 0)), (3, .int (nI i))] → W p l e room_1 (s.setDrawn d0) m #[Value.ref b] below meth c H locs 600000 7302250 (lw_Z below #[Value.ref b] s) (F0 m 1142 ls [])) : ∀ (H : Heap) (locs : List Loc) (ls : Array Slot) (d0 : Drawn), s.drawn.sameBut d0 lw_cs → WP D a cA cT TC g H → WP D a2 cA cT TM h H → va_S (fun q => s.heap.size ≤ q) s.heap H locs → lv_has ls 8 [(0, .ref b), (1, .ref (a 0)), (2, .ref (a2 0)), (3, .int (nI i))] → W p l e room_1 (s.setDrawn d0) m #[Value.ref b] below meth c H locs 600000 7302250 (lw_Z below #[Value.ref b] s) (F0 m 508 ls []) := by
  obtain ⟨⟨hx, hb, hr, hml, hown, hts0, hX, hbl, hlocks, hgv⟩, hK, hI, hI2, hap, hA1, hA2, hL⟩ := hC
  have hts : ∀ w ∈ lw_all, w.before #[Value.ref b] s = true := fun w h => hts0 w (lw_all_tbl h)
  have hbA : ¬ (fun q : Nat => s.heap.size ≤ q) b := Nat.not_le.mpr hbl
  have hin1 : vp_in (nI i + (1 : Int32)) L := by rw [nI_1]; exact vp_in_nI (by omega) (by omega)
  have hin2 : vp_in (nI i + (2 : Int32)) L := by rw [show nI i + (2 : Int32) = nI (i + 2) from nI_add i 2]; exact vp_in_nI (by omega) (by omega)
  intro H locs ls d0 hd0 hP1 hP2 hS hl
  obtain ⟨r, g', h', hcc, hcm, hR2⟩ := hsim g h (xs (nI i + (1 : Int32)).toNatClampNeg) (xs (nI i + (2 : Int32)).toNatClampNeg) hR
  refine lv_aload_n hx hb dL_law_508 rfl (lv_at hl 1 rfl) ?_
  refine lv_aload_n hx hb dL_law_509 rfl (lv_at hl 0 rfl) ?_
  refine lv_iload_n hx hb dL_law_510 rfl (lv_at hl 3 rfl) ?_
  refine lv_iconst (v := (1 : Int32)) hx hb dL_law_511 (by decide) ?_
  refine lv_iadd hx hb dL_law_512 ?_
  refine va_sld (s := s.setDrawn d0) hx hb hX hbl hbA hS hin1 dL_law_513 ?_
  refine lv_aload_n hx hb dL_law_514 rfl (lv_at hl 0 rfl) ?_
  refine lv_iload_n hx hb dL_law_515 rfl (lv_at hl 3 rfl) ?_
  refine lv_iconst (v := (2 : Int32)) hx hb dL_law_516 (by decide) ?_
  refine lv_iadd hx hb dL_law_517 ?_
  refine va_sld (s := s.setDrawn d0) hx hb hX hbl hbA hS hin2 dL_law_518 ?_
  refine y_VI (R := room_1) (s := s.setDrawn d0) (As := [.int (xs (nI i + (1 : Int32)).toNatClampNeg), .int (xs (nI i + (2 : Int32)).toNatClampNeg)]) hx hb hml hown (dr_words hts d0) hK hP1 hS hA1 hP2 (lw_ap (D := D) (a := a2) (fun q h1 h2 => hap q h2 h1)) (ct_X6_merge l D a cA cT hI g (xs (nI i + (1 : Int32)).toNatClampNeg) (xs (nI i + (2 : Int32)).toNatClampNeg) r g' hcc) tF_0 (C := RX6) (F := TX6) (N := 5) rfl (g_V q422 q423 q424 q70 q425) yd_X6_merge ⟨Nat.le_of_ble_eq_true rfl, Nat.le_of_ble_eq_true rfl⟩ [] rfl (Nat.le_of_ble_eq_true rfl) hl.1 ⟨Nat.le_refl _, Nat.le_refl _⟩ dL_law_519 (fun H locs hP1 hP2 hS => ?_)
  refine lv_aload_n hx hb dL_law_522 rfl (lv_at hl 2 rfl) ?_
  refine lv_aload_n hx hb dL_law_523 rfl (lv_at hl 0 rfl) ?_
  refine lv_iload_n hx hb dL_law_524 rfl (lv_at hl 3 rfl) ?_
  refine lv_iconst (v := (1 : Int32)) hx hb dL_law_525 (by decide) ?_
  refine lv_iadd hx hb dL_law_526 ?_
  refine va_sld (s := s.setDrawn d0) hx hb hX hbl hbA hS hin1 dL_law_527 ?_
  refine lv_aload_n hx hb dL_law_528 rfl (lv_at hl 0 rfl) ?_
  refine lv_iload_n hx hb dL_law_529 rfl (lv_at hl 3 rfl) ?_
  refine lv_iconst (v := (2 : Int32)) hx hb dL_law_530 (by decide) ?_
  refine lv_iadd hx hb dL_law_531 ?_
  refine va_sld (s := s.setDrawn d0) hx hb hX hbl hbA hS hin2 dL_law_532 ?_
  refine y_VI (R := room_1) (s := s.setDrawn d0) (As := [.int (xs (nI i + (1 : Int32)).toNatClampNeg), .int (xs (nI i + (2 : Int32)).toNatClampNeg)]) hx hb hml hown (dr_words hts d0) hK hP2 hS hA2 hP1 (lw_ap (D := D) (a := a) (fun q h1 h2 => hap q h1 h2)) (ct_X7_merge l D a2 cA cT hI2 h (xs (nI i + (1 : Int32)).toNatClampNeg) (xs (nI i + (2 : Int32)).toNatClampNeg) r h' hcm) tM_0 (C := RX7) (F := TX7) (N := 18) rfl (g_V q882 q883 q884 q77 q885) yd_X7_merge ⟨Nat.le_of_ble_eq_true rfl, Nat.le_of_ble_eq_true rfl⟩ [.int r] rfl (Nat.le_of_ble_eq_true rfl) hl.1 ⟨Nat.le_refl _, Nat.le_refl _⟩ dL_law_533 (fun H locs hP2 hP1 hS => ?_)
  refine lv_icmp_eq (tgt := 1142) hx hb dL_law_536 (by decide) (fun _ => ?_) (fun hn => absurd rfl hn)
  exact hk g' h' hR2 H locs ls d0 hd0 hP1 hP2 hS hl
set_option maxHeartbeats 4000000 in
set_option maxRecDepth 100000 in
theorem lc_11 (hC : LW p s m meth c b L xs D a a2 cA cT) (hsim : Sim_useDefault Rel) {i : Nat} (hi : i + 3 ≤ L) {g h : MG} (hR : Rel g h) (hk : ∀ (g h : MG), Rel g h → ∀ (H : Heap) (locs : List Loc) (ls : Array Slot) (d0 : Drawn), s.drawn.sameBut d0 lw_cs → WP D a cA cT TC g H → WP D a2 cA cT TM h H → va_S (fun q => s.heap.size ≤ q) s.heap H locs → lv_has ls 8 [(0, .ref b), (1, .ref (a 0)), (2, .ref (a2 0)), (3, .int (nI i))] → W p l e room_1 (s.setDrawn d0) m #[Value.ref b] below meth c H locs 600000 7302250 (lw_Z below #[Value.ref b] s) (F0 m 1142 ls [])) : ∀ (H : Heap) (locs : List Loc) (ls : Array Slot) (d0 : Drawn), s.drawn.sameBut d0 lw_cs → WP D a cA cT TC g H → WP D a2 cA cT TM h H → va_S (fun q => s.heap.size ≤ q) s.heap H locs → lv_has ls 8 [(0, .ref b), (1, .ref (a 0)), (2, .ref (a2 0)), (3, .int (nI i))] → W p l e room_1 (s.setDrawn d0) m #[Value.ref b] below meth c H locs 600000 7302250 (lw_Z below #[Value.ref b] s) (F0 m 541 ls []) := by
  obtain ⟨⟨hx, hb, hr, hml, hown, hts0, hX, hbl, hlocks, hgv⟩, hK, hI, hI2, hap, hA1, hA2, hL⟩ := hC
  have hts : ∀ w ∈ lw_all, w.before #[Value.ref b] s = true := fun w h => hts0 w (lw_all_tbl h)
  have hbA : ¬ (fun q : Nat => s.heap.size ≤ q) b := Nat.not_le.mpr hbl
  have hin1 : vp_in (nI i + (1 : Int32)) L := by rw [nI_1]; exact vp_in_nI (by omega) (by omega)
  have hin2 : vp_in (nI i + (2 : Int32)) L := by rw [show nI i + (2 : Int32) = nI (i + 2) from nI_add i 2]; exact vp_in_nI (by omega) (by omega)
  intro H locs ls d0 hd0 hP1 hP2 hS hl
  by_cases hz : (xs (nI i + (1 : Int32)).toNatClampNeg) = 0
  · obtain ⟨r, g', h', hcc, hcm, hR2⟩ := hsim g h (0 : Int32) (Or.inl rfl) hR
    refine lv_aload_n hx hb dL_law_541 rfl (lv_at hl 1 rfl) ?_
    refine lv_aload_n hx hb dL_law_542 rfl (lv_at hl 0 rfl) ?_
    refine lv_iload_n hx hb dL_law_543 rfl (lv_at hl 3 rfl) ?_
    refine lv_iconst (v := (1 : Int32)) hx hb dL_law_544 (by decide) ?_
    refine lv_iadd hx hb dL_law_545 ?_
    refine va_sld (s := s.setDrawn d0) hx hb hX hbl hbA hS hin1 dL_law_546 ?_
    refine lv_if_eq (tgt := 554) hx hb dL_law_547 (by decide) (fun _ => ?_) (fun hn => absurd hz hn)
    refine lv_iconst (v := (0 : Int32)) hx hb dL_law_554 (by decide) ?_
    refine y_VI (R := room_1) (s := s.setDrawn d0) (As := [.int (0 : Int32)]) hx hb hml hown (dr_words hts d0) hK hP1 hS hA1 hP2 (lw_ap (D := D) (a := a2) (fun q h1 h2 => hap q h2 h1)) (ct_X6_useDefault l D a cA cT hI g (0 : Int32) r g' hcc) tF_0 (C := RX6) (F := TX6) (N := 5) rfl (g_V q439 q440 q441 q70 q442) yd_X6_useDefault ⟨Nat.le_of_ble_eq_true rfl, Nat.le_of_ble_eq_true rfl⟩ [] rfl (Nat.le_of_ble_eq_true rfl) hl.1 ⟨Nat.le_refl _, Nat.le_refl _⟩ dL_law_555 (fun H locs hP1 hP2 hS => ?_)
    refine lv_aload_n hx hb dL_law_558 rfl (lv_at hl 2 rfl) ?_
    refine lv_aload_n hx hb dL_law_559 rfl (lv_at hl 0 rfl) ?_
    refine lv_iload_n hx hb dL_law_560 rfl (lv_at hl 3 rfl) ?_
    refine lv_iconst (v := (1 : Int32)) hx hb dL_law_561 (by decide) ?_
    refine lv_iadd hx hb dL_law_562 ?_
    refine va_sld (s := s.setDrawn d0) hx hb hX hbl hbA hS hin1 dL_law_563 ?_
    refine lv_if_eq (tgt := 571) hx hb dL_law_564 (by decide) (fun _ => ?_) (fun hn => absurd hz hn)
    refine lv_iconst (v := (0 : Int32)) hx hb dL_law_571 (by decide) ?_
    refine y_VI (R := room_1) (s := s.setDrawn d0) (As := [.int (0 : Int32)]) hx hb hml hown (dr_words hts d0) hK hP2 hS hA2 hP1 (lw_ap (D := D) (a := a) (fun q h1 h2 => hap q h1 h2)) (ct_X7_useDefault l D a2 cA cT hI2 h (0 : Int32) r h' hcm) tM_0 (C := RX7) (F := TX7) (N := 18) rfl (g_V q886 q887 q888 q77 q889) yd_X7_useDefault ⟨Nat.le_of_ble_eq_true rfl, Nat.le_of_ble_eq_true rfl⟩ [.int r] rfl (Nat.le_of_ble_eq_true rfl) hl.1 ⟨Nat.le_refl _, Nat.le_refl _⟩ dL_law_572 (fun H locs hP2 hP1 hS => ?_)
    refine lv_icmp_eq (tgt := 1142) hx hb dL_law_575 (by decide) (fun _ => ?_) (fun hn => absurd rfl hn)
    exact hk g' h' hR2 H locs ls d0 hd0 hP1 hP2 hS hl
  · obtain ⟨r, g', h', hcc, hcm, hR2⟩ := hsim g h (1 : Int32) (Or.inr rfl) hR
    refine lv_aload_n hx hb dL_law_541 rfl (lv_at hl 1 rfl) ?_
    refine lv_aload_n hx hb dL_law_542 rfl (lv_at hl 0 rfl) ?_
    refine lv_iload_n hx hb dL_law_543 rfl (lv_at hl 3 rfl) ?_
    refine lv_iconst (v := (1 : Int32)) hx hb dL_law_544 (by decide) ?_
    refine lv_iadd hx hb dL_law_545 ?_
    refine va_sld (s := s.setDrawn d0) hx hb hX hbl hbA hS hin1 dL_law_546 ?_
    refine lv_if_eq (tgt := 554) hx hb dL_law_547 (by decide) (fun hn => absurd hn hz) (fun _ => ?_)
    refine lv_iconst (v := (1 : Int32)) hx hb dL_law_550 (by decide) ?_
    refine lv_goto (tgt := 555) hx hb dL_law_551 (by decide) ?_
    refine y_VI (R := room_1) (s := s.setDrawn d0) (As := [.int (1 : Int32)]) hx hb hml hown (dr_words hts d0) hK hP1 hS hA1 hP2 (lw_ap (D := D) (a := a2) (fun q h1 h2 => hap q h2 h1)) (ct_X6_useDefault l D a cA cT hI g (1 : Int32) r g' hcc) tF_0 (C := RX6) (F := TX6) (N := 5) rfl (g_V q439 q440 q441 q70 q442) yd_X6_useDefault ⟨Nat.le_of_ble_eq_true rfl, Nat.le_of_ble_eq_true rfl⟩ [] rfl (Nat.le_of_ble_eq_true rfl) hl.1 ⟨Nat.le_refl _, Nat.le_refl _⟩ dL_law_555 (fun H locs hP1 hP2 hS => ?_)
    refine lv_aload_n hx hb dL_law_558 rfl (lv_at hl 2 rfl) ?_
    refine lv_aload_n hx hb dL_law_559 rfl (lv_at hl 0 rfl) ?_
    refine lv_iload_n hx hb dL_law_560 rfl (lv_at hl 3 rfl) ?_
    refine lv_iconst (v := (1 : Int32)) hx hb dL_law_561 (by decide) ?_
    refine lv_iadd hx hb dL_law_562 ?_
    refine va_sld (s := s.setDrawn d0) hx hb hX hbl hbA hS hin1 dL_law_563 ?_
    refine lv_if_eq (tgt := 571) hx hb dL_law_564 (by decide) (fun hn => absurd hn hz) (fun _ => ?_)
    refine lv_iconst (v := (1 : Int32)) hx hb dL_law_567 (by decide) ?_
    refine lv_goto (tgt := 572) hx hb dL_law_568 (by decide) ?_
    refine y_VI (R := room_1) (s := s.setDrawn d0) (As := [.int (1 : Int32)]) hx hb hml hown (dr_words hts d0) hK hP2 hS hA2 hP1 (lw_ap (D := D) (a := a) (fun q h1 h2 => hap q h1 h2)) (ct_X7_useDefault l D a2 cA cT hI2 h (1 : Int32) r h' hcm) tM_0 (C := RX7) (F := TX7) (N := 18) rfl (g_V q886 q887 q888 q77 q889) yd_X7_useDefault ⟨Nat.le_of_ble_eq_true rfl, Nat.le_of_ble_eq_true rfl⟩ [.int r] rfl (Nat.le_of_ble_eq_true rfl) hl.1 ⟨Nat.le_refl _, Nat.le_refl _⟩ dL_law_572 (fun H locs hP2 hP1 hS => ?_)
    refine lv_icmp_eq (tgt := 1142) hx hb dL_law_575 (by decide) (fun _ => ?_) (fun hn => absurd rfl hn)
    exact hk g' h' hR2 H locs ls d0 hd0 hP1 hP2 hS hl
set_option maxHeartbeats 4000000 in
set_option maxRecDepth 100000 in
theorem lc_12 (hC : LW p s m meth c b L xs D a a2 cA cT) (hsim : Sim_mend Rel) {i : Nat} (hi : i + 3 ≤ L) {g h : MG} (hR : Rel g h) (hk : ∀ (g h : MG), Rel g h → ∀ (H : Heap) (locs : List Loc) (ls : Array Slot) (d0 : Drawn), s.drawn.sameBut d0 lw_cs → WP D a cA cT TC g H → WP D a2 cA cT TM h H → va_S (fun q => s.heap.size ≤ q) s.heap H locs → lv_has ls 8 [(0, .ref b), (1, .ref (a 0)), (2, .ref (a2 0)), (3, .int (nI i))] → W p l e room_1 (s.setDrawn d0) m #[Value.ref b] below meth c H locs 600000 7302250 (lw_Z below #[Value.ref b] s) (F0 m 1142 ls [])) : ∀ (H : Heap) (locs : List Loc) (ls : Array Slot) (d0 : Drawn), s.drawn.sameBut d0 lw_cs → WP D a cA cT TC g H → WP D a2 cA cT TM h H → va_S (fun q => s.heap.size ≤ q) s.heap H locs → lv_has ls 8 [(0, .ref b), (1, .ref (a 0)), (2, .ref (a2 0)), (3, .int (nI i))] → W p l e room_1 (s.setDrawn d0) m #[Value.ref b] below meth c H locs 600000 7302250 (lw_Z below #[Value.ref b] s) (F0 m 580 ls []) := by
  obtain ⟨⟨hx, hb, hr, hml, hown, hts0, hX, hbl, hlocks, hgv⟩, hK, hI, hI2, hap, hA1, hA2, hL⟩ := hC
  have hts : ∀ w ∈ lw_all, w.before #[Value.ref b] s = true := fun w h => hts0 w (lw_all_tbl h)
  have hbA : ¬ (fun q : Nat => s.heap.size ≤ q) b := Nat.not_le.mpr hbl
  have hin1 : vp_in (nI i + (1 : Int32)) L := by rw [nI_1]; exact vp_in_nI (by omega) (by omega)
  have hin2 : vp_in (nI i + (2 : Int32)) L := by rw [show nI i + (2 : Int32) = nI (i + 2) from nI_add i 2]; exact vp_in_nI (by omega) (by omega)
  intro H locs ls d0 hd0 hP1 hP2 hS hl
  obtain ⟨r, g', h', hcc, hcm, hR2⟩ := hsim g h hR
  refine lv_aload_n hx hb dL_law_580 rfl (lv_at hl 1 rfl) ?_
  refine y_VI (R := room_1) (s := s.setDrawn d0) (As := []) hx hb hml hown (dr_words hts d0) hK hP1 hS hA1 hP2 (lw_ap (D := D) (a := a2) (fun q h1 h2 => hap q h2 h1)) (ct_X6_mend l D a cA cT hI g r g' hcc) tF_0 (C := RX6) (F := TX6) (N := 5) rfl (g_V q455 q456 q457 q70 q458) yd_X6_mend ⟨Nat.le_of_ble_eq_true rfl, Nat.le_of_ble_eq_true rfl⟩ [] rfl (Nat.le_of_ble_eq_true rfl) hl.1 ⟨Nat.le_refl _, Nat.le_refl _⟩ dL_law_581 (fun H locs hP1 hP2 hS => ?_)
  refine lv_aload_n hx hb dL_law_584 rfl (lv_at hl 2 rfl) ?_
  refine y_VI (R := room_1) (s := s.setDrawn d0) (As := []) hx hb hml hown (dr_words hts d0) hK hP2 hS hA2 hP1 (lw_ap (D := D) (a := a) (fun q h1 h2 => hap q h1 h2)) (ct_X7_mend l D a2 cA cT hI2 h r h' hcm) tM_0 (C := RX7) (F := TX7) (N := 18) rfl (g_V q893 q894 q895 q77 q896) yd_X7_mend ⟨Nat.le_of_ble_eq_true rfl, Nat.le_of_ble_eq_true rfl⟩ [.int r] rfl (Nat.le_of_ble_eq_true rfl) hl.1 ⟨Nat.le_refl _, Nat.le_refl _⟩ dL_law_585 (fun H locs hP2 hP1 hS => ?_)
  refine lv_icmp_eq (tgt := 1142) hx hb dL_law_588 (by decide) (fun _ => ?_) (fun hn => absurd rfl hn)
  exact hk g' h' hR2 H locs ls d0 hd0 hP1 hP2 hS hl
set_option maxHeartbeats 4000000 in
set_option maxRecDepth 100000 in
theorem lc_13 (hC : LW p s m meth c b L xs D a a2 cA cT) (hsim : Sim_set Rel) {i : Nat} (hi : i + 3 ≤ L) {g h : MG} (hR : Rel g h) (hk : ∀ (g h : MG), Rel g h → ∀ (H : Heap) (locs : List Loc) (ls : Array Slot) (d0 : Drawn), s.drawn.sameBut d0 lw_cs → WP D a cA cT TC g H → WP D a2 cA cT TM h H → va_S (fun q => s.heap.size ≤ q) s.heap H locs → lv_has ls 8 [(0, .ref b), (1, .ref (a 0)), (2, .ref (a2 0)), (3, .int (nI i))] → W p l e room_1 (s.setDrawn d0) m #[Value.ref b] below meth c H locs 600000 7302250 (lw_Z below #[Value.ref b] s) (F0 m 1142 ls [])) : ∀ (H : Heap) (locs : List Loc) (ls : Array Slot) (d0 : Drawn), s.drawn.sameBut d0 lw_cs → WP D a cA cT TC g H → WP D a2 cA cT TM h H → va_S (fun q => s.heap.size ≤ q) s.heap H locs → lv_has ls 8 [(0, .ref b), (1, .ref (a 0)), (2, .ref (a2 0)), (3, .int (nI i))] → W p l e room_1 (s.setDrawn d0) m #[Value.ref b] below meth c H locs 600000 7302250 (lw_Z below #[Value.ref b] s) (F0 m 593 ls []) := by
  obtain ⟨⟨hx, hb, hr, hml, hown, hts0, hX, hbl, hlocks, hgv⟩, hK, hI, hI2, hap, hA1, hA2, hL⟩ := hC
  have hts : ∀ w ∈ lw_all, w.before #[Value.ref b] s = true := fun w h => hts0 w (lw_all_tbl h)
  have hbA : ¬ (fun q : Nat => s.heap.size ≤ q) b := Nat.not_le.mpr hbl
  have hin1 : vp_in (nI i + (1 : Int32)) L := by rw [nI_1]; exact vp_in_nI (by omega) (by omega)
  have hin2 : vp_in (nI i + (2 : Int32)) L := by rw [show nI i + (2 : Int32) = nI (i + 2) from nI_add i 2]; exact vp_in_nI (by omega) (by omega)
  intro H locs ls d0 hd0 hP1 hP2 hS hl
  obtain ⟨r, g', h', hcc, hcm, hR2⟩ := hsim g h (xs (nI i + (1 : Int32)).toNatClampNeg) (xs (nI i + (2 : Int32)).toNatClampNeg) hR
  refine lv_aload_n hx hb dL_law_593 rfl (lv_at hl 1 rfl) ?_
  refine lv_aload_n hx hb dL_law_594 rfl (lv_at hl 0 rfl) ?_
  refine lv_iload_n hx hb dL_law_595 rfl (lv_at hl 3 rfl) ?_
  refine lv_iconst (v := (1 : Int32)) hx hb dL_law_596 (by decide) ?_
  refine lv_iadd hx hb dL_law_597 ?_
  refine va_sld (s := s.setDrawn d0) hx hb hX hbl hbA hS hin1 dL_law_598 ?_
  refine lv_aload_n hx hb dL_law_599 rfl (lv_at hl 0 rfl) ?_
  refine lv_iload_n hx hb dL_law_600 rfl (lv_at hl 3 rfl) ?_
  refine lv_iconst (v := (2 : Int32)) hx hb dL_law_601 (by decide) ?_
  refine lv_iadd hx hb dL_law_602 ?_
  refine va_sld (s := s.setDrawn d0) hx hb hX hbl hbA hS hin2 dL_law_603 ?_
  refine y_VI (R := room_1) (s := s.setDrawn d0) (As := [.int (xs (nI i + (1 : Int32)).toNatClampNeg), .int (xs (nI i + (2 : Int32)).toNatClampNeg)]) hx hb hml hown (dr_words hts d0) hK hP1 hS hA1 hP2 (lw_ap (D := D) (a := a2) (fun q h1 h2 => hap q h2 h1)) (ct_X6_set l D a cA cT hI g (xs (nI i + (1 : Int32)).toNatClampNeg) (xs (nI i + (2 : Int32)).toNatClampNeg) r g' hcc) tF_0 (C := RX6) (F := TX6) (N := 5) rfl (g_V q493 q494 q495 q70 q496) yd_X6_set ⟨Nat.le_of_ble_eq_true rfl, Nat.le_of_ble_eq_true rfl⟩ [] rfl (Nat.le_of_ble_eq_true rfl) hl.1 ⟨Nat.le_refl _, Nat.le_refl _⟩ dL_law_604 (fun H locs hP1 hP2 hS => ?_)
  refine lv_aload_n hx hb dL_law_607 rfl (lv_at hl 2 rfl) ?_
  refine lv_aload_n hx hb dL_law_608 rfl (lv_at hl 0 rfl) ?_
  refine lv_iload_n hx hb dL_law_609 rfl (lv_at hl 3 rfl) ?_
  refine lv_iconst (v := (1 : Int32)) hx hb dL_law_610 (by decide) ?_
  refine lv_iadd hx hb dL_law_611 ?_
  refine va_sld (s := s.setDrawn d0) hx hb hX hbl hbA hS hin1 dL_law_612 ?_
  refine lv_aload_n hx hb dL_law_613 rfl (lv_at hl 0 rfl) ?_
  refine lv_iload_n hx hb dL_law_614 rfl (lv_at hl 3 rfl) ?_
  refine lv_iconst (v := (2 : Int32)) hx hb dL_law_615 (by decide) ?_
  refine lv_iadd hx hb dL_law_616 ?_
  refine va_sld (s := s.setDrawn d0) hx hb hX hbl hbA hS hin2 dL_law_617 ?_
  refine y_VI (R := room_1) (s := s.setDrawn d0) (As := [.int (xs (nI i + (1 : Int32)).toNatClampNeg), .int (xs (nI i + (2 : Int32)).toNatClampNeg)]) hx hb hml hown (dr_words hts d0) hK hP2 hS hA2 hP1 (lw_ap (D := D) (a := a) (fun q h1 h2 => hap q h1 h2)) (ct_X7_set l D a2 cA cT hI2 h (xs (nI i + (1 : Int32)).toNatClampNeg) (xs (nI i + (2 : Int32)).toNatClampNeg) r h' hcm) tM_0 (C := RX7) (F := TX7) (N := 18) rfl (g_V q903 q904 q905 q77 q906) yd_X7_set ⟨Nat.le_of_ble_eq_true rfl, Nat.le_of_ble_eq_true rfl⟩ [.int r] rfl (Nat.le_of_ble_eq_true rfl) hl.1 ⟨Nat.le_refl _, Nat.le_refl _⟩ dL_law_618 (fun H locs hP2 hP1 hS => ?_)
  refine lv_icmp_eq (tgt := 1142) hx hb dL_law_621 (by decide) (fun _ => ?_) (fun hn => absurd rfl hn)
  exact hk g' h' hR2 H locs ls d0 hd0 hP1 hP2 hS hl
set_option maxHeartbeats 4000000 in
set_option maxRecDepth 100000 in
theorem lc_14 (hC : LW p s m meth c b L xs D a a2 cA cT) (hsim : Sim_type Rel) {i : Nat} (hi : i + 3 ≤ L) {g h : MG} (hR : Rel g h) (hk : ∀ (g h : MG), Rel g h → ∀ (H : Heap) (locs : List Loc) (ls : Array Slot) (d0 : Drawn), s.drawn.sameBut d0 lw_cs → WP D a cA cT TC g H → WP D a2 cA cT TM h H → va_S (fun q => s.heap.size ≤ q) s.heap H locs → lv_has ls 8 [(0, .ref b), (1, .ref (a 0)), (2, .ref (a2 0)), (3, .int (nI i))] → W p l e room_1 (s.setDrawn d0) m #[Value.ref b] below meth c H locs 600000 7302250 (lw_Z below #[Value.ref b] s) (F0 m 1142 ls [])) : ∀ (H : Heap) (locs : List Loc) (ls : Array Slot) (d0 : Drawn), s.drawn.sameBut d0 lw_cs → WP D a cA cT TC g H → WP D a2 cA cT TM h H → va_S (fun q => s.heap.size ≤ q) s.heap H locs → lv_has ls 8 [(0, .ref b), (1, .ref (a 0)), (2, .ref (a2 0)), (3, .int (nI i))] → W p l e room_1 (s.setDrawn d0) m #[Value.ref b] below meth c H locs 600000 7302250 (lw_Z below #[Value.ref b] s) (F0 m 626 ls []) := by
  obtain ⟨⟨hx, hb, hr, hml, hown, hts0, hX, hbl, hlocks, hgv⟩, hK, hI, hI2, hap, hA1, hA2, hL⟩ := hC
  have hts : ∀ w ∈ lw_all, w.before #[Value.ref b] s = true := fun w h => hts0 w (lw_all_tbl h)
  have hbA : ¬ (fun q : Nat => s.heap.size ≤ q) b := Nat.not_le.mpr hbl
  have hin1 : vp_in (nI i + (1 : Int32)) L := by rw [nI_1]; exact vp_in_nI (by omega) (by omega)
  have hin2 : vp_in (nI i + (2 : Int32)) L := by rw [show nI i + (2 : Int32) = nI (i + 2) from nI_add i 2]; exact vp_in_nI (by omega) (by omega)
  intro H locs ls d0 hd0 hP1 hP2 hS hl
  obtain ⟨r, g', h', hcc, hcm, hR2⟩ := hsim g h (((xs (nI i + (1 : Int32)).toNatClampNeg).toUInt32 % 65536).toInt32) ⟨_, Nat.mod_lt _ (by decide), pk_char (xs (nI i + (1 : Int32)).toNatClampNeg)⟩ hR
  refine lv_aload_n hx hb dL_law_626 rfl (lv_at hl 1 rfl) ?_
  refine lv_aload_n hx hb dL_law_627 rfl (lv_at hl 0 rfl) ?_
  refine lv_iload_n hx hb dL_law_628 rfl (lv_at hl 3 rfl) ?_
  refine lv_iconst (v := (1 : Int32)) hx hb dL_law_629 (by decide) ?_
  refine lv_iadd hx hb dL_law_630 ?_
  refine va_sld (s := s.setDrawn d0) hx hb hX hbl hbA hS hin1 dL_law_631 ?_
  refine lv_i2c hx hb dL_law_632 rfl ?_
  refine y_VI (R := room_1) (s := s.setDrawn d0) (As := [.int (((xs (nI i + (1 : Int32)).toNatClampNeg).toUInt32 % 65536).toInt32)]) hx hb hml hown (dr_words hts d0) hK hP1 hS hA1 hP2 (lw_ap (D := D) (a := a2) (fun q h1 h2 => hap q h2 h1)) (ct_X6_type l D a cA cT hI g (((xs (nI i + (1 : Int32)).toNatClampNeg).toUInt32 % 65536).toInt32) r g' hcc) tF_0 (C := RX6) (F := TX6) (N := 5) rfl (g_V q497 q498 q499 q70 q500) yd_X6_type ⟨Nat.le_of_ble_eq_true rfl, Nat.le_of_ble_eq_true rfl⟩ [] rfl (Nat.le_of_ble_eq_true rfl) hl.1 ⟨Nat.le_refl _, Nat.le_refl _⟩ dL_law_633 (fun H locs hP1 hP2 hS => ?_)
  refine lv_aload_n hx hb dL_law_636 rfl (lv_at hl 2 rfl) ?_
  refine lv_aload_n hx hb dL_law_637 rfl (lv_at hl 0 rfl) ?_
  refine lv_iload_n hx hb dL_law_638 rfl (lv_at hl 3 rfl) ?_
  refine lv_iconst (v := (1 : Int32)) hx hb dL_law_639 (by decide) ?_
  refine lv_iadd hx hb dL_law_640 ?_
  refine va_sld (s := s.setDrawn d0) hx hb hX hbl hbA hS hin1 dL_law_641 ?_
  refine lv_i2c hx hb dL_law_642 rfl ?_
  refine y_VI (R := room_1) (s := s.setDrawn d0) (As := [.int (((xs (nI i + (1 : Int32)).toNatClampNeg).toUInt32 % 65536).toInt32)]) hx hb hml hown (dr_words hts d0) hK hP2 hS hA2 hP1 (lw_ap (D := D) (a := a) (fun q h1 h2 => hap q h1 h2)) (ct_X7_type l D a2 cA cT hI2 h (((xs (nI i + (1 : Int32)).toNatClampNeg).toUInt32 % 65536).toInt32) r h' hcm) tM_0 (C := RX7) (F := TX7) (N := 18) rfl (g_V q907 q908 q909 q77 q910) yd_X7_type ⟨Nat.le_of_ble_eq_true rfl, Nat.le_of_ble_eq_true rfl⟩ [.int r] rfl (Nat.le_of_ble_eq_true rfl) hl.1 ⟨Nat.le_refl _, Nat.le_refl _⟩ dL_law_643 (fun H locs hP2 hP1 hS => ?_)
  refine lv_icmp_eq (tgt := 1142) hx hb dL_law_646 (by decide) (fun _ => ?_) (fun hn => absurd rfl hn)
  exact hk g' h' hR2 H locs ls d0 hd0 hP1 hP2 hS hl
set_option maxHeartbeats 4000000 in
set_option maxRecDepth 100000 in
theorem lc_15 (hC : LW p s m meth c b L xs D a a2 cA cT) (hsim : Sim_clearText Rel) {i : Nat} (hi : i + 3 ≤ L) {g h : MG} (hR : Rel g h) (hk : ∀ (g h : MG), Rel g h → ∀ (H : Heap) (locs : List Loc) (ls : Array Slot) (d0 : Drawn), s.drawn.sameBut d0 lw_cs → WP D a cA cT TC g H → WP D a2 cA cT TM h H → va_S (fun q => s.heap.size ≤ q) s.heap H locs → lv_has ls 8 [(0, .ref b), (1, .ref (a 0)), (2, .ref (a2 0)), (3, .int (nI i))] → W p l e room_1 (s.setDrawn d0) m #[Value.ref b] below meth c H locs 600000 7302250 (lw_Z below #[Value.ref b] s) (F0 m 1142 ls [])) : ∀ (H : Heap) (locs : List Loc) (ls : Array Slot) (d0 : Drawn), s.drawn.sameBut d0 lw_cs → WP D a cA cT TC g H → WP D a2 cA cT TM h H → va_S (fun q => s.heap.size ≤ q) s.heap H locs → lv_has ls 8 [(0, .ref b), (1, .ref (a 0)), (2, .ref (a2 0)), (3, .int (nI i))] → W p l e room_1 (s.setDrawn d0) m #[Value.ref b] below meth c H locs 600000 7302250 (lw_Z below #[Value.ref b] s) (F0 m 651 ls []) := by
  obtain ⟨⟨hx, hb, hr, hml, hown, hts0, hX, hbl, hlocks, hgv⟩, hK, hI, hI2, hap, hA1, hA2, hL⟩ := hC
  have hts : ∀ w ∈ lw_all, w.before #[Value.ref b] s = true := fun w h => hts0 w (lw_all_tbl h)
  have hbA : ¬ (fun q : Nat => s.heap.size ≤ q) b := Nat.not_le.mpr hbl
  have hin1 : vp_in (nI i + (1 : Int32)) L := by rw [nI_1]; exact vp_in_nI (by omega) (by omega)
  have hin2 : vp_in (nI i + (2 : Int32)) L := by rw [show nI i + (2 : Int32) = nI (i + 2) from nI_add i 2]; exact vp_in_nI (by omega) (by omega)
  intro H locs ls d0 hd0 hP1 hP2 hS hl
  obtain ⟨r, g', h', hcc, hcm, hR2⟩ := hsim g h hR
  refine lv_aload_n hx hb dL_law_651 rfl (lv_at hl 1 rfl) ?_
  refine y_VI (R := room_1) (s := s.setDrawn d0) (As := []) hx hb hml hown (dr_words hts d0) hK hP1 hS hA1 hP2 (lw_ap (D := D) (a := a2) (fun q h1 h2 => hap q h2 h1)) (ct_X6_clearText l D a cA cT hI g r g' hcc) tF_0 (C := RX6) (F := TX6) (N := 5) rfl (g_V q533 q534 q535 q70 q536) yd_X6_clearText ⟨Nat.le_of_ble_eq_true rfl, Nat.le_of_ble_eq_true rfl⟩ [] rfl (Nat.le_of_ble_eq_true rfl) hl.1 ⟨Nat.le_refl _, Nat.le_refl _⟩ dL_law_652 (fun H locs hP1 hP2 hS => ?_)
  refine lv_aload_n hx hb dL_law_655 rfl (lv_at hl 2 rfl) ?_
  refine y_VI (R := room_1) (s := s.setDrawn d0) (As := []) hx hb hml hown (dr_words hts d0) hK hP2 hS hA2 hP1 (lw_ap (D := D) (a := a) (fun q h1 h2 => hap q h1 h2)) (ct_X7_clearText l D a2 cA cT hI2 h r h' hcm) tM_0 (C := RX7) (F := TX7) (N := 18) rfl (g_V q911 q912 q913 q77 q914) yd_X7_clearText ⟨Nat.le_of_ble_eq_true rfl, Nat.le_of_ble_eq_true rfl⟩ [.int r] rfl (Nat.le_of_ble_eq_true rfl) hl.1 ⟨Nat.le_refl _, Nat.le_refl _⟩ dL_law_656 (fun H locs hP2 hP1 hS => ?_)
  refine lv_icmp_eq (tgt := 1142) hx hb dL_law_659 (by decide) (fun _ => ?_) (fun hn => absurd rfl hn)
  exact hk g' h' hR2 H locs ls d0 hd0 hP1 hP2 hS hl
set_option maxHeartbeats 4000000 in
set_option maxRecDepth 100000 in
theorem lc_16 (hC : LW p s m meth c b L xs D a a2 cA cT) (hsim : Sim_fault Rel) {i : Nat} (hi : i + 3 ≤ L) {g h : MG} (hR : Rel g h) (hk : ∀ (g h : MG), Rel g h → ∀ (H : Heap) (locs : List Loc) (ls : Array Slot) (d0 : Drawn), s.drawn.sameBut d0 lw_cs → WP D a cA cT TC g H → WP D a2 cA cT TM h H → va_S (fun q => s.heap.size ≤ q) s.heap H locs → lv_has ls 8 [(0, .ref b), (1, .ref (a 0)), (2, .ref (a2 0)), (3, .int (nI i))] → W p l e room_1 (s.setDrawn d0) m #[Value.ref b] below meth c H locs 600000 7302250 (lw_Z below #[Value.ref b] s) (F0 m 1142 ls [])) : ∀ (H : Heap) (locs : List Loc) (ls : Array Slot) (d0 : Drawn), s.drawn.sameBut d0 lw_cs → WP D a cA cT TC g H → WP D a2 cA cT TM h H → va_S (fun q => s.heap.size ≤ q) s.heap H locs → lv_has ls 8 [(0, .ref b), (1, .ref (a 0)), (2, .ref (a2 0)), (3, .int (nI i))] → W p l e room_1 (s.setDrawn d0) m #[Value.ref b] below meth c H locs 600000 7302250 (lw_Z below #[Value.ref b] s) (F0 m 664 ls []) := by
  obtain ⟨⟨hx, hb, hr, hml, hown, hts0, hX, hbl, hlocks, hgv⟩, hK, hI, hI2, hap, hA1, hA2, hL⟩ := hC
  have hts : ∀ w ∈ lw_all, w.before #[Value.ref b] s = true := fun w h => hts0 w (lw_all_tbl h)
  have hbA : ¬ (fun q : Nat => s.heap.size ≤ q) b := Nat.not_le.mpr hbl
  have hin1 : vp_in (nI i + (1 : Int32)) L := by rw [nI_1]; exact vp_in_nI (by omega) (by omega)
  have hin2 : vp_in (nI i + (2 : Int32)) L := by rw [show nI i + (2 : Int32) = nI (i + 2) from nI_add i 2]; exact vp_in_nI (by omega) (by omega)
  intro H locs ls d0 hd0 hP1 hP2 hS hl
  obtain ⟨r, h', hcc, hcm, hR2⟩ := hsim g h hR
  refine lv_aload_n hx hb dL_law_664 rfl (lv_at hl 1 rfl) ?_
  refine y_VI (R := room_1) (s := s.setDrawn d0) (As := []) hx hb hml hown (dr_words hts d0) hK hP1 hS hA1 hP2 (lw_ap (D := D) (a := a2) (fun q h1 h2 => hap q h2 h1)) (ct_X6_fault l D a cA cT hI g r hcc) tF_0 (C := RX6) (F := TX6) (N := 5) rfl (g_V q541 q542 q543 q70 q544) yd_X6_fault ⟨Nat.le_of_ble_eq_true rfl, Nat.le_of_ble_eq_true rfl⟩ [] rfl (Nat.le_of_ble_eq_true rfl) hl.1 ⟨Nat.le_refl _, Nat.le_refl _⟩ dL_law_665 (fun H locs hP1 hP2 hS => ?_)
  refine lv_aload_n hx hb dL_law_668 rfl (lv_at hl 2 rfl) ?_
  refine y_VI (R := room_1) (s := s.setDrawn d0) (As := []) hx hb hml hown (dr_words hts d0) hK hP2 hS hA2 hP1 (lw_ap (D := D) (a := a) (fun q h1 h2 => hap q h1 h2)) (ct_X7_fault l D a2 cA cT hI2 h r h' hcm) tM_0 (C := RX7) (F := TX7) (N := 18) rfl (g_V q915 q916 q917 q77 q918) yd_X7_fault ⟨Nat.le_of_ble_eq_true rfl, Nat.le_of_ble_eq_true rfl⟩ [.int r] rfl (Nat.le_of_ble_eq_true rfl) hl.1 ⟨Nat.le_refl _, Nat.le_refl _⟩ dL_law_669 (fun H locs hP2 hP1 hS => ?_)
  refine lv_icmp_eq (tgt := 1142) hx hb dL_law_672 (by decide) (fun _ => ?_) (fun hn => absurd rfl hn)
  exact hk g h' hR2 H locs ls d0 hd0 hP1 hP2 hS hl
set_option maxHeartbeats 4000000 in
set_option maxRecDepth 100000 in
theorem lc_17 (hC : LW p s m meth c b L xs D a a2 cA cT) (hsim : Sim_undo Rel) {i : Nat} (hi : i + 3 ≤ L) {g h : MG} (hR : Rel g h) (hk : ∀ (g h : MG), Rel g h → ∀ (H : Heap) (locs : List Loc) (ls : Array Slot) (d0 : Drawn), s.drawn.sameBut d0 lw_cs → WP D a cA cT TC g H → WP D a2 cA cT TM h H → va_S (fun q => s.heap.size ≤ q) s.heap H locs → lv_has ls 8 [(0, .ref b), (1, .ref (a 0)), (2, .ref (a2 0)), (3, .int (nI i))] → W p l e room_1 (s.setDrawn d0) m #[Value.ref b] below meth c H locs 600000 7302250 (lw_Z below #[Value.ref b] s) (F0 m 1142 ls [])) : ∀ (H : Heap) (locs : List Loc) (ls : Array Slot) (d0 : Drawn), s.drawn.sameBut d0 lw_cs → WP D a cA cT TC g H → WP D a2 cA cT TM h H → va_S (fun q => s.heap.size ≤ q) s.heap H locs → lv_has ls 8 [(0, .ref b), (1, .ref (a 0)), (2, .ref (a2 0)), (3, .int (nI i))] → W p l e room_1 (s.setDrawn d0) m #[Value.ref b] below meth c H locs 600000 7302250 (lw_Z below #[Value.ref b] s) (F0 m 677 ls []) := by
  obtain ⟨⟨hx, hb, hr, hml, hown, hts0, hX, hbl, hlocks, hgv⟩, hK, hI, hI2, hap, hA1, hA2, hL⟩ := hC
  have hts : ∀ w ∈ lw_all, w.before #[Value.ref b] s = true := fun w h => hts0 w (lw_all_tbl h)
  have hbA : ¬ (fun q : Nat => s.heap.size ≤ q) b := Nat.not_le.mpr hbl
  have hin1 : vp_in (nI i + (1 : Int32)) L := by rw [nI_1]; exact vp_in_nI (by omega) (by omega)
  have hin2 : vp_in (nI i + (2 : Int32)) L := by rw [show nI i + (2 : Int32) = nI (i + 2) from nI_add i 2]; exact vp_in_nI (by omega) (by omega)
  intro H locs ls d0 hd0 hP1 hP2 hS hl
  obtain ⟨r, g', h', hcc, hcm, hR2⟩ := hsim g h hR
  refine lv_aload_n hx hb dL_law_677 rfl (lv_at hl 1 rfl) ?_
  refine y_VI (R := room_1) (s := s.setDrawn d0) (As := []) hx hb hml hown (dr_words hts d0) hK hP1 hS hA1 hP2 (lw_ap (D := D) (a := a2) (fun q h1 h2 => hap q h2 h1)) (ct_X6_undo l D a cA cT hI g r g' hcc) tF_0 (C := RX6) (F := TX6) (N := 5) rfl (g_V q549 q550 q551 q70 q552) yd_X6_undo ⟨Nat.le_of_ble_eq_true rfl, Nat.le_of_ble_eq_true rfl⟩ [] rfl (Nat.le_of_ble_eq_true rfl) hl.1 ⟨Nat.le_refl _, Nat.le_refl _⟩ dL_law_678 (fun H locs hP1 hP2 hS => ?_)
  refine lv_aload_n hx hb dL_law_681 rfl (lv_at hl 2 rfl) ?_
  refine y_VI (R := room_1) (s := s.setDrawn d0) (As := []) hx hb hml hown (dr_words hts d0) hK hP2 hS hA2 hP1 (lw_ap (D := D) (a := a) (fun q h1 h2 => hap q h1 h2)) (ct_X7_undo l D a2 cA cT hI2 h r h' hcm) tM_0 (C := RX7) (F := TX7) (N := 18) rfl (g_V q937 q938 q939 q77 q940) yd_X7_undo ⟨Nat.le_of_ble_eq_true rfl, Nat.le_of_ble_eq_true rfl⟩ [.int r] rfl (Nat.le_of_ble_eq_true rfl) hl.1 ⟨Nat.le_refl _, Nat.le_refl _⟩ dL_law_682 (fun H locs hP2 hP1 hS => ?_)
  refine lv_icmp_eq (tgt := 1142) hx hb dL_law_685 (by decide) (fun _ => ?_) (fun hn => absurd rfl hn)
  exact hk g' h' hR2 H locs ls d0 hd0 hP1 hP2 hS hl
set_option maxHeartbeats 4000000 in
set_option maxRecDepth 100000 in
theorem lc_18 (hC : LW p s m meth c b L xs D a a2 cA cT) (hsim : Sim_keep Rel) {i : Nat} (hi : i + 3 ≤ L) {g h : MG} (hR : Rel g h) (hk : ∀ (g h : MG), Rel g h → ∀ (H : Heap) (locs : List Loc) (ls : Array Slot) (d0 : Drawn), s.drawn.sameBut d0 lw_cs → WP D a cA cT TC g H → WP D a2 cA cT TM h H → va_S (fun q => s.heap.size ≤ q) s.heap H locs → lv_has ls 8 [(0, .ref b), (1, .ref (a 0)), (2, .ref (a2 0)), (3, .int (nI i))] → W p l e room_1 (s.setDrawn d0) m #[Value.ref b] below meth c H locs 600000 7302250 (lw_Z below #[Value.ref b] s) (F0 m 1142 ls [])) : ∀ (H : Heap) (locs : List Loc) (ls : Array Slot) (d0 : Drawn), s.drawn.sameBut d0 lw_cs → WP D a cA cT TC g H → WP D a2 cA cT TM h H → va_S (fun q => s.heap.size ≤ q) s.heap H locs → lv_has ls 8 [(0, .ref b), (1, .ref (a 0)), (2, .ref (a2 0)), (3, .int (nI i))] → W p l e room_1 (s.setDrawn d0) m #[Value.ref b] below meth c H locs 600000 7302250 (lw_Z below #[Value.ref b] s) (F0 m 690 ls []) := by
  obtain ⟨⟨hx, hb, hr, hml, hown, hts0, hX, hbl, hlocks, hgv⟩, hK, hI, hI2, hap, hA1, hA2, hL⟩ := hC
  have hts : ∀ w ∈ lw_all, w.before #[Value.ref b] s = true := fun w h => hts0 w (lw_all_tbl h)
  have hbA : ¬ (fun q : Nat => s.heap.size ≤ q) b := Nat.not_le.mpr hbl
  have hin1 : vp_in (nI i + (1 : Int32)) L := by rw [nI_1]; exact vp_in_nI (by omega) (by omega)
  have hin2 : vp_in (nI i + (2 : Int32)) L := by rw [show nI i + (2 : Int32) = nI (i + 2) from nI_add i 2]; exact vp_in_nI (by omega) (by omega)
  intro H locs ls d0 hd0 hP1 hP2 hS hl
  obtain ⟨r, g', h', hcc, hcm, hR2⟩ := hsim g h hR
  refine lv_aload_n hx hb dL_law_690 rfl (lv_at hl 1 rfl) ?_
  refine y_VI (R := room_1) (s := s.setDrawn d0) (As := []) hx hb hml hown (dr_words hts d0) hK hP1 hS hA1 hP2 (lw_ap (D := D) (a := a2) (fun q h1 h2 => hap q h2 h1)) (ct_X6_keep l D a cA cT hI g r g' hcc) tF_0 (C := RX6) (F := TX6) (N := 5) rfl (g_V q557 q558 q559 q70 q560) yd_X6_keep ⟨Nat.le_of_ble_eq_true rfl, Nat.le_of_ble_eq_true rfl⟩ [] rfl (Nat.le_of_ble_eq_true rfl) hl.1 ⟨Nat.le_refl _, Nat.le_refl _⟩ dL_law_691 (fun H locs hP1 hP2 hS => ?_)
  refine lv_aload_n hx hb dL_law_694 rfl (lv_at hl 2 rfl) ?_
  refine y_VI (R := room_1) (s := s.setDrawn d0) (As := []) hx hb hml hown (dr_words hts d0) hK hP2 hS hA2 hP1 (lw_ap (D := D) (a := a) (fun q h1 h2 => hap q h1 h2)) (ct_X7_keep l D a2 cA cT hI2 h r h' hcm) tM_0 (C := RX7) (F := TX7) (N := 18) rfl (g_V q941 q942 q943 q77 q944) yd_X7_keep ⟨Nat.le_of_ble_eq_true rfl, Nat.le_of_ble_eq_true rfl⟩ [.int r] rfl (Nat.le_of_ble_eq_true rfl) hl.1 ⟨Nat.le_refl _, Nat.le_refl _⟩ dL_law_695 (fun H locs hP2 hP1 hS => ?_)
  refine lv_icmp_eq (tgt := 1142) hx hb dL_law_698 (by decide) (fun _ => ?_) (fun hn => absurd rfl hn)
  exact hk g' h' hR2 H locs ls d0 hd0 hP1 hP2 hS hl
set_option maxHeartbeats 4000000 in
set_option maxRecDepth 100000 in
theorem lc_19 (hC : LW p s m meth c b L xs D a a2 cA cT) (hsim : Sim_restore Rel) {i : Nat} (hi : i + 3 ≤ L) {g h : MG} (hR : Rel g h) (hk : ∀ (g h : MG), Rel g h → ∀ (H : Heap) (locs : List Loc) (ls : Array Slot) (d0 : Drawn), s.drawn.sameBut d0 lw_cs → WP D a cA cT TC g H → WP D a2 cA cT TM h H → va_S (fun q => s.heap.size ≤ q) s.heap H locs → lv_has ls 8 [(0, .ref b), (1, .ref (a 0)), (2, .ref (a2 0)), (3, .int (nI i))] → W p l e room_1 (s.setDrawn d0) m #[Value.ref b] below meth c H locs 600000 7302250 (lw_Z below #[Value.ref b] s) (F0 m 1142 ls [])) : ∀ (H : Heap) (locs : List Loc) (ls : Array Slot) (d0 : Drawn), s.drawn.sameBut d0 lw_cs → WP D a cA cT TC g H → WP D a2 cA cT TM h H → va_S (fun q => s.heap.size ≤ q) s.heap H locs → lv_has ls 8 [(0, .ref b), (1, .ref (a 0)), (2, .ref (a2 0)), (3, .int (nI i))] → W p l e room_1 (s.setDrawn d0) m #[Value.ref b] below meth c H locs 600000 7302250 (lw_Z below #[Value.ref b] s) (F0 m 703 ls []) := by
  obtain ⟨⟨hx, hb, hr, hml, hown, hts0, hX, hbl, hlocks, hgv⟩, hK, hI, hI2, hap, hA1, hA2, hL⟩ := hC
  have hts : ∀ w ∈ lw_all, w.before #[Value.ref b] s = true := fun w h => hts0 w (lw_all_tbl h)
  have hbA : ¬ (fun q : Nat => s.heap.size ≤ q) b := Nat.not_le.mpr hbl
  have hin1 : vp_in (nI i + (1 : Int32)) L := by rw [nI_1]; exact vp_in_nI (by omega) (by omega)
  have hin2 : vp_in (nI i + (2 : Int32)) L := by rw [show nI i + (2 : Int32) = nI (i + 2) from nI_add i 2]; exact vp_in_nI (by omega) (by omega)
  intro H locs ls d0 hd0 hP1 hP2 hS hl
  obtain ⟨r, g', h', hcc, hcm, hR2⟩ := hsim g h hR
  refine lv_aload_n hx hb dL_law_703 rfl (lv_at hl 1 rfl) ?_
  refine y_VI (R := room_1) (s := s.setDrawn d0) (As := []) hx hb hml hown (dr_words hts d0) hK hP1 hS hA1 hP2 (lw_ap (D := D) (a := a2) (fun q h1 h2 => hap q h2 h1)) (ct_X6_restore l D a cA cT hI g r g' hcc) tF_0 (C := RX6) (F := TX6) (N := 5) rfl (g_V q565 q566 q567 q70 q568) yd_X6_restore ⟨Nat.le_of_ble_eq_true rfl, Nat.le_of_ble_eq_true rfl⟩ [] rfl (Nat.le_of_ble_eq_true rfl) hl.1 ⟨Nat.le_refl _, Nat.le_refl _⟩ dL_law_704 (fun H locs hP1 hP2 hS => ?_)
  refine lv_aload_n hx hb dL_law_707 rfl (lv_at hl 2 rfl) ?_
  refine y_VI (R := room_1) (s := s.setDrawn d0) (As := []) hx hb hml hown (dr_words hts d0) hK hP2 hS hA2 hP1 (lw_ap (D := D) (a := a) (fun q h1 h2 => hap q h1 h2)) (ct_X7_restore l D a2 cA cT hI2 h r h' hcm) tM_0 (C := RX7) (F := TX7) (N := 18) rfl (g_V q945 q946 q947 q77 q948) yd_X7_restore ⟨Nat.le_of_ble_eq_true rfl, Nat.le_of_ble_eq_true rfl⟩ [.int r] rfl (Nat.le_of_ble_eq_true rfl) hl.1 ⟨Nat.le_refl _, Nat.le_refl _⟩ dL_law_708 (fun H locs hP2 hP1 hS => ?_)
  refine lv_icmp_eq (tgt := 1142) hx hb dL_law_711 (by decide) (fun _ => ?_) (fun hn => absurd rfl hn)
  exact hk g' h' hR2 H locs ls d0 hd0 hP1 hP2 hS hl
set_option maxHeartbeats 4000000 in
set_option maxRecDepth 100000 in
theorem lc_20 (hC : LW p s m meth c b L xs D a a2 cA cT) (hsim : Sim_row Rel) {i : Nat} (hi : i + 3 ≤ L) {g h : MG} (hR : Rel g h) (hk : ∀ (g h : MG), Rel g h → ∀ (H : Heap) (locs : List Loc) (ls : Array Slot) (d0 : Drawn), s.drawn.sameBut d0 lw_cs → WP D a cA cT TC g H → WP D a2 cA cT TM h H → va_S (fun q => s.heap.size ≤ q) s.heap H locs → lv_has ls 8 [(0, .ref b), (1, .ref (a 0)), (2, .ref (a2 0)), (3, .int (nI i))] → W p l e room_1 (s.setDrawn d0) m #[Value.ref b] below meth c H locs 600000 7302250 (lw_Z below #[Value.ref b] s) (F0 m 1142 ls [])) : ∀ (H : Heap) (locs : List Loc) (ls : Array Slot) (d0 : Drawn), s.drawn.sameBut d0 lw_cs → WP D a cA cT TC g H → WP D a2 cA cT TM h H → va_S (fun q => s.heap.size ≤ q) s.heap H locs → lv_has ls 8 [(0, .ref b), (1, .ref (a 0)), (2, .ref (a2 0)), (3, .int (nI i))] → W p l e room_1 (s.setDrawn d0) m #[Value.ref b] below meth c H locs 600000 7302250 (lw_Z below #[Value.ref b] s) (F0 m 716 ls []) := by
  obtain ⟨⟨hx, hb, hr, hml, hown, hts0, hX, hbl, hlocks, hgv⟩, hK, hI, hI2, hap, hA1, hA2, hL⟩ := hC
  have hts : ∀ w ∈ lw_all, w.before #[Value.ref b] s = true := fun w h => hts0 w (lw_all_tbl h)
  have hbA : ¬ (fun q : Nat => s.heap.size ≤ q) b := Nat.not_le.mpr hbl
  have hin1 : vp_in (nI i + (1 : Int32)) L := by rw [nI_1]; exact vp_in_nI (by omega) (by omega)
  have hin2 : vp_in (nI i + (2 : Int32)) L := by rw [show nI i + (2 : Int32) = nI (i + 2) from nI_add i 2]; exact vp_in_nI (by omega) (by omega)
  intro H locs ls d0 hd0 hP1 hP2 hS hl
  obtain ⟨r, hcc, hcm⟩ := hsim g h (xs (nI i + (1 : Int32)).toNatClampNeg) (xs (nI i + (2 : Int32)).toNatClampNeg) hR
  refine lv_aload_n hx hb dL_law_716 rfl (lv_at hl 1 rfl) ?_
  refine lv_aload_n hx hb dL_law_717 rfl (lv_at hl 0 rfl) ?_
  refine lv_iload_n hx hb dL_law_718 rfl (lv_at hl 3 rfl) ?_
  refine lv_iconst (v := (1 : Int32)) hx hb dL_law_719 (by decide) ?_
  refine lv_iadd hx hb dL_law_720 ?_
  refine va_sld (s := s.setDrawn d0) hx hb hX hbl hbA hS hin1 dL_law_721 ?_
  refine lv_aload_n hx hb dL_law_722 rfl (lv_at hl 0 rfl) ?_
  refine lv_iload_n hx hb dL_law_723 rfl (lv_at hl 3 rfl) ?_
  refine lv_iconst (v := (2 : Int32)) hx hb dL_law_724 (by decide) ?_
  refine lv_iadd hx hb dL_law_725 ?_
  refine va_sld (s := s.setDrawn d0) hx hb hX hbl hbA hS hin2 dL_law_726 ?_
  refine y_VI (R := room_1) (s := s.setDrawn d0) (As := [.int (xs (nI i + (1 : Int32)).toNatClampNeg), .int (xs (nI i + (2 : Int32)).toNatClampNeg)]) hx hb hml hown (dr_words hts d0) hK hP1 hS hA1 hP2 (lw_ap (D := D) (a := a2) (fun q h1 h2 => hap q h2 h1)) (ct_X6_row l D a cA cT hI g (xs (nI i + (1 : Int32)).toNatClampNeg) (xs (nI i + (2 : Int32)).toNatClampNeg) r hcc) tF_0 (C := RX6) (F := TX6) (N := 5) rfl (g_V q570 q571 q572 q70 q573) yd_X6_row ⟨Nat.le_of_ble_eq_true rfl, Nat.le_of_ble_eq_true rfl⟩ [] rfl (Nat.le_of_ble_eq_true rfl) hl.1 ⟨Nat.le_refl _, Nat.le_refl _⟩ dL_law_727 (fun H locs hP1 hP2 hS => ?_)
  refine lv_aload_n hx hb dL_law_730 rfl (lv_at hl 2 rfl) ?_
  refine lv_aload_n hx hb dL_law_731 rfl (lv_at hl 0 rfl) ?_
  refine lv_iload_n hx hb dL_law_732 rfl (lv_at hl 3 rfl) ?_
  refine lv_iconst (v := (1 : Int32)) hx hb dL_law_733 (by decide) ?_
  refine lv_iadd hx hb dL_law_734 ?_
  refine va_sld (s := s.setDrawn d0) hx hb hX hbl hbA hS hin1 dL_law_735 ?_
  refine lv_aload_n hx hb dL_law_736 rfl (lv_at hl 0 rfl) ?_
  refine lv_iload_n hx hb dL_law_737 rfl (lv_at hl 3 rfl) ?_
  refine lv_iconst (v := (2 : Int32)) hx hb dL_law_738 (by decide) ?_
  refine lv_iadd hx hb dL_law_739 ?_
  refine va_sld (s := s.setDrawn d0) hx hb hX hbl hbA hS hin2 dL_law_740 ?_
  refine y_VI (R := room_1) (s := s.setDrawn d0) (As := [.int (xs (nI i + (1 : Int32)).toNatClampNeg), .int (xs (nI i + (2 : Int32)).toNatClampNeg)]) hx hb hml hown (dr_words hts d0) hK hP2 hS hA2 hP1 (lw_ap (D := D) (a := a) (fun q h1 h2 => hap q h1 h2)) (ct_X7_row l D a2 cA cT hI2 h (xs (nI i + (1 : Int32)).toNatClampNeg) (xs (nI i + (2 : Int32)).toNatClampNeg) r hcm) tM_0 (C := RX7) (F := TX7) (N := 18) rfl (g_V q1003 q1004 q1005 q77 q1006) yd_X7_row ⟨Nat.le_of_ble_eq_true rfl, Nat.le_of_ble_eq_true rfl⟩ [.int r] rfl (Nat.le_of_ble_eq_true rfl) hl.1 ⟨Nat.le_refl _, Nat.le_refl _⟩ dL_law_741 (fun H locs hP2 hP1 hS => ?_)
  refine lv_icmp_eq (tgt := 1142) hx hb dL_law_744 (by decide) (fun _ => ?_) (fun hn => absurd rfl hn)
  exact hk g h hR H locs ls d0 hd0 hP1 hP2 hS hl
set_option maxHeartbeats 4000000 in
set_option maxRecDepth 100000 in
theorem lc_21 (hC : LW p s m meth c b L xs D a a2 cA cT) (hsim : Sim_slice Rel) {i : Nat} (hi : i + 3 ≤ L) {g h : MG} (hR : Rel g h) (hk : ∀ (g h : MG), Rel g h → ∀ (H : Heap) (locs : List Loc) (ls : Array Slot) (d0 : Drawn), s.drawn.sameBut d0 lw_cs → WP D a cA cT TC g H → WP D a2 cA cT TM h H → va_S (fun q => s.heap.size ≤ q) s.heap H locs → lv_has ls 8 [(0, .ref b), (1, .ref (a 0)), (2, .ref (a2 0)), (3, .int (nI i))] → W p l e room_1 (s.setDrawn d0) m #[Value.ref b] below meth c H locs 600000 7302250 (lw_Z below #[Value.ref b] s) (F0 m 1142 ls [])) : ∀ (H : Heap) (locs : List Loc) (ls : Array Slot) (d0 : Drawn), s.drawn.sameBut d0 lw_cs → WP D a cA cT TC g H → WP D a2 cA cT TM h H → va_S (fun q => s.heap.size ≤ q) s.heap H locs → lv_has ls 8 [(0, .ref b), (1, .ref (a 0)), (2, .ref (a2 0)), (3, .int (nI i))] → W p l e room_1 (s.setDrawn d0) m #[Value.ref b] below meth c H locs 600000 7302250 (lw_Z below #[Value.ref b] s) (F0 m 749 ls []) := by
  obtain ⟨⟨hx, hb, hr, hml, hown, hts0, hX, hbl, hlocks, hgv⟩, hK, hI, hI2, hap, hA1, hA2, hL⟩ := hC
  have hts : ∀ w ∈ lw_all, w.before #[Value.ref b] s = true := fun w h => hts0 w (lw_all_tbl h)
  have hbA : ¬ (fun q : Nat => s.heap.size ≤ q) b := Nat.not_le.mpr hbl
  have hin1 : vp_in (nI i + (1 : Int32)) L := by rw [nI_1]; exact vp_in_nI (by omega) (by omega)
  have hin2 : vp_in (nI i + (2 : Int32)) L := by rw [show nI i + (2 : Int32) = nI (i + 2) from nI_add i 2]; exact vp_in_nI (by omega) (by omega)
  intro H locs ls d0 hd0 hP1 hP2 hS hl
  obtain ⟨r, hcc, hcm⟩ := hsim g h (xs (nI i + (1 : Int32)).toNatClampNeg) (xs (nI i + (2 : Int32)).toNatClampNeg) hR
  refine lv_aload_n hx hb dL_law_749 rfl (lv_at hl 1 rfl) ?_
  refine lv_aload_n hx hb dL_law_750 rfl (lv_at hl 0 rfl) ?_
  refine lv_iload_n hx hb dL_law_751 rfl (lv_at hl 3 rfl) ?_
  refine lv_iconst (v := (1 : Int32)) hx hb dL_law_752 (by decide) ?_
  refine lv_iadd hx hb dL_law_753 ?_
  refine va_sld (s := s.setDrawn d0) hx hb hX hbl hbA hS hin1 dL_law_754 ?_
  refine lv_aload_n hx hb dL_law_755 rfl (lv_at hl 0 rfl) ?_
  refine lv_iload_n hx hb dL_law_756 rfl (lv_at hl 3 rfl) ?_
  refine lv_iconst (v := (2 : Int32)) hx hb dL_law_757 (by decide) ?_
  refine lv_iadd hx hb dL_law_758 ?_
  refine va_sld (s := s.setDrawn d0) hx hb hX hbl hbA hS hin2 dL_law_759 ?_
  refine y_VI (R := room_1) (s := s.setDrawn d0) (As := [.int (xs (nI i + (1 : Int32)).toNatClampNeg), .int (xs (nI i + (2 : Int32)).toNatClampNeg)]) hx hb hml hown (dr_words hts d0) hK hP1 hS hA1 hP2 (lw_ap (D := D) (a := a2) (fun q h1 h2 => hap q h2 h1)) (ct_X6_slice l D a cA cT hI g (xs (nI i + (1 : Int32)).toNatClampNeg) (xs (nI i + (2 : Int32)).toNatClampNeg) r hcc) tF_0 (C := RX6) (F := TX6) (N := 5) rfl (g_V q578 q579 q580 q70 q581) yd_X6_slice ⟨Nat.le_of_ble_eq_true rfl, Nat.le_of_ble_eq_true rfl⟩ [] rfl (Nat.le_of_ble_eq_true rfl) hl.1 ⟨Nat.le_refl _, Nat.le_refl _⟩ dL_law_760 (fun H locs hP1 hP2 hS => ?_)
  refine lv_aload_n hx hb dL_law_763 rfl (lv_at hl 2 rfl) ?_
  refine lv_aload_n hx hb dL_law_764 rfl (lv_at hl 0 rfl) ?_
  refine lv_iload_n hx hb dL_law_765 rfl (lv_at hl 3 rfl) ?_
  refine lv_iconst (v := (1 : Int32)) hx hb dL_law_766 (by decide) ?_
  refine lv_iadd hx hb dL_law_767 ?_
  refine va_sld (s := s.setDrawn d0) hx hb hX hbl hbA hS hin1 dL_law_768 ?_
  refine lv_aload_n hx hb dL_law_769 rfl (lv_at hl 0 rfl) ?_
  refine lv_iload_n hx hb dL_law_770 rfl (lv_at hl 3 rfl) ?_
  refine lv_iconst (v := (2 : Int32)) hx hb dL_law_771 (by decide) ?_
  refine lv_iadd hx hb dL_law_772 ?_
  refine va_sld (s := s.setDrawn d0) hx hb hX hbl hbA hS hin2 dL_law_773 ?_
  refine y_VI (R := room_1) (s := s.setDrawn d0) (As := [.int (xs (nI i + (1 : Int32)).toNatClampNeg), .int (xs (nI i + (2 : Int32)).toNatClampNeg)]) hx hb hml hown (dr_words hts d0) hK hP2 hS hA2 hP1 (lw_ap (D := D) (a := a) (fun q h1 h2 => hap q h1 h2)) (ct_X7_slice l D a2 cA cT hI2 h (xs (nI i + (1 : Int32)).toNatClampNeg) (xs (nI i + (2 : Int32)).toNatClampNeg) r hcm) tM_0 (C := RX7) (F := TX7) (N := 18) rfl (g_V q1007 q1008 q1009 q77 q1010) yd_X7_slice ⟨Nat.le_of_ble_eq_true rfl, Nat.le_of_ble_eq_true rfl⟩ [.int r] rfl (Nat.le_of_ble_eq_true rfl) hl.1 ⟨Nat.le_refl _, Nat.le_refl _⟩ dL_law_774 (fun H locs hP2 hP1 hS => ?_)
  refine lv_icmp_eq (tgt := 1142) hx hb dL_law_777 (by decide) (fun _ => ?_) (fun hn => absurd rfl hn)
  exact hk g h hR H locs ls d0 hd0 hP1 hP2 hS hl
set_option maxHeartbeats 4000000 in
set_option maxRecDepth 100000 in
theorem lc_22 (hC : LW p s m meth c b L xs D a a2 cA cT) (hsim : Sim_ordered Rel) {i : Nat} (hi : i + 3 ≤ L) {g h : MG} (hR : Rel g h) (hk : ∀ (g h : MG), Rel g h → ∀ (H : Heap) (locs : List Loc) (ls : Array Slot) (d0 : Drawn), s.drawn.sameBut d0 lw_cs → WP D a cA cT TC g H → WP D a2 cA cT TM h H → va_S (fun q => s.heap.size ≤ q) s.heap H locs → lv_has ls 8 [(0, .ref b), (1, .ref (a 0)), (2, .ref (a2 0)), (3, .int (nI i))] → W p l e room_1 (s.setDrawn d0) m #[Value.ref b] below meth c H locs 600000 7302250 (lw_Z below #[Value.ref b] s) (F0 m 1142 ls [])) : ∀ (H : Heap) (locs : List Loc) (ls : Array Slot) (d0 : Drawn), s.drawn.sameBut d0 lw_cs → WP D a cA cT TC g H → WP D a2 cA cT TM h H → va_S (fun q => s.heap.size ≤ q) s.heap H locs → lv_has ls 8 [(0, .ref b), (1, .ref (a 0)), (2, .ref (a2 0)), (3, .int (nI i))] → W p l e room_1 (s.setDrawn d0) m #[Value.ref b] below meth c H locs 600000 7302250 (lw_Z below #[Value.ref b] s) (F0 m 782 ls []) := by
  obtain ⟨⟨hx, hb, hr, hml, hown, hts0, hX, hbl, hlocks, hgv⟩, hK, hI, hI2, hap, hA1, hA2, hL⟩ := hC
  have hts : ∀ w ∈ lw_all, w.before #[Value.ref b] s = true := fun w h => hts0 w (lw_all_tbl h)
  have hbA : ¬ (fun q : Nat => s.heap.size ≤ q) b := Nat.not_le.mpr hbl
  have hin1 : vp_in (nI i + (1 : Int32)) L := by rw [nI_1]; exact vp_in_nI (by omega) (by omega)
  have hin2 : vp_in (nI i + (2 : Int32)) L := by rw [show nI i + (2 : Int32) = nI (i + 2) from nI_add i 2]; exact vp_in_nI (by omega) (by omega)
  intro H locs ls d0 hd0 hP1 hP2 hS hl
  obtain ⟨r, hcc, hcm⟩ := hsim g h (xs (nI i + (1 : Int32)).toNatClampNeg) hR
  refine lv_aload_n hx hb dL_law_782 rfl (lv_at hl 1 rfl) ?_
  refine lv_aload_n hx hb dL_law_783 rfl (lv_at hl 0 rfl) ?_
  refine lv_iload_n hx hb dL_law_784 rfl (lv_at hl 3 rfl) ?_
  refine lv_iconst (v := (1 : Int32)) hx hb dL_law_785 (by decide) ?_
  refine lv_iadd hx hb dL_law_786 ?_
  refine va_sld (s := s.setDrawn d0) hx hb hX hbl hbA hS hin1 dL_law_787 ?_
  refine y_VI (R := room_1) (s := s.setDrawn d0) (As := [.int (xs (nI i + (1 : Int32)).toNatClampNeg)]) hx hb hml hown (dr_words hts d0) hK hP1 hS hA1 hP2 (lw_ap (D := D) (a := a2) (fun q h1 h2 => hap q h2 h1)) (ct_X6_ordered l D a cA cT hI g (xs (nI i + (1 : Int32)).toNatClampNeg) r hcc) tF_0 (C := RX6) (F := TX6) (N := 5) rfl (g_V q604 q605 q606 q70 q607) yd_X6_ordered ⟨Nat.le_of_ble_eq_true rfl, Nat.le_of_ble_eq_true rfl⟩ [] rfl (Nat.le_of_ble_eq_true rfl) hl.1 ⟨Nat.le_refl _, Nat.le_refl _⟩ dL_law_788 (fun H locs hP1 hP2 hS => ?_)
  refine lv_aload_n hx hb dL_law_791 rfl (lv_at hl 2 rfl) ?_
  refine lv_aload_n hx hb dL_law_792 rfl (lv_at hl 0 rfl) ?_
  refine lv_iload_n hx hb dL_law_793 rfl (lv_at hl 3 rfl) ?_
  refine lv_iconst (v := (1 : Int32)) hx hb dL_law_794 (by decide) ?_
  refine lv_iadd hx hb dL_law_795 ?_
  refine va_sld (s := s.setDrawn d0) hx hb hX hbl hbA hS hin1 dL_law_796 ?_
  refine y_VI (R := room_1) (s := s.setDrawn d0) (As := [.int (xs (nI i + (1 : Int32)).toNatClampNeg)]) hx hb hml hown (dr_words hts d0) hK hP2 hS hA2 hP1 (lw_ap (D := D) (a := a) (fun q h1 h2 => hap q h1 h2)) (ct_X7_ordered l D a2 cA cT hI2 h (xs (nI i + (1 : Int32)).toNatClampNeg) r hcm) tM_0 (C := RX7) (F := TX7) (N := 18) rfl (g_V q1014 q1015 q1016 q77 q1017) yd_X7_ordered ⟨Nat.le_of_ble_eq_true rfl, Nat.le_of_ble_eq_true rfl⟩ [.int r] rfl (Nat.le_of_ble_eq_true rfl) hl.1 ⟨Nat.le_refl _, Nat.le_refl _⟩ dL_law_797 (fun H locs hP2 hP1 hS => ?_)
  refine lv_icmp_eq (tgt := 1142) hx hb dL_law_800 (by decide) (fun _ => ?_) (fun hn => absurd rfl hn)
  exact hk g h hR H locs ls d0 hd0 hP1 hP2 hS hl
set_option maxHeartbeats 4000000 in
set_option maxRecDepth 100000 in
theorem lc_23 (hC : LW p s m meth c b L xs D a a2 cA cT) (hsim : Sim_lies Rel) {i : Nat} (hi : i + 3 ≤ L) {g h : MG} (hR : Rel g h) (hk : ∀ (g h : MG), Rel g h → ∀ (H : Heap) (locs : List Loc) (ls : Array Slot) (d0 : Drawn), s.drawn.sameBut d0 lw_cs → WP D a cA cT TC g H → WP D a2 cA cT TM h H → va_S (fun q => s.heap.size ≤ q) s.heap H locs → lv_has ls 8 [(0, .ref b), (1, .ref (a 0)), (2, .ref (a2 0)), (3, .int (nI i))] → W p l e room_1 (s.setDrawn d0) m #[Value.ref b] below meth c H locs 600000 7302250 (lw_Z below #[Value.ref b] s) (F0 m 1142 ls [])) : ∀ (H : Heap) (locs : List Loc) (ls : Array Slot) (d0 : Drawn), s.drawn.sameBut d0 lw_cs → WP D a cA cT TC g H → WP D a2 cA cT TM h H → va_S (fun q => s.heap.size ≤ q) s.heap H locs → lv_has ls 8 [(0, .ref b), (1, .ref (a 0)), (2, .ref (a2 0)), (3, .int (nI i))] → W p l e room_1 (s.setDrawn d0) m #[Value.ref b] below meth c H locs 600000 7302250 (lw_Z below #[Value.ref b] s) (F0 m 805 ls []) := by
  obtain ⟨⟨hx, hb, hr, hml, hown, hts0, hX, hbl, hlocks, hgv⟩, hK, hI, hI2, hap, hA1, hA2, hL⟩ := hC
  have hts : ∀ w ∈ lw_all, w.before #[Value.ref b] s = true := fun w h => hts0 w (lw_all_tbl h)
  have hbA : ¬ (fun q : Nat => s.heap.size ≤ q) b := Nat.not_le.mpr hbl
  have hin1 : vp_in (nI i + (1 : Int32)) L := by rw [nI_1]; exact vp_in_nI (by omega) (by omega)
  have hin2 : vp_in (nI i + (2 : Int32)) L := by rw [show nI i + (2 : Int32) = nI (i + 2) from nI_add i 2]; exact vp_in_nI (by omega) (by omega)
  intro H locs ls d0 hd0 hP1 hP2 hS hl
  obtain ⟨r, hcc, hcm⟩ := hsim g h (xs (nI i + (1 : Int32)).toNatClampNeg) (xs (nI i + (2 : Int32)).toNatClampNeg) hR
  refine lv_aload_n hx hb dL_law_805 rfl (lv_at hl 1 rfl) ?_
  refine lv_aload_n hx hb dL_law_806 rfl (lv_at hl 0 rfl) ?_
  refine lv_iload_n hx hb dL_law_807 rfl (lv_at hl 3 rfl) ?_
  refine lv_iconst (v := (1 : Int32)) hx hb dL_law_808 (by decide) ?_
  refine lv_iadd hx hb dL_law_809 ?_
  refine va_sld (s := s.setDrawn d0) hx hb hX hbl hbA hS hin1 dL_law_810 ?_
  refine lv_aload_n hx hb dL_law_811 rfl (lv_at hl 0 rfl) ?_
  refine lv_iload_n hx hb dL_law_812 rfl (lv_at hl 3 rfl) ?_
  refine lv_iconst (v := (2 : Int32)) hx hb dL_law_813 (by decide) ?_
  refine lv_iadd hx hb dL_law_814 ?_
  refine va_sld (s := s.setDrawn d0) hx hb hX hbl hbA hS hin2 dL_law_815 ?_
  refine y_VI (R := room_1) (s := s.setDrawn d0) (As := [.int (xs (nI i + (1 : Int32)).toNatClampNeg), .int (xs (nI i + (2 : Int32)).toNatClampNeg)]) hx hb hml hown (dr_words hts d0) hK hP1 hS hA1 hP2 (lw_ap (D := D) (a := a2) (fun q h1 h2 => hap q h2 h1)) (ct_X6_lies l D a cA cT hI g (xs (nI i + (1 : Int32)).toNatClampNeg) (xs (nI i + (2 : Int32)).toNatClampNeg) r hcc) tF_0 (C := RX6) (F := TX6) (N := 5) rfl (g_V q609 q610 q611 q70 q612) yd_X6_lies ⟨Nat.le_of_ble_eq_true rfl, Nat.le_of_ble_eq_true rfl⟩ [] rfl (Nat.le_of_ble_eq_true rfl) hl.1 ⟨Nat.le_refl _, Nat.le_refl _⟩ dL_law_816 (fun H locs hP1 hP2 hS => ?_)
  refine lv_aload_n hx hb dL_law_819 rfl (lv_at hl 2 rfl) ?_
  refine lv_aload_n hx hb dL_law_820 rfl (lv_at hl 0 rfl) ?_
  refine lv_iload_n hx hb dL_law_821 rfl (lv_at hl 3 rfl) ?_
  refine lv_iconst (v := (1 : Int32)) hx hb dL_law_822 (by decide) ?_
  refine lv_iadd hx hb dL_law_823 ?_
  refine va_sld (s := s.setDrawn d0) hx hb hX hbl hbA hS hin1 dL_law_824 ?_
  refine lv_aload_n hx hb dL_law_825 rfl (lv_at hl 0 rfl) ?_
  refine lv_iload_n hx hb dL_law_826 rfl (lv_at hl 3 rfl) ?_
  refine lv_iconst (v := (2 : Int32)) hx hb dL_law_827 (by decide) ?_
  refine lv_iadd hx hb dL_law_828 ?_
  refine va_sld (s := s.setDrawn d0) hx hb hX hbl hbA hS hin2 dL_law_829 ?_
  refine y_VI (R := room_1) (s := s.setDrawn d0) (As := [.int (xs (nI i + (1 : Int32)).toNatClampNeg), .int (xs (nI i + (2 : Int32)).toNatClampNeg)]) hx hb hml hown (dr_words hts d0) hK hP2 hS hA2 hP1 (lw_ap (D := D) (a := a) (fun q h1 h2 => hap q h1 h2)) (ct_X7_lies l D a2 cA cT hI2 h (xs (nI i + (1 : Int32)).toNatClampNeg) (xs (nI i + (2 : Int32)).toNatClampNeg) r hcm) tM_0 (C := RX7) (F := TX7) (N := 18) rfl (g_V q1018 q1019 q1020 q77 q1021) yd_X7_lies ⟨Nat.le_of_ble_eq_true rfl, Nat.le_of_ble_eq_true rfl⟩ [.int r] rfl (Nat.le_of_ble_eq_true rfl) hl.1 ⟨Nat.le_refl _, Nat.le_refl _⟩ dL_law_830 (fun H locs hP2 hP1 hS => ?_)
  refine lv_icmp_eq (tgt := 1142) hx hb dL_law_833 (by decide) (fun _ => ?_) (fun hn => absurd rfl hn)
  exact hk g h hR H locs ls d0 hd0 hP1 hP2 hS hl
set_option maxHeartbeats 4000000 in
set_option maxRecDepth 100000 in
theorem lc_24 (hC : LW p s m meth c b L xs D a a2 cA cT) (hsim : Sim_belongs Rel) {i : Nat} (hi : i + 3 ≤ L) {g h : MG} (hR : Rel g h) (hk : ∀ (g h : MG), Rel g h → ∀ (H : Heap) (locs : List Loc) (ls : Array Slot) (d0 : Drawn), s.drawn.sameBut d0 lw_cs → WP D a cA cT TC g H → WP D a2 cA cT TM h H → va_S (fun q => s.heap.size ≤ q) s.heap H locs → lv_has ls 8 [(0, .ref b), (1, .ref (a 0)), (2, .ref (a2 0)), (3, .int (nI i))] → W p l e room_1 (s.setDrawn d0) m #[Value.ref b] below meth c H locs 600000 7302250 (lw_Z below #[Value.ref b] s) (F0 m 1142 ls [])) : ∀ (H : Heap) (locs : List Loc) (ls : Array Slot) (d0 : Drawn), s.drawn.sameBut d0 lw_cs → WP D a cA cT TC g H → WP D a2 cA cT TM h H → va_S (fun q => s.heap.size ≤ q) s.heap H locs → lv_has ls 8 [(0, .ref b), (1, .ref (a 0)), (2, .ref (a2 0)), (3, .int (nI i))] → W p l e room_1 (s.setDrawn d0) m #[Value.ref b] below meth c H locs 600000 7302250 (lw_Z below #[Value.ref b] s) (F0 m 838 ls []) := by
  obtain ⟨⟨hx, hb, hr, hml, hown, hts0, hX, hbl, hlocks, hgv⟩, hK, hI, hI2, hap, hA1, hA2, hL⟩ := hC
  have hts : ∀ w ∈ lw_all, w.before #[Value.ref b] s = true := fun w h => hts0 w (lw_all_tbl h)
  have hbA : ¬ (fun q : Nat => s.heap.size ≤ q) b := Nat.not_le.mpr hbl
  have hin1 : vp_in (nI i + (1 : Int32)) L := by rw [nI_1]; exact vp_in_nI (by omega) (by omega)
  have hin2 : vp_in (nI i + (2 : Int32)) L := by rw [show nI i + (2 : Int32) = nI (i + 2) from nI_add i 2]; exact vp_in_nI (by omega) (by omega)
  intro H locs ls d0 hd0 hP1 hP2 hS hl
  obtain ⟨r, hcc, hcm⟩ := hsim g h (xs (nI i + (1 : Int32)).toNatClampNeg) hR
  refine lv_aload_n hx hb dL_law_838 rfl (lv_at hl 1 rfl) ?_
  refine lv_aload_n hx hb dL_law_839 rfl (lv_at hl 0 rfl) ?_
  refine lv_iload_n hx hb dL_law_840 rfl (lv_at hl 3 rfl) ?_
  refine lv_iconst (v := (1 : Int32)) hx hb dL_law_841 (by decide) ?_
  refine lv_iadd hx hb dL_law_842 ?_
  refine va_sld (s := s.setDrawn d0) hx hb hX hbl hbA hS hin1 dL_law_843 ?_
  refine y_VI (R := room_1) (s := s.setDrawn d0) (As := [.int (xs (nI i + (1 : Int32)).toNatClampNeg)]) hx hb hml hown (dr_words hts d0) hK hP1 hS hA1 hP2 (lw_ap (D := D) (a := a2) (fun q h1 h2 => hap q h2 h1)) (ct_X6_belongs l D a cA cT hI g (xs (nI i + (1 : Int32)).toNatClampNeg) r hcc) tF_0 (C := RX6) (F := TX6) (N := 5) rfl (g_V q613 q614 q615 q70 q616) yd_X6_belongs ⟨Nat.le_of_ble_eq_true rfl, Nat.le_of_ble_eq_true rfl⟩ [] rfl (Nat.le_of_ble_eq_true rfl) hl.1 ⟨Nat.le_refl _, Nat.le_refl _⟩ dL_law_844 (fun H locs hP1 hP2 hS => ?_)
  refine lv_aload_n hx hb dL_law_847 rfl (lv_at hl 2 rfl) ?_
  refine lv_aload_n hx hb dL_law_848 rfl (lv_at hl 0 rfl) ?_
  refine lv_iload_n hx hb dL_law_849 rfl (lv_at hl 3 rfl) ?_
  refine lv_iconst (v := (1 : Int32)) hx hb dL_law_850 (by decide) ?_
  refine lv_iadd hx hb dL_law_851 ?_
  refine va_sld (s := s.setDrawn d0) hx hb hX hbl hbA hS hin1 dL_law_852 ?_
  refine y_VI (R := room_1) (s := s.setDrawn d0) (As := [.int (xs (nI i + (1 : Int32)).toNatClampNeg)]) hx hb hml hown (dr_words hts d0) hK hP2 hS hA2 hP1 (lw_ap (D := D) (a := a) (fun q h1 h2 => hap q h1 h2)) (ct_X7_belongs l D a2 cA cT hI2 h (xs (nI i + (1 : Int32)).toNatClampNeg) r hcm) tM_0 (C := RX7) (F := TX7) (N := 18) rfl (g_V q1022 q1023 q1024 q77 q1025) yd_X7_belongs ⟨Nat.le_of_ble_eq_true rfl, Nat.le_of_ble_eq_true rfl⟩ [.int r] rfl (Nat.le_of_ble_eq_true rfl) hl.1 ⟨Nat.le_refl _, Nat.le_refl _⟩ dL_law_853 (fun H locs hP2 hP1 hS => ?_)
  refine lv_icmp_eq (tgt := 1142) hx hb dL_law_856 (by decide) (fun _ => ?_) (fun hn => absurd rfl hn)
  exact hk g h hR H locs ls d0 hd0 hP1 hP2 hS hl
set_option maxHeartbeats 4000000 in
set_option maxRecDepth 100000 in
theorem lc_25 (hC : LW p s m meth c b L xs D a a2 cA cT) (hsim : Sim_gap Rel) {i : Nat} (hi : i + 3 ≤ L) {g h : MG} (hR : Rel g h) (hk : ∀ (g h : MG), Rel g h → ∀ (H : Heap) (locs : List Loc) (ls : Array Slot) (d0 : Drawn), s.drawn.sameBut d0 lw_cs → WP D a cA cT TC g H → WP D a2 cA cT TM h H → va_S (fun q => s.heap.size ≤ q) s.heap H locs → lv_has ls 8 [(0, .ref b), (1, .ref (a 0)), (2, .ref (a2 0)), (3, .int (nI i))] → W p l e room_1 (s.setDrawn d0) m #[Value.ref b] below meth c H locs 600000 7302250 (lw_Z below #[Value.ref b] s) (F0 m 1142 ls [])) : ∀ (H : Heap) (locs : List Loc) (ls : Array Slot) (d0 : Drawn), s.drawn.sameBut d0 lw_cs → WP D a cA cT TC g H → WP D a2 cA cT TM h H → va_S (fun q => s.heap.size ≤ q) s.heap H locs → lv_has ls 8 [(0, .ref b), (1, .ref (a 0)), (2, .ref (a2 0)), (3, .int (nI i))] → W p l e room_1 (s.setDrawn d0) m #[Value.ref b] below meth c H locs 600000 7302250 (lw_Z below #[Value.ref b] s) (F0 m 861 ls []) := by
  obtain ⟨⟨hx, hb, hr, hml, hown, hts0, hX, hbl, hlocks, hgv⟩, hK, hI, hI2, hap, hA1, hA2, hL⟩ := hC
  have hts : ∀ w ∈ lw_all, w.before #[Value.ref b] s = true := fun w h => hts0 w (lw_all_tbl h)
  have hbA : ¬ (fun q : Nat => s.heap.size ≤ q) b := Nat.not_le.mpr hbl
  have hin1 : vp_in (nI i + (1 : Int32)) L := by rw [nI_1]; exact vp_in_nI (by omega) (by omega)
  have hin2 : vp_in (nI i + (2 : Int32)) L := by rw [show nI i + (2 : Int32) = nI (i + 2) from nI_add i 2]; exact vp_in_nI (by omega) (by omega)
  intro H locs ls d0 hd0 hP1 hP2 hS hl
  obtain ⟨r, hcc, hcm⟩ := hsim g h (xs (nI i + (1 : Int32)).toNatClampNeg) (xs (nI i + (2 : Int32)).toNatClampNeg) hR
  refine lv_aload_n hx hb dL_law_861 rfl (lv_at hl 1 rfl) ?_
  refine lv_aload_n hx hb dL_law_862 rfl (lv_at hl 0 rfl) ?_
  refine lv_iload_n hx hb dL_law_863 rfl (lv_at hl 3 rfl) ?_
  refine lv_iconst (v := (1 : Int32)) hx hb dL_law_864 (by decide) ?_
  refine lv_iadd hx hb dL_law_865 ?_
  refine va_sld (s := s.setDrawn d0) hx hb hX hbl hbA hS hin1 dL_law_866 ?_
  refine lv_aload_n hx hb dL_law_867 rfl (lv_at hl 0 rfl) ?_
  refine lv_iload_n hx hb dL_law_868 rfl (lv_at hl 3 rfl) ?_
  refine lv_iconst (v := (2 : Int32)) hx hb dL_law_869 (by decide) ?_
  refine lv_iadd hx hb dL_law_870 ?_
  refine va_sld (s := s.setDrawn d0) hx hb hX hbl hbA hS hin2 dL_law_871 ?_
  refine y_VI (R := room_1) (s := s.setDrawn d0) (As := [.int (xs (nI i + (1 : Int32)).toNatClampNeg), .int (xs (nI i + (2 : Int32)).toNatClampNeg)]) hx hb hml hown (dr_words hts d0) hK hP1 hS hA1 hP2 (lw_ap (D := D) (a := a2) (fun q h1 h2 => hap q h2 h1)) (ct_X6_gap l D a cA cT hI g (xs (nI i + (1 : Int32)).toNatClampNeg) (xs (nI i + (2 : Int32)).toNatClampNeg) r hcc) tF_0 (C := RX6) (F := TX6) (N := 5) rfl (g_V q617 q618 q619 q70 q620) yd_X6_gap ⟨Nat.le_of_ble_eq_true rfl, Nat.le_of_ble_eq_true rfl⟩ [] rfl (Nat.le_of_ble_eq_true rfl) hl.1 ⟨Nat.le_refl _, Nat.le_refl _⟩ dL_law_872 (fun H locs hP1 hP2 hS => ?_)
  refine lv_aload_n hx hb dL_law_875 rfl (lv_at hl 2 rfl) ?_
  refine lv_aload_n hx hb dL_law_876 rfl (lv_at hl 0 rfl) ?_
  refine lv_iload_n hx hb dL_law_877 rfl (lv_at hl 3 rfl) ?_
  refine lv_iconst (v := (1 : Int32)) hx hb dL_law_878 (by decide) ?_
  refine lv_iadd hx hb dL_law_879 ?_
  refine va_sld (s := s.setDrawn d0) hx hb hX hbl hbA hS hin1 dL_law_880 ?_
  refine lv_aload_n hx hb dL_law_881 rfl (lv_at hl 0 rfl) ?_
  refine lv_iload_n hx hb dL_law_882 rfl (lv_at hl 3 rfl) ?_
  refine lv_iconst (v := (2 : Int32)) hx hb dL_law_883 (by decide) ?_
  refine lv_iadd hx hb dL_law_884 ?_
  refine va_sld (s := s.setDrawn d0) hx hb hX hbl hbA hS hin2 dL_law_885 ?_
  refine y_VI (R := room_1) (s := s.setDrawn d0) (As := [.int (xs (nI i + (1 : Int32)).toNatClampNeg), .int (xs (nI i + (2 : Int32)).toNatClampNeg)]) hx hb hml hown (dr_words hts d0) hK hP2 hS hA2 hP1 (lw_ap (D := D) (a := a) (fun q h1 h2 => hap q h1 h2)) (ct_X7_gap l D a2 cA cT hI2 h (xs (nI i + (1 : Int32)).toNatClampNeg) (xs (nI i + (2 : Int32)).toNatClampNeg) r hcm) tM_0 (C := RX7) (F := TX7) (N := 18) rfl (g_V q1026 q1027 q1028 q77 q1029) yd_X7_gap ⟨Nat.le_of_ble_eq_true rfl, Nat.le_of_ble_eq_true rfl⟩ [.int r] rfl (Nat.le_of_ble_eq_true rfl) hl.1 ⟨Nat.le_refl _, Nat.le_refl _⟩ dL_law_886 (fun H locs hP2 hP1 hS => ?_)
  refine lv_icmp_eq (tgt := 1142) hx hb dL_law_889 (by decide) (fun _ => ?_) (fun hn => absurd rfl hn)
  exact hk g h hR H locs ls d0 hd0 hP1 hP2 hS hl
set_option maxHeartbeats 4000000 in
set_option maxRecDepth 100000 in
theorem lc_26 (hC : LW p s m meth c b L xs D a a2 cA cT) (hsim : Sim_stray Rel) {i : Nat} (hi : i + 3 ≤ L) {g h : MG} (hR : Rel g h) (hk : ∀ (g h : MG), Rel g h → ∀ (H : Heap) (locs : List Loc) (ls : Array Slot) (d0 : Drawn), s.drawn.sameBut d0 lw_cs → WP D a cA cT TC g H → WP D a2 cA cT TM h H → va_S (fun q => s.heap.size ≤ q) s.heap H locs → lv_has ls 8 [(0, .ref b), (1, .ref (a 0)), (2, .ref (a2 0)), (3, .int (nI i))] → W p l e room_1 (s.setDrawn d0) m #[Value.ref b] below meth c H locs 600000 7302250 (lw_Z below #[Value.ref b] s) (F0 m 1142 ls [])) : ∀ (H : Heap) (locs : List Loc) (ls : Array Slot) (d0 : Drawn), s.drawn.sameBut d0 lw_cs → WP D a cA cT TC g H → WP D a2 cA cT TM h H → va_S (fun q => s.heap.size ≤ q) s.heap H locs → lv_has ls 8 [(0, .ref b), (1, .ref (a 0)), (2, .ref (a2 0)), (3, .int (nI i))] → W p l e room_1 (s.setDrawn d0) m #[Value.ref b] below meth c H locs 600000 7302250 (lw_Z below #[Value.ref b] s) (F0 m 894 ls []) := by
  obtain ⟨⟨hx, hb, hr, hml, hown, hts0, hX, hbl, hlocks, hgv⟩, hK, hI, hI2, hap, hA1, hA2, hL⟩ := hC
  have hts : ∀ w ∈ lw_all, w.before #[Value.ref b] s = true := fun w h => hts0 w (lw_all_tbl h)
  have hbA : ¬ (fun q : Nat => s.heap.size ≤ q) b := Nat.not_le.mpr hbl
  have hin1 : vp_in (nI i + (1 : Int32)) L := by rw [nI_1]; exact vp_in_nI (by omega) (by omega)
  have hin2 : vp_in (nI i + (2 : Int32)) L := by rw [show nI i + (2 : Int32) = nI (i + 2) from nI_add i 2]; exact vp_in_nI (by omega) (by omega)
  intro H locs ls d0 hd0 hP1 hP2 hS hl
  obtain ⟨r, hcc, hcm⟩ := hsim g h (xs (nI i + (1 : Int32)).toNatClampNeg) hR
  refine lv_aload_n hx hb dL_law_894 rfl (lv_at hl 1 rfl) ?_
  refine lv_aload_n hx hb dL_law_895 rfl (lv_at hl 0 rfl) ?_
  refine lv_iload_n hx hb dL_law_896 rfl (lv_at hl 3 rfl) ?_
  refine lv_iconst (v := (1 : Int32)) hx hb dL_law_897 (by decide) ?_
  refine lv_iadd hx hb dL_law_898 ?_
  refine va_sld (s := s.setDrawn d0) hx hb hX hbl hbA hS hin1 dL_law_899 ?_
  refine y_VI (R := room_1) (s := s.setDrawn d0) (As := [.int (xs (nI i + (1 : Int32)).toNatClampNeg)]) hx hb hml hown (dr_words hts d0) hK hP1 hS hA1 hP2 (lw_ap (D := D) (a := a2) (fun q h1 h2 => hap q h2 h1)) (ct_X6_stray l D a cA cT hI g (xs (nI i + (1 : Int32)).toNatClampNeg) r hcc) tF_0 (C := RX6) (F := TX6) (N := 5) rfl (g_V q627 q628 q629 q70 q630) yd_X6_stray ⟨Nat.le_of_ble_eq_true rfl, Nat.le_of_ble_eq_true rfl⟩ [] rfl (Nat.le_of_ble_eq_true rfl) hl.1 ⟨Nat.le_refl _, Nat.le_refl _⟩ dL_law_900 (fun H locs hP1 hP2 hS => ?_)
  refine lv_aload_n hx hb dL_law_903 rfl (lv_at hl 2 rfl) ?_
  refine lv_aload_n hx hb dL_law_904 rfl (lv_at hl 0 rfl) ?_
  refine lv_iload_n hx hb dL_law_905 rfl (lv_at hl 3 rfl) ?_
  refine lv_iconst (v := (1 : Int32)) hx hb dL_law_906 (by decide) ?_
  refine lv_iadd hx hb dL_law_907 ?_
  refine va_sld (s := s.setDrawn d0) hx hb hX hbl hbA hS hin1 dL_law_908 ?_
  refine y_VI (R := room_1) (s := s.setDrawn d0) (As := [.int (xs (nI i + (1 : Int32)).toNatClampNeg)]) hx hb hml hown (dr_words hts d0) hK hP2 hS hA2 hP1 (lw_ap (D := D) (a := a) (fun q h1 h2 => hap q h1 h2)) (ct_X7_stray l D a2 cA cT hI2 h (xs (nI i + (1 : Int32)).toNatClampNeg) r hcm) tM_0 (C := RX7) (F := TX7) (N := 18) rfl (g_V q1030 q1031 q1032 q77 q1033) yd_X7_stray ⟨Nat.le_of_ble_eq_true rfl, Nat.le_of_ble_eq_true rfl⟩ [.int r] rfl (Nat.le_of_ble_eq_true rfl) hl.1 ⟨Nat.le_refl _, Nat.le_refl _⟩ dL_law_909 (fun H locs hP2 hP1 hS => ?_)
  refine lv_icmp_eq (tgt := 1142) hx hb dL_law_912 (by decide) (fun _ => ?_) (fun hn => absurd rfl hn)
  exact hk g h hR H locs ls d0 hd0 hP1 hP2 hS hl
set_option maxHeartbeats 4000000 in
set_option maxRecDepth 100000 in
theorem lc_27 (hC : LW p s m meth c b L xs D a a2 cA cT) (hsim : Sim_count Rel) {i : Nat} (hi : i + 3 ≤ L) {g h : MG} (hR : Rel g h) (hk : ∀ (g h : MG), Rel g h → ∀ (H : Heap) (locs : List Loc) (ls : Array Slot) (d0 : Drawn), s.drawn.sameBut d0 lw_cs → WP D a cA cT TC g H → WP D a2 cA cT TM h H → va_S (fun q => s.heap.size ≤ q) s.heap H locs → lv_has ls 8 [(0, .ref b), (1, .ref (a 0)), (2, .ref (a2 0)), (3, .int (nI i))] → W p l e room_1 (s.setDrawn d0) m #[Value.ref b] below meth c H locs 600000 7302250 (lw_Z below #[Value.ref b] s) (F0 m 1142 ls [])) : ∀ (H : Heap) (locs : List Loc) (ls : Array Slot) (d0 : Drawn), s.drawn.sameBut d0 lw_cs → WP D a cA cT TC g H → WP D a2 cA cT TM h H → va_S (fun q => s.heap.size ≤ q) s.heap H locs → lv_has ls 8 [(0, .ref b), (1, .ref (a 0)), (2, .ref (a2 0)), (3, .int (nI i))] → W p l e room_1 (s.setDrawn d0) m #[Value.ref b] below meth c H locs 600000 7302250 (lw_Z below #[Value.ref b] s) (F0 m 917 ls []) := by
  obtain ⟨⟨hx, hb, hr, hml, hown, hts0, hX, hbl, hlocks, hgv⟩, hK, hI, hI2, hap, hA1, hA2, hL⟩ := hC
  have hts : ∀ w ∈ lw_all, w.before #[Value.ref b] s = true := fun w h => hts0 w (lw_all_tbl h)
  have hbA : ¬ (fun q : Nat => s.heap.size ≤ q) b := Nat.not_le.mpr hbl
  have hin1 : vp_in (nI i + (1 : Int32)) L := by rw [nI_1]; exact vp_in_nI (by omega) (by omega)
  have hin2 : vp_in (nI i + (2 : Int32)) L := by rw [show nI i + (2 : Int32) = nI (i + 2) from nI_add i 2]; exact vp_in_nI (by omega) (by omega)
  intro H locs ls d0 hd0 hP1 hP2 hS hl
  obtain ⟨r, hcc, hcm⟩ := hsim g h (xs (nI i + (1 : Int32)).toNatClampNeg) hR
  refine lv_aload_n hx hb dL_law_917 rfl (lv_at hl 1 rfl) ?_
  refine lv_aload_n hx hb dL_law_918 rfl (lv_at hl 0 rfl) ?_
  refine lv_iload_n hx hb dL_law_919 rfl (lv_at hl 3 rfl) ?_
  refine lv_iconst (v := (1 : Int32)) hx hb dL_law_920 (by decide) ?_
  refine lv_iadd hx hb dL_law_921 ?_
  refine va_sld (s := s.setDrawn d0) hx hb hX hbl hbA hS hin1 dL_law_922 ?_
  refine y_VI (R := room_1) (s := s.setDrawn d0) (As := [.int (xs (nI i + (1 : Int32)).toNatClampNeg)]) hx hb hml hown (dr_words hts d0) hK hP1 hS hA1 hP2 (lw_ap (D := D) (a := a2) (fun q h1 h2 => hap q h2 h1)) (ct_X6_count l D a cA cT hI g (xs (nI i + (1 : Int32)).toNatClampNeg) r hcc) tF_0 (C := RX6) (F := TX6) (N := 5) rfl (g_V q631 q632 q633 q70 q634) yd_X6_count ⟨Nat.le_of_ble_eq_true rfl, Nat.le_of_ble_eq_true rfl⟩ [] rfl (Nat.le_of_ble_eq_true rfl) hl.1 ⟨Nat.le_refl _, Nat.le_refl _⟩ dL_law_923 (fun H locs hP1 hP2 hS => ?_)
  refine lv_aload_n hx hb dL_law_926 rfl (lv_at hl 2 rfl) ?_
  refine lv_aload_n hx hb dL_law_927 rfl (lv_at hl 0 rfl) ?_
  refine lv_iload_n hx hb dL_law_928 rfl (lv_at hl 3 rfl) ?_
  refine lv_iconst (v := (1 : Int32)) hx hb dL_law_929 (by decide) ?_
  refine lv_iadd hx hb dL_law_930 ?_
  refine va_sld (s := s.setDrawn d0) hx hb hX hbl hbA hS hin1 dL_law_931 ?_
  refine y_VI (R := room_1) (s := s.setDrawn d0) (As := [.int (xs (nI i + (1 : Int32)).toNatClampNeg)]) hx hb hml hown (dr_words hts d0) hK hP2 hS hA2 hP1 (lw_ap (D := D) (a := a) (fun q h1 h2 => hap q h1 h2)) (ct_X7_count l D a2 cA cT hI2 h (xs (nI i + (1 : Int32)).toNatClampNeg) r hcm) tM_0 (C := RX7) (F := TX7) (N := 18) rfl (g_V q1034 q1035 q1036 q77 q1037) yd_X7_count ⟨Nat.le_of_ble_eq_true rfl, Nat.le_of_ble_eq_true rfl⟩ [.int r] rfl (Nat.le_of_ble_eq_true rfl) hl.1 ⟨Nat.le_refl _, Nat.le_refl _⟩ dL_law_932 (fun H locs hP2 hP1 hS => ?_)
  refine lv_icmp_eq (tgt := 1142) hx hb dL_law_935 (by decide) (fun _ => ?_) (fun hn => absurd rfl hn)
  exact hk g h hR H locs ls d0 hd0 hP1 hP2 hS hl
set_option maxHeartbeats 4000000 in
set_option maxRecDepth 100000 in
theorem lc_28 (hC : LW p s m meth c b L xs D a a2 cA cT) (hsim : Sim_ask Rel) {i : Nat} (hi : i + 3 ≤ L) {g h : MG} (hR : Rel g h) (hk : ∀ (g h : MG), Rel g h → ∀ (H : Heap) (locs : List Loc) (ls : Array Slot) (d0 : Drawn), s.drawn.sameBut d0 lw_cs → WP D a cA cT TC g H → WP D a2 cA cT TM h H → va_S (fun q => s.heap.size ≤ q) s.heap H locs → lv_has ls 8 [(0, .ref b), (1, .ref (a 0)), (2, .ref (a2 0)), (3, .int (nI i))] → W p l e room_1 (s.setDrawn d0) m #[Value.ref b] below meth c H locs 600000 7302250 (lw_Z below #[Value.ref b] s) (F0 m 1142 ls [])) : ∀ (H : Heap) (locs : List Loc) (ls : Array Slot) (d0 : Drawn), s.drawn.sameBut d0 lw_cs → WP D a cA cT TC g H → WP D a2 cA cT TM h H → va_S (fun q => s.heap.size ≤ q) s.heap H locs → lv_has ls 8 [(0, .ref b), (1, .ref (a 0)), (2, .ref (a2 0)), (3, .int (nI i))] → W p l e room_1 (s.setDrawn d0) m #[Value.ref b] below meth c H locs 600000 7302250 (lw_Z below #[Value.ref b] s) (F0 m 940 ls []) := by
  obtain ⟨⟨hx, hb, hr, hml, hown, hts0, hX, hbl, hlocks, hgv⟩, hK, hI, hI2, hap, hA1, hA2, hL⟩ := hC
  have hts : ∀ w ∈ lw_all, w.before #[Value.ref b] s = true := fun w h => hts0 w (lw_all_tbl h)
  have hbA : ¬ (fun q : Nat => s.heap.size ≤ q) b := Nat.not_le.mpr hbl
  have hin1 : vp_in (nI i + (1 : Int32)) L := by rw [nI_1]; exact vp_in_nI (by omega) (by omega)
  have hin2 : vp_in (nI i + (2 : Int32)) L := by rw [show nI i + (2 : Int32) = nI (i + 2) from nI_add i 2]; exact vp_in_nI (by omega) (by omega)
  intro H locs ls d0 hd0 hP1 hP2 hS hl
  obtain ⟨r, g', h', hcc, hcm, hR2⟩ := hsim g h (xs (nI i + (1 : Int32)).toNatClampNeg) hR
  refine lv_aload_n hx hb dL_law_940 rfl (lv_at hl 1 rfl) ?_
  refine lv_aload_n hx hb dL_law_941 rfl (lv_at hl 0 rfl) ?_
  refine lv_iload_n hx hb dL_law_942 rfl (lv_at hl 3 rfl) ?_
  refine lv_iconst (v := (1 : Int32)) hx hb dL_law_943 (by decide) ?_
  refine lv_iadd hx hb dL_law_944 ?_
  refine va_sld (s := s.setDrawn d0) hx hb hX hbl hbA hS hin1 dL_law_945 ?_
  refine y_VI (R := room_1) (s := s.setDrawn d0) (As := [.int (xs (nI i + (1 : Int32)).toNatClampNeg)]) hx hb hml hown (dr_words hts d0) hK hP1 hS hA1 hP2 (lw_ap (D := D) (a := a2) (fun q h1 h2 => hap q h2 h1)) (ct_X6_ask l D a cA cT hI g (xs (nI i + (1 : Int32)).toNatClampNeg) r g' hcc) tF_0 (C := RX6) (F := TX6) (N := 5) rfl (g_V q644 q645 q646 q70 q647) yd_X6_ask ⟨Nat.le_of_ble_eq_true rfl, Nat.le_of_ble_eq_true rfl⟩ [] rfl (Nat.le_of_ble_eq_true rfl) hl.1 ⟨Nat.le_refl _, Nat.le_refl _⟩ dL_law_946 (fun H locs hP1 hP2 hS => ?_)
  refine lv_aload_n hx hb dL_law_949 rfl (lv_at hl 2 rfl) ?_
  refine lv_aload_n hx hb dL_law_950 rfl (lv_at hl 0 rfl) ?_
  refine lv_iload_n hx hb dL_law_951 rfl (lv_at hl 3 rfl) ?_
  refine lv_iconst (v := (1 : Int32)) hx hb dL_law_952 (by decide) ?_
  refine lv_iadd hx hb dL_law_953 ?_
  refine va_sld (s := s.setDrawn d0) hx hb hX hbl hbA hS hin1 dL_law_954 ?_
  refine y_VI (R := room_1) (s := s.setDrawn d0) (As := [.int (xs (nI i + (1 : Int32)).toNatClampNeg)]) hx hb hml hown (dr_words hts d0) hK hP2 hS hA2 hP1 (lw_ap (D := D) (a := a) (fun q h1 h2 => hap q h1 h2)) (ct_X7_ask l D a2 cA cT hI2 h (xs (nI i + (1 : Int32)).toNatClampNeg) r h' hcm) tM_0 (C := RX7) (F := TX7) (N := 18) rfl (g_V q949 q950 q951 q77 q952) yd_X7_ask ⟨Nat.le_of_ble_eq_true rfl, Nat.le_of_ble_eq_true rfl⟩ [.int r] rfl (Nat.le_of_ble_eq_true rfl) hl.1 ⟨Nat.le_refl _, Nat.le_refl _⟩ dL_law_955 (fun H locs hP2 hP1 hS => ?_)
  refine lv_icmp_eq (tgt := 1142) hx hb dL_law_958 (by decide) (fun _ => ?_) (fun hn => absurd rfl hn)
  exact hk g' h' hR2 H locs ls d0 hd0 hP1 hP2 hS hl
set_option maxHeartbeats 4000000 in
set_option maxRecDepth 100000 in
theorem lc_29 (hC : LW p s m meth c b L xs D a a2 cA cT) (hsim : Sim_answer Rel) {i : Nat} (hi : i + 3 ≤ L) {g h : MG} (hR : Rel g h) (hk : ∀ (g h : MG), Rel g h → ∀ (H : Heap) (locs : List Loc) (ls : Array Slot) (d0 : Drawn), s.drawn.sameBut d0 lw_cs → WP D a cA cT TC g H → WP D a2 cA cT TM h H → va_S (fun q => s.heap.size ≤ q) s.heap H locs → lv_has ls 8 [(0, .ref b), (1, .ref (a 0)), (2, .ref (a2 0)), (3, .int (nI i))] → W p l e room_1 (s.setDrawn d0) m #[Value.ref b] below meth c H locs 600000 7302250 (lw_Z below #[Value.ref b] s) (F0 m 1142 ls [])) : ∀ (H : Heap) (locs : List Loc) (ls : Array Slot) (d0 : Drawn), s.drawn.sameBut d0 lw_cs → WP D a cA cT TC g H → WP D a2 cA cT TM h H → va_S (fun q => s.heap.size ≤ q) s.heap H locs → lv_has ls 8 [(0, .ref b), (1, .ref (a 0)), (2, .ref (a2 0)), (3, .int (nI i))] → W p l e room_1 (s.setDrawn d0) m #[Value.ref b] below meth c H locs 600000 7302250 (lw_Z below #[Value.ref b] s) (F0 m 963 ls []) := by
  obtain ⟨⟨hx, hb, hr, hml, hown, hts0, hX, hbl, hlocks, hgv⟩, hK, hI, hI2, hap, hA1, hA2, hL⟩ := hC
  have hts : ∀ w ∈ lw_all, w.before #[Value.ref b] s = true := fun w h => hts0 w (lw_all_tbl h)
  have hbA : ¬ (fun q : Nat => s.heap.size ≤ q) b := Nat.not_le.mpr hbl
  have hin1 : vp_in (nI i + (1 : Int32)) L := by rw [nI_1]; exact vp_in_nI (by omega) (by omega)
  have hin2 : vp_in (nI i + (2 : Int32)) L := by rw [show nI i + (2 : Int32) = nI (i + 2) from nI_add i 2]; exact vp_in_nI (by omega) (by omega)
  intro H locs ls d0 hd0 hP1 hP2 hS hl
  obtain ⟨r, g', h', hcc, hcm, hR2⟩ := hsim g h (xs (nI i + (1 : Int32)).toNatClampNeg) hR
  refine lv_aload_n hx hb dL_law_963 rfl (lv_at hl 1 rfl) ?_
  refine lv_aload_n hx hb dL_law_964 rfl (lv_at hl 0 rfl) ?_
  refine lv_iload_n hx hb dL_law_965 rfl (lv_at hl 3 rfl) ?_
  refine lv_iconst (v := (1 : Int32)) hx hb dL_law_966 (by decide) ?_
  refine lv_iadd hx hb dL_law_967 ?_
  refine va_sld (s := s.setDrawn d0) hx hb hX hbl hbA hS hin1 dL_law_968 ?_
  refine y_VI (R := room_1) (s := s.setDrawn d0) (As := [.int (xs (nI i + (1 : Int32)).toNatClampNeg)]) hx hb hml hown (dr_words hts d0) hK hP1 hS hA1 hP2 (lw_ap (D := D) (a := a2) (fun q h1 h2 => hap q h2 h1)) (ct_X6_answer l D a cA cT hI g (xs (nI i + (1 : Int32)).toNatClampNeg) r g' hcc) tF_0 (C := RX6) (F := TX6) (N := 5) rfl (g_V q717 q718 q719 q70 q720) yd_X6_answer ⟨Nat.le_of_ble_eq_true rfl, Nat.le_of_ble_eq_true rfl⟩ [] rfl (Nat.le_of_ble_eq_true rfl) hl.1 ⟨Nat.le_refl _, Nat.le_refl _⟩ dL_law_969 (fun H locs hP1 hP2 hS => ?_)
  refine lv_aload_n hx hb dL_law_972 rfl (lv_at hl 2 rfl) ?_
  refine lv_aload_n hx hb dL_law_973 rfl (lv_at hl 0 rfl) ?_
  refine lv_iload_n hx hb dL_law_974 rfl (lv_at hl 3 rfl) ?_
  refine lv_iconst (v := (1 : Int32)) hx hb dL_law_975 (by decide) ?_
  refine lv_iadd hx hb dL_law_976 ?_
  refine va_sld (s := s.setDrawn d0) hx hb hX hbl hbA hS hin1 dL_law_977 ?_
  refine y_VI (R := room_1) (s := s.setDrawn d0) (As := [.int (xs (nI i + (1 : Int32)).toNatClampNeg)]) hx hb hml hown (dr_words hts d0) hK hP2 hS hA2 hP1 (lw_ap (D := D) (a := a) (fun q h1 h2 => hap q h1 h2)) (ct_X7_answer l D a2 cA cT hI2 h (xs (nI i + (1 : Int32)).toNatClampNeg) r h' hcm) tM_0 (C := RX7) (F := TX7) (N := 18) rfl (g_V q986 q987 q988 q77 q989) yd_X7_answer ⟨Nat.le_of_ble_eq_true rfl, Nat.le_of_ble_eq_true rfl⟩ [.int r] rfl (Nat.le_of_ble_eq_true rfl) hl.1 ⟨Nat.le_refl _, Nat.le_refl _⟩ dL_law_978 (fun H locs hP2 hP1 hS => ?_)
  refine lv_icmp_eq (tgt := 1142) hx hb dL_law_981 (by decide) (fun _ => ?_) (fun hn => absurd rfl hn)
  exact hk g' h' hR2 H locs ls d0 hd0 hP1 hP2 hS hl
set_option maxHeartbeats 4000000 in
set_option maxRecDepth 100000 in
theorem lc_30 (hC : LW p s m meth c b L xs D a a2 cA cT) (hsim : Sim_looksInto Rel) {i : Nat} (hi : i + 3 ≤ L) {g h : MG} (hR : Rel g h) (hk : ∀ (g h : MG), Rel g h → ∀ (H : Heap) (locs : List Loc) (ls : Array Slot) (d0 : Drawn), s.drawn.sameBut d0 lw_cs → WP D a cA cT TC g H → WP D a2 cA cT TM h H → va_S (fun q => s.heap.size ≤ q) s.heap H locs → lv_has ls 8 [(0, .ref b), (1, .ref (a 0)), (2, .ref (a2 0)), (3, .int (nI i))] → W p l e room_1 (s.setDrawn d0) m #[Value.ref b] below meth c H locs 600000 7302250 (lw_Z below #[Value.ref b] s) (F0 m 1142 ls [])) : ∀ (H : Heap) (locs : List Loc) (ls : Array Slot) (d0 : Drawn), s.drawn.sameBut d0 lw_cs → WP D a cA cT TC g H → WP D a2 cA cT TM h H → va_S (fun q => s.heap.size ≤ q) s.heap H locs → lv_has ls 8 [(0, .ref b), (1, .ref (a 0)), (2, .ref (a2 0)), (3, .int (nI i))] → W p l e room_1 (s.setDrawn d0) m #[Value.ref b] below meth c H locs 600000 7302250 (lw_Z below #[Value.ref b] s) (F0 m 986 ls []) := by
  obtain ⟨⟨hx, hb, hr, hml, hown, hts0, hX, hbl, hlocks, hgv⟩, hK, hI, hI2, hap, hA1, hA2, hL⟩ := hC
  have hts : ∀ w ∈ lw_all, w.before #[Value.ref b] s = true := fun w h => hts0 w (lw_all_tbl h)
  have hbA : ¬ (fun q : Nat => s.heap.size ≤ q) b := Nat.not_le.mpr hbl
  have hin1 : vp_in (nI i + (1 : Int32)) L := by rw [nI_1]; exact vp_in_nI (by omega) (by omega)
  have hin2 : vp_in (nI i + (2 : Int32)) L := by rw [show nI i + (2 : Int32) = nI (i + 2) from nI_add i 2]; exact vp_in_nI (by omega) (by omega)
  intro H locs ls d0 hd0 hP1 hP2 hS hl
  obtain ⟨r, g', h', hcc, hcm, hR2⟩ := hsim g h (xs (nI i + (1 : Int32)).toNatClampNeg) (xs (nI i + (2 : Int32)).toNatClampNeg) hR
  refine lv_aload_n hx hb dL_law_986 rfl (lv_at hl 1 rfl) ?_
  refine lv_aload_n hx hb dL_law_987 rfl (lv_at hl 0 rfl) ?_
  refine lv_iload_n hx hb dL_law_988 rfl (lv_at hl 3 rfl) ?_
  refine lv_iconst (v := (1 : Int32)) hx hb dL_law_989 (by decide) ?_
  refine lv_iadd hx hb dL_law_990 ?_
  refine va_sld (s := s.setDrawn d0) hx hb hX hbl hbA hS hin1 dL_law_991 ?_
  refine lv_aload_n hx hb dL_law_992 rfl (lv_at hl 0 rfl) ?_
  refine lv_iload_n hx hb dL_law_993 rfl (lv_at hl 3 rfl) ?_
  refine lv_iconst (v := (2 : Int32)) hx hb dL_law_994 (by decide) ?_
  refine lv_iadd hx hb dL_law_995 ?_
  refine va_sld (s := s.setDrawn d0) hx hb hX hbl hbA hS hin2 dL_law_996 ?_
  refine y_VI (R := room_1) (s := s.setDrawn d0) (As := [.int (xs (nI i + (1 : Int32)).toNatClampNeg), .int (xs (nI i + (2 : Int32)).toNatClampNeg)]) hx hb hml hown (dr_words hts d0) hK hP1 hS hA1 hP2 (lw_ap (D := D) (a := a2) (fun q h1 h2 => hap q h2 h1)) (ct_X6_looksInto l D a cA cT hI g (xs (nI i + (1 : Int32)).toNatClampNeg) (xs (nI i + (2 : Int32)).toNatClampNeg) r g' hcc) tF_0 (C := RX6) (F := TX6) (N := 5) rfl (g_V q721 q722 q723 q70 q724) yd_X6_looksInto ⟨Nat.le_of_ble_eq_true rfl, Nat.le_of_ble_eq_true rfl⟩ [] rfl (Nat.le_of_ble_eq_true rfl) hl.1 ⟨Nat.le_refl _, Nat.le_refl _⟩ dL_law_997 (fun H locs hP1 hP2 hS => ?_)
  refine lv_aload_n hx hb dL_law_1000 rfl (lv_at hl 2 rfl) ?_
  refine lv_aload_n hx hb dL_law_1001 rfl (lv_at hl 0 rfl) ?_
  refine lv_iload_n hx hb dL_law_1002 rfl (lv_at hl 3 rfl) ?_
  refine lv_iconst (v := (1 : Int32)) hx hb dL_law_1003 (by decide) ?_
  refine lv_iadd hx hb dL_law_1004 ?_
  refine va_sld (s := s.setDrawn d0) hx hb hX hbl hbA hS hin1 dL_law_1005 ?_
  refine lv_aload_n hx hb dL_law_1006 rfl (lv_at hl 0 rfl) ?_
  refine lv_iload_n hx hb dL_law_1007 rfl (lv_at hl 3 rfl) ?_
  refine lv_iconst (v := (2 : Int32)) hx hb dL_law_1008 (by decide) ?_
  refine lv_iadd hx hb dL_law_1009 ?_
  refine va_sld (s := s.setDrawn d0) hx hb hX hbl hbA hS hin2 dL_law_1010 ?_
  refine y_VI (R := room_1) (s := s.setDrawn d0) (As := [.int (xs (nI i + (1 : Int32)).toNatClampNeg), .int (xs (nI i + (2 : Int32)).toNatClampNeg)]) hx hb hml hown (dr_words hts d0) hK hP2 hS hA2 hP1 (lw_ap (D := D) (a := a) (fun q h1 h2 => hap q h1 h2)) (ct_X7_looksInto l D a2 cA cT hI2 h (xs (nI i + (1 : Int32)).toNatClampNeg) (xs (nI i + (2 : Int32)).toNatClampNeg) r h' hcm) tM_0 (C := RX7) (F := TX7) (N := 18) rfl (g_V q990 q991 q992 q77 q993) yd_X7_looksInto ⟨Nat.le_of_ble_eq_true rfl, Nat.le_of_ble_eq_true rfl⟩ [.int r] rfl (Nat.le_of_ble_eq_true rfl) hl.1 ⟨Nat.le_refl _, Nat.le_refl _⟩ dL_law_1011 (fun H locs hP2 hP1 hS => ?_)
  refine lv_icmp_eq (tgt := 1142) hx hb dL_law_1014 (by decide) (fun _ => ?_) (fun hn => absurd rfl hn)
  exact hk g' h' hR2 H locs ls d0 hd0 hP1 hP2 hS hl
set_option maxHeartbeats 4000000 in
set_option maxRecDepth 100000 in
theorem lc_31 (hC : LW p s m meth c b L xs D a a2 cA cT) (hsim : Sim_passes Rel) {i : Nat} (hi : i + 3 ≤ L) {g h : MG} (hR : Rel g h) (hk : ∀ (g h : MG), Rel g h → ∀ (H : Heap) (locs : List Loc) (ls : Array Slot) (d0 : Drawn), s.drawn.sameBut d0 lw_cs → WP D a cA cT TC g H → WP D a2 cA cT TM h H → va_S (fun q => s.heap.size ≤ q) s.heap H locs → lv_has ls 8 [(0, .ref b), (1, .ref (a 0)), (2, .ref (a2 0)), (3, .int (nI i))] → W p l e room_1 (s.setDrawn d0) m #[Value.ref b] below meth c H locs 600000 7302250 (lw_Z below #[Value.ref b] s) (F0 m 1142 ls [])) : ∀ (H : Heap) (locs : List Loc) (ls : Array Slot) (d0 : Drawn), s.drawn.sameBut d0 lw_cs → WP D a cA cT TC g H → WP D a2 cA cT TM h H → va_S (fun q => s.heap.size ≤ q) s.heap H locs → lv_has ls 8 [(0, .ref b), (1, .ref (a 0)), (2, .ref (a2 0)), (3, .int (nI i))] → W p l e room_1 (s.setDrawn d0) m #[Value.ref b] below meth c H locs 600000 7302250 (lw_Z below #[Value.ref b] s) (F0 m 1019 ls []) := by
  obtain ⟨⟨hx, hb, hr, hml, hown, hts0, hX, hbl, hlocks, hgv⟩, hK, hI, hI2, hap, hA1, hA2, hL⟩ := hC
  have hts : ∀ w ∈ lw_all, w.before #[Value.ref b] s = true := fun w h => hts0 w (lw_all_tbl h)
  have hbA : ¬ (fun q : Nat => s.heap.size ≤ q) b := Nat.not_le.mpr hbl
  have hin1 : vp_in (nI i + (1 : Int32)) L := by rw [nI_1]; exact vp_in_nI (by omega) (by omega)
  have hin2 : vp_in (nI i + (2 : Int32)) L := by rw [show nI i + (2 : Int32) = nI (i + 2) from nI_add i 2]; exact vp_in_nI (by omega) (by omega)
  intro H locs ls d0 hd0 hP1 hP2 hS hl
  obtain ⟨r, g', h', hcc, hcm, hR2⟩ := hsim g h (xs (nI i + (1 : Int32)).toNatClampNeg) hR
  refine lv_aload_n hx hb dL_law_1019 rfl (lv_at hl 1 rfl) ?_
  refine lv_aload_n hx hb dL_law_1020 rfl (lv_at hl 0 rfl) ?_
  refine lv_iload_n hx hb dL_law_1021 rfl (lv_at hl 3 rfl) ?_
  refine lv_iconst (v := (1 : Int32)) hx hb dL_law_1022 (by decide) ?_
  refine lv_iadd hx hb dL_law_1023 ?_
  refine va_sld (s := s.setDrawn d0) hx hb hX hbl hbA hS hin1 dL_law_1024 ?_
  refine y_VI (R := room_1) (s := s.setDrawn d0) (As := [.int (xs (nI i + (1 : Int32)).toNatClampNeg)]) hx hb hml hown (dr_words hts d0) hK hP1 hS hA1 hP2 (lw_ap (D := D) (a := a2) (fun q h1 h2 => hap q h2 h1)) (ct_X6_passes l D a cA cT hI g (xs (nI i + (1 : Int32)).toNatClampNeg) r g' hcc) tF_0 (C := RX6) (F := TX6) (N := 5) rfl (g_V q725 q726 q727 q70 q728) yd_X6_passes ⟨Nat.le_of_ble_eq_true rfl, Nat.le_of_ble_eq_true rfl⟩ [] rfl (Nat.le_of_ble_eq_true rfl) hl.1 ⟨Nat.le_refl _, Nat.le_refl _⟩ dL_law_1025 (fun H locs hP1 hP2 hS => ?_)
  refine lv_aload_n hx hb dL_law_1028 rfl (lv_at hl 2 rfl) ?_
  refine lv_aload_n hx hb dL_law_1029 rfl (lv_at hl 0 rfl) ?_
  refine lv_iload_n hx hb dL_law_1030 rfl (lv_at hl 3 rfl) ?_
  refine lv_iconst (v := (1 : Int32)) hx hb dL_law_1031 (by decide) ?_
  refine lv_iadd hx hb dL_law_1032 ?_
  refine va_sld (s := s.setDrawn d0) hx hb hX hbl hbA hS hin1 dL_law_1033 ?_
  refine y_VI (R := room_1) (s := s.setDrawn d0) (As := [.int (xs (nI i + (1 : Int32)).toNatClampNeg)]) hx hb hml hown (dr_words hts d0) hK hP2 hS hA2 hP1 (lw_ap (D := D) (a := a) (fun q h1 h2 => hap q h1 h2)) (ct_X7_passes l D a2 cA cT hI2 h (xs (nI i + (1 : Int32)).toNatClampNeg) r h' hcm) tM_0 (C := RX7) (F := TX7) (N := 18) rfl (g_V q994 q995 q996 q77 q997) yd_X7_passes ⟨Nat.le_of_ble_eq_true rfl, Nat.le_of_ble_eq_true rfl⟩ [.int r] rfl (Nat.le_of_ble_eq_true rfl) hl.1 ⟨Nat.le_refl _, Nat.le_refl _⟩ dL_law_1034 (fun H locs hP2 hP1 hS => ?_)
  refine lv_icmp_eq (tgt := 1142) hx hb dL_law_1037 (by decide) (fun _ => ?_) (fun hn => absurd rfl hn)
  exact hk g' h' hR2 H locs ls d0 hd0 hP1 hP2 hS hl
set_option maxHeartbeats 4000000 in
set_option maxRecDepth 100000 in
theorem lc_32 (hC : LW p s m meth c b L xs D a a2 cA cT) (hdn : ∀ q : UInt64, isNaN64 q = true → isNaN64 (FP.dsub FP.dconst1 q) = true) (hdc1 : ∀ q : UInt64, isNaN64 q = true → FP.dcmp q q = none) (hdc2 : ∀ q q' : UInt64, isNaN64 q = true → isNaN64 q' = true → FP.dcmp q q' = none) (hdc3 : ∀ q : UInt64, isNaN64 q = false → FP.dcmp q q = some .eq) (hsim : Sim_spared Rel) {i : Nat} (hi : i + 3 ≤ L) {g h : MG} (hR : Rel g h) (hk : ∀ (g h : MG), Rel g h → ∀ (H : Heap) (locs : List Loc) (ls : Array Slot) (d0 : Drawn), s.drawn.sameBut d0 lw_cs → WP D a cA cT TC g H → WP D a2 cA cT TM h H → va_S (fun q => s.heap.size ≤ q) s.heap H locs → lv_has ls 8 [(0, .ref b), (1, .ref (a 0)), (2, .ref (a2 0)), (3, .int (nI i))] → W p l e room_1 (s.setDrawn d0) m #[Value.ref b] below meth c H locs 600000 7302250 (lw_Z below #[Value.ref b] s) (F0 m 1142 ls [])) : ∀ (H : Heap) (locs : List Loc) (ls : Array Slot) (d0 : Drawn), s.drawn.sameBut d0 lw_cs → WP D a cA cT TC g H → WP D a2 cA cT TM h H → va_S (fun q => s.heap.size ≤ q) s.heap H locs → lv_has ls 8 [(0, .ref b), (1, .ref (a 0)), (2, .ref (a2 0)), (3, .int (nI i))] → W p l e room_1 (s.setDrawn d0) m #[Value.ref b] below meth c H locs 600000 7302250 (lw_Z below #[Value.ref b] s) (F0 m 1042 ls []) := by
  obtain ⟨⟨hx, hb, hr, hml, hown, hts0, hX, hbl, hlocks, hgv⟩, hK, hI, hI2, hap, hA1, hA2, hL⟩ := hC
  have hts : ∀ w ∈ lw_all, w.before #[Value.ref b] s = true := fun w h => hts0 w (lw_all_tbl h)
  have hbA : ¬ (fun q : Nat => s.heap.size ≤ q) b := Nat.not_le.mpr hbl
  have hin1 : vp_in (nI i + (1 : Int32)) L := by rw [nI_1]; exact vp_in_nI (by omega) (by omega)
  have hin2 : vp_in (nI i + (2 : Int32)) L := by rw [show nI i + (2 : Int32) = nI (i + 2) from nI_add i 2]; exact vp_in_nI (by omega) (by omega)
  intro H locs ls d0 hd0 hP1 hP2 hS hl
  obtain ⟨r, g', h', hcc, hcm, hR2⟩ := hsim g h hR
  refine lv_aload_n hx hb dL_law_1042 rfl (lv_at hl 1 rfl) ?_
  refine y_VD (R := room_1) (As := []) hd0 hx hb hml hown hts hK hP1 hS hA1 hP2 (lw_ap (D := D) (a := a2) (fun q h1 h2 => hap q h2 h1)) (ct_X6_spared l D a cA cT hI g r g' hcc) tF_0 (C := RX6) (F := TX6) (N := 5) rfl (g_V q729 q730 q731 q70 q732) yd_X6_spared ⟨Nat.le_of_ble_eq_true rfl, Nat.le_of_ble_eq_true rfl⟩ [] rfl (Nat.le_of_ble_eq_true rfl) hl.1 ⟨Nat.le_refl _, Nat.le_refl _⟩ dL_law_1043 (fun z1 d0 H locs hdr1 hd0 hP1 hP2 hS => ?_)
  refine lv_dstore (lv' := [(4, .double z1), (0, .ref b), (1, .ref (a 0)), (2, .ref (a2 0)), (3, .int (nI i))]) hx hb dL_law_1046 hl (by decide) rfl (fun ls hl => ?_)
  refine lv_aload_n hx hb dL_law_1048 rfl (lv_at hl 3 rfl) ?_
  refine y_VD (R := room_1) (As := []) hd0 hx hb hml hown hts hK hP2 hS hA2 hP1 (lw_ap (D := D) (a := a) (fun q h1 h2 => hap q h1 h2)) (ct_X7_spared l D a2 cA cT hI2 h r h' hcm) tM_0 (C := RX7) (F := TX7) (N := 18) rfl (g_V q998 q999 q1000 q77 q1001) yd_X7_spared ⟨Nat.le_of_ble_eq_true rfl, Nat.le_of_ble_eq_true rfl⟩ [] rfl (Nat.le_of_ble_eq_true rfl) hl.1 ⟨Nat.le_refl _, Nat.le_refl _⟩ dL_law_1049 (fun z2 d0 H locs hdr2 hd0 hP2 hP1 hS => ?_)
  refine lv_dstore (lv' := [(6, .double z2), (4, .double z1), (0, .ref b), (1, .ref (a 0)), (2, .ref (a2 0)), (3, .int (nI i))]) hx hb dL_law_1052 hl (by decide) rfl (fun ls hl => ?_)
  refine lv_dload hx hb dL_law_1054 (lv_at hl 1 rfl) ?_
  refine lv_dload hx hb dL_law_1056 (lv_at hl 0 rfl) ?_
  have hal := dcmp_alike hdc1 hdc2 hdc3 (dr_alike hdn hdr1 hdr2)
  refine lv_dcmp hx hb dL_law_1058 ?_
  rcases hal with hal | ⟨hal, hal1, hal2⟩
  · rw [hal]
    refine lv_if_eq (tgt := 1080) hx hb dL_law_1059 (by decide) (fun _ => ?_) (fun hn => absurd rfl hn)
    refine lv_goto (tgt := 1142) hx hb dL_law_1080 (by decide) ?_
    exact hk g' h' hR2 H locs ls d0 hd0 hP1 hP2 hS (lv_sub hl [2, 3, 4, 5] rfl)
  · rw [hal]
    refine lv_if_eq (tgt := 1080) hx hb dL_law_1059 (by decide) (fun hn => absurd hn (by decide)) (fun _ => ?_)
    refine lv_dload hx hb dL_law_1062 (lv_at hl 1 rfl) ?_
    refine lv_dload hx hb dL_law_1064 (lv_at hl 1 rfl) ?_
    refine lv_dcmp hx hb dL_law_1066 ?_
    rw [hal1]
    refine lv_if_eq (tgt := 1078) hx hb dL_law_1067 (by decide) (fun hn => absurd hn (by decide)) (fun _ => ?_)
    refine lv_dload hx hb dL_law_1070 (lv_at hl 0 rfl) ?_
    refine lv_dload hx hb dL_law_1072 (lv_at hl 0 rfl) ?_
    refine lv_dcmp hx hb dL_law_1074 ?_
    rw [hal2]
    refine lv_if_ne (tgt := 1080) hx hb dL_law_1075 (by decide) (fun _ => ?_) (fun hn => absurd hn (by decide))
    refine lv_goto (tgt := 1142) hx hb dL_law_1080 (by decide) ?_
    exact hk g' h' hR2 H locs ls d0 hd0 hP1 hP2 hS (lv_sub hl [2, 3, 4, 5] rfl)
set_option maxHeartbeats 4000000 in
set_option maxRecDepth 100000 in
theorem lc_33 (hC : LW p s m meth c b L xs D a a2 cA cT) (hsim : Sim_unfit Rel) {i : Nat} (hi : i + 3 ≤ L) {g h : MG} (hR : Rel g h) (hk : ∀ (g h : MG), Rel g h → ∀ (H : Heap) (locs : List Loc) (ls : Array Slot) (d0 : Drawn), s.drawn.sameBut d0 lw_cs → WP D a cA cT TC g H → WP D a2 cA cT TM h H → va_S (fun q => s.heap.size ≤ q) s.heap H locs → lv_has ls 8 [(0, .ref b), (1, .ref (a 0)), (2, .ref (a2 0)), (3, .int (nI i))] → W p l e room_1 (s.setDrawn d0) m #[Value.ref b] below meth c H locs 600000 7302250 (lw_Z below #[Value.ref b] s) (F0 m 1142 ls [])) : ∀ (H : Heap) (locs : List Loc) (ls : Array Slot) (d0 : Drawn), s.drawn.sameBut d0 lw_cs → WP D a cA cT TC g H → WP D a2 cA cT TM h H → va_S (fun q => s.heap.size ≤ q) s.heap H locs → lv_has ls 8 [(0, .ref b), (1, .ref (a 0)), (2, .ref (a2 0)), (3, .int (nI i))] → W p l e room_1 (s.setDrawn d0) m #[Value.ref b] below meth c H locs 600000 7302250 (lw_Z below #[Value.ref b] s) (F0 m 1083 ls []) := by
  obtain ⟨⟨hx, hb, hr, hml, hown, hts0, hX, hbl, hlocks, hgv⟩, hK, hI, hI2, hap, hA1, hA2, hL⟩ := hC
  have hts : ∀ w ∈ lw_all, w.before #[Value.ref b] s = true := fun w h => hts0 w (lw_all_tbl h)
  have hbA : ¬ (fun q : Nat => s.heap.size ≤ q) b := Nat.not_le.mpr hbl
  have hin1 : vp_in (nI i + (1 : Int32)) L := by rw [nI_1]; exact vp_in_nI (by omega) (by omega)
  have hin2 : vp_in (nI i + (2 : Int32)) L := by rw [show nI i + (2 : Int32) = nI (i + 2) from nI_add i 2]; exact vp_in_nI (by omega) (by omega)
  intro H locs ls d0 hd0 hP1 hP2 hS hl
  obtain ⟨r, hcc, hcm⟩ := hsim g h (xs (nI i + (1 : Int32)).toNatClampNeg) hR
  refine lv_aload_n hx hb dL_law_1083 rfl (lv_at hl 1 rfl) ?_
  refine lv_aload_n hx hb dL_law_1084 rfl (lv_at hl 0 rfl) ?_
  refine lv_iload_n hx hb dL_law_1085 rfl (lv_at hl 3 rfl) ?_
  refine lv_iconst (v := (1 : Int32)) hx hb dL_law_1086 (by decide) ?_
  refine lv_iadd hx hb dL_law_1087 ?_
  refine va_sld (s := s.setDrawn d0) hx hb hX hbl hbA hS hin1 dL_law_1088 ?_
  refine y_VI (R := room_1) (s := s.setDrawn d0) (As := [.int (xs (nI i + (1 : Int32)).toNatClampNeg)]) hx hb hml hown (dr_words hts d0) hK hP1 hS hA1 hP2 (lw_ap (D := D) (a := a2) (fun q h1 h2 => hap q h2 h1)) (ct_X6_unfit l D a cA cT hI g (xs (nI i + (1 : Int32)).toNatClampNeg) r hcc) tF_0 (C := RX6) (F := TX6) (N := 5) rfl (g_V q734 q735 q736 q70 q737) yd_X6_unfit ⟨Nat.le_of_ble_eq_true rfl, Nat.le_of_ble_eq_true rfl⟩ [] rfl (Nat.le_of_ble_eq_true rfl) hl.1 ⟨Nat.le_refl _, Nat.le_refl _⟩ dL_law_1089 (fun H locs hP1 hP2 hS => ?_)
  refine lv_aload_n hx hb dL_law_1092 rfl (lv_at hl 2 rfl) ?_
  refine lv_aload_n hx hb dL_law_1093 rfl (lv_at hl 0 rfl) ?_
  refine lv_iload_n hx hb dL_law_1094 rfl (lv_at hl 3 rfl) ?_
  refine lv_iconst (v := (1 : Int32)) hx hb dL_law_1095 (by decide) ?_
  refine lv_iadd hx hb dL_law_1096 ?_
  refine va_sld (s := s.setDrawn d0) hx hb hX hbl hbA hS hin1 dL_law_1097 ?_
  refine y_VI (R := room_1) (s := s.setDrawn d0) (As := [.int (xs (nI i + (1 : Int32)).toNatClampNeg)]) hx hb hml hown (dr_words hts d0) hK hP2 hS hA2 hP1 (lw_ap (D := D) (a := a) (fun q h1 h2 => hap q h1 h2)) (ct_X7_unfit l D a2 cA cT hI2 h (xs (nI i + (1 : Int32)).toNatClampNeg) r hcm) tM_0 (C := RX7) (F := TX7) (N := 18) rfl (g_V q1041 q1042 q1043 q77 q1044) yd_X7_unfit ⟨Nat.le_of_ble_eq_true rfl, Nat.le_of_ble_eq_true rfl⟩ [.int r] rfl (Nat.le_of_ble_eq_true rfl) hl.1 ⟨Nat.le_refl _, Nat.le_refl _⟩ dL_law_1098 (fun H locs hP2 hP1 hS => ?_)
  refine lv_icmp_eq (tgt := 1142) hx hb dL_law_1101 (by decide) (fun _ => ?_) (fun hn => absurd rfl hn)
  exact hk g h hR H locs ls d0 hd0 hP1 hP2 hS hl
set_option maxHeartbeats 4000000 in
set_option maxRecDepth 100000 in
theorem lc_34 (hC : LW p s m meth c b L xs D a a2 cA cT) (hsim : Sim_bestSplit Rel) {i : Nat} (hi : i + 3 ≤ L) {g h : MG} (hR : Rel g h) (hk : ∀ (g h : MG), Rel g h → ∀ (H : Heap) (locs : List Loc) (ls : Array Slot) (d0 : Drawn), s.drawn.sameBut d0 lw_cs → WP D a cA cT TC g H → WP D a2 cA cT TM h H → va_S (fun q => s.heap.size ≤ q) s.heap H locs → lv_has ls 8 [(0, .ref b), (1, .ref (a 0)), (2, .ref (a2 0)), (3, .int (nI i))] → W p l e room_1 (s.setDrawn d0) m #[Value.ref b] below meth c H locs 600000 7302250 (lw_Z below #[Value.ref b] s) (F0 m 1142 ls [])) : ∀ (H : Heap) (locs : List Loc) (ls : Array Slot) (d0 : Drawn), s.drawn.sameBut d0 lw_cs → WP D a cA cT TC g H → WP D a2 cA cT TM h H → va_S (fun q => s.heap.size ≤ q) s.heap H locs → lv_has ls 8 [(0, .ref b), (1, .ref (a 0)), (2, .ref (a2 0)), (3, .int (nI i))] → W p l e room_1 (s.setDrawn d0) m #[Value.ref b] below meth c H locs 600000 7302250 (lw_Z below #[Value.ref b] s) (F0 m 1106 ls []) := by
  obtain ⟨⟨hx, hb, hr, hml, hown, hts0, hX, hbl, hlocks, hgv⟩, hK, hI, hI2, hap, hA1, hA2, hL⟩ := hC
  have hts : ∀ w ∈ lw_all, w.before #[Value.ref b] s = true := fun w h => hts0 w (lw_all_tbl h)
  have hbA : ¬ (fun q : Nat => s.heap.size ≤ q) b := Nat.not_le.mpr hbl
  have hin1 : vp_in (nI i + (1 : Int32)) L := by rw [nI_1]; exact vp_in_nI (by omega) (by omega)
  have hin2 : vp_in (nI i + (2 : Int32)) L := by rw [show nI i + (2 : Int32) = nI (i + 2) from nI_add i 2]; exact vp_in_nI (by omega) (by omega)
  intro H locs ls d0 hd0 hP1 hP2 hS hl
  obtain ⟨r, hcc, hcm⟩ := hsim g h (xs (nI i + (1 : Int32)).toNatClampNeg) hR
  refine lv_aload_n hx hb dL_law_1106 rfl (lv_at hl 1 rfl) ?_
  refine lv_aload_n hx hb dL_law_1107 rfl (lv_at hl 0 rfl) ?_
  refine lv_iload_n hx hb dL_law_1108 rfl (lv_at hl 3 rfl) ?_
  refine lv_iconst (v := (1 : Int32)) hx hb dL_law_1109 (by decide) ?_
  refine lv_iadd hx hb dL_law_1110 ?_
  refine va_sld (s := s.setDrawn d0) hx hb hX hbl hbA hS hin1 dL_law_1111 ?_
  refine y_VI (R := room_1) (s := s.setDrawn d0) (As := [.int (xs (nI i + (1 : Int32)).toNatClampNeg)]) hx hb hml hown (dr_words hts d0) hK hP1 hS hA1 hP2 (lw_ap (D := D) (a := a2) (fun q h1 h2 => hap q h2 h1)) (ct_X6_bestSplit l D a cA cT hI g (xs (nI i + (1 : Int32)).toNatClampNeg) r hcc) tF_0 (C := RX6) (F := TX6) (N := 5) rfl (g_V q738 q739 q740 q70 q741) yd_X6_bestSplit ⟨Nat.le_of_ble_eq_true rfl, Nat.le_of_ble_eq_true rfl⟩ [] rfl (Nat.le_of_ble_eq_true rfl) hl.1 ⟨Nat.le_refl _, Nat.le_refl _⟩ dL_law_1112 (fun H locs hP1 hP2 hS => ?_)
  refine lv_aload_n hx hb dL_law_1115 rfl (lv_at hl 2 rfl) ?_
  refine lv_aload_n hx hb dL_law_1116 rfl (lv_at hl 0 rfl) ?_
  refine lv_iload_n hx hb dL_law_1117 rfl (lv_at hl 3 rfl) ?_
  refine lv_iconst (v := (1 : Int32)) hx hb dL_law_1118 (by decide) ?_
  refine lv_iadd hx hb dL_law_1119 ?_
  refine va_sld (s := s.setDrawn d0) hx hb hX hbl hbA hS hin1 dL_law_1120 ?_
  refine y_VI (R := room_1) (s := s.setDrawn d0) (As := [.int (xs (nI i + (1 : Int32)).toNatClampNeg)]) hx hb hml hown (dr_words hts d0) hK hP2 hS hA2 hP1 (lw_ap (D := D) (a := a) (fun q h1 h2 => hap q h1 h2)) (ct_X7_bestSplit l D a2 cA cT hI2 h (xs (nI i + (1 : Int32)).toNatClampNeg) r hcm) tM_0 (C := RX7) (F := TX7) (N := 18) rfl (g_V q1045 q1046 q1047 q77 q1048) yd_X7_bestSplit ⟨Nat.le_of_ble_eq_true rfl, Nat.le_of_ble_eq_true rfl⟩ [.int r] rfl (Nat.le_of_ble_eq_true rfl) hl.1 ⟨Nat.le_refl _, Nat.le_refl _⟩ dL_law_1121 (fun H locs hP2 hP1 hS => ?_)
  refine lv_icmp_eq (tgt := 1142) hx hb dL_law_1124 (by decide) (fun _ => ?_) (fun hn => absurd rfl hn)
  exact hk g h hR H locs ls d0 hd0 hP1 hP2 hS hl
set_option maxHeartbeats 4000000 in
set_option maxRecDepth 100000 in
theorem lc_35 (hC : LW p s m meth c b L xs D a a2 cA cT) (hsim : Sim_heaviest Rel) {i : Nat} (hi : i + 3 ≤ L) {g h : MG} (hR : Rel g h) (hk : ∀ (g h : MG), Rel g h → ∀ (H : Heap) (locs : List Loc) (ls : Array Slot) (d0 : Drawn), s.drawn.sameBut d0 lw_cs → WP D a cA cT TC g H → WP D a2 cA cT TM h H → va_S (fun q => s.heap.size ≤ q) s.heap H locs → lv_has ls 8 [(0, .ref b), (1, .ref (a 0)), (2, .ref (a2 0)), (3, .int (nI i))] → W p l e room_1 (s.setDrawn d0) m #[Value.ref b] below meth c H locs 600000 7302250 (lw_Z below #[Value.ref b] s) (F0 m 1142 ls [])) : ∀ (H : Heap) (locs : List Loc) (ls : Array Slot) (d0 : Drawn), s.drawn.sameBut d0 lw_cs → WP D a cA cT TC g H → WP D a2 cA cT TM h H → va_S (fun q => s.heap.size ≤ q) s.heap H locs → lv_has ls 8 [(0, .ref b), (1, .ref (a 0)), (2, .ref (a2 0)), (3, .int (nI i))] → W p l e room_1 (s.setDrawn d0) m #[Value.ref b] below meth c H locs 600000 7302250 (lw_Z below #[Value.ref b] s) (F0 m 1129 ls []) := by
  obtain ⟨⟨hx, hb, hr, hml, hown, hts0, hX, hbl, hlocks, hgv⟩, hK, hI, hI2, hap, hA1, hA2, hL⟩ := hC
  have hts : ∀ w ∈ lw_all, w.before #[Value.ref b] s = true := fun w h => hts0 w (lw_all_tbl h)
  have hbA : ¬ (fun q : Nat => s.heap.size ≤ q) b := Nat.not_le.mpr hbl
  have hin1 : vp_in (nI i + (1 : Int32)) L := by rw [nI_1]; exact vp_in_nI (by omega) (by omega)
  have hin2 : vp_in (nI i + (2 : Int32)) L := by rw [show nI i + (2 : Int32) = nI (i + 2) from nI_add i 2]; exact vp_in_nI (by omega) (by omega)
  intro H locs ls d0 hd0 hP1 hP2 hS hl
  obtain ⟨r, hcc, hcm⟩ := hsim g h hR
  refine lv_aload_n hx hb dL_law_1129 rfl (lv_at hl 1 rfl) ?_
  refine y_VI (R := room_1) (s := s.setDrawn d0) (As := []) hx hb hml hown (dr_words hts d0) hK hP1 hS hA1 hP2 (lw_ap (D := D) (a := a2) (fun q h1 h2 => hap q h2 h1)) (ct_X6_heaviest l D a cA cT hI g r hcc) tF_0 (C := RX6) (F := TX6) (N := 5) rfl (g_V q748 q749 q750 q70 q751) yd_X6_heaviest ⟨Nat.le_of_ble_eq_true rfl, Nat.le_of_ble_eq_true rfl⟩ [] rfl (Nat.le_of_ble_eq_true rfl) hl.1 ⟨Nat.le_refl _, Nat.le_refl _⟩ dL_law_1130 (fun H locs hP1 hP2 hS => ?_)
  refine lv_aload_n hx hb dL_law_1133 rfl (lv_at hl 2 rfl) ?_
  refine y_VI (R := room_1) (s := s.setDrawn d0) (As := []) hx hb hml hown (dr_words hts d0) hK hP2 hS hA2 hP1 (lw_ap (D := D) (a := a) (fun q h1 h2 => hap q h1 h2)) (ct_X7_heaviest l D a2 cA cT hI2 h r hcm) tM_0 (C := RX7) (F := TX7) (N := 18) rfl (g_V q1052 q1053 q1054 q77 q1055) yd_X7_heaviest ⟨Nat.le_of_ble_eq_true rfl, Nat.le_of_ble_eq_true rfl⟩ [.int r] rfl (Nat.le_of_ble_eq_true rfl) hl.1 ⟨Nat.le_refl _, Nat.le_refl _⟩ dL_law_1134 (fun H locs hP2 hP1 hS => ?_)
  refine lv_icmp_eq (tgt := 1142) hx hb dL_law_1137 (by decide) (fun _ => ?_) (fun hn => absurd rfl hn)
  exact hk g h hR H locs ls d0 hd0 hP1 hP2 hS hl
end
