/-! the same, of the law -/
/-- what a share is that lies in [0, 1]; that is 0 -/
abbrev spk (r : Int32 × Int32 × Int32) : Prop := r.1 = 1 ∨ (r.1 = 2 ∧ 0 ≤ r.2.1 ∧ r.2.1 ≤ r.2.2 ∧ 1 ≤ r.2.2 ∧ r.2.2 ≤ 400)
abbrev spz (r : Int32 × Int32 × Int32) : Prop := r.1 = 1 ∨ (r.1 = 2 ∧ r.2.1 = r.2.2 ∧ 1 ≤ r.2.2 ∧ r.2.2 ≤ 400)
def m_L_cell (L : Nat) (xs : Nat → Int32) (k : Int32) : Option Int32 :=
  if nI L ≤ k then some ((2751403 : Int32) * k + 1889) else if vin k L then some (xs k.toNatClampNeg) else none
def m_L_same_L2 (k2 : Int32 → Option Int32) (f1 f2 : Nat → Int32) (v2 : Int32) : Option Int32 :=
  if (64 : Int32) ≤ v2 then some 1 else if vin v2 64 then (if f1 v2.toNatClampNeg = f2 v2.toNatClampNeg then k2 (v2 + (1 : Int32)) else some 0) else none
def b_L_same_L2 (f1 f2 : Nat → Int32) : (Int32 → Option Int32) → Int32 → Option Int32 := fun k x => m_L_same_L2 k f1 f2 x
def m_L_same (f1 f2 : Nat → Int32) : Option Int32 := lpo (b_L_same_L2 f1 f2) fuelN (0 : Int32)
def m_L_low (g : MG) (x0 : Int32) (x1 : Int32) : Option Int32 :=
  if ¬ x1 = 0 then
 some ((x0 &&& (2147483647 : Int32)) - (x0 &&& (2147483647 : Int32)) / x1 * x1)
 else none
def m_L_tell_L29 (k29 : (Int32 × (Nat → Int32)) → Option (Nat → Int32)) (g : MG) (v2 : Int32) (f : Nat → Int32) : Option (Nat → Int32) :=
  if (50 : Int32) ≤ v2 then
 some f
 else
 bnd (m_X6_row g v2 (0 : Int32)) fun (r45 : Int32) =>
 bnd (m_X6_row g v2 (2 : Int32)) fun (r52 : Int32) =>
 if vin ((11 : Int32) + v2) 64 then
 k29 ((v2 + (1 : Int32)), (upd f ((11 : Int32) + v2).toNatClampNeg (((100 : Int32) * r45) + r52)))
 else none
def b_L_tell_L29 (g : MG) : ((Int32 × (Nat → Int32)) → Option (Nat → Int32)) → (Int32 × (Nat → Int32)) → Option (Nat → Int32) := fun k x => m_L_tell_L29 k g x.1 x.2
def m_L_tell_L7 (k7 : (Int32 × (Nat → Int32)) → Option (Nat → Int32)) (g : MG) (v2 : Int32) (f : Nat → Int32) : Option (Nat → Int32) :=
  if (11 : Int32) ≤ v2 then
 lpo (b_L_tell_L29 g) fuelN ((0 : Int32), f)
 else
 bnd (m_X6_count g v2) fun (r17 : Int32) =>
 if vin v2 64 then
 k7 ((v2 + (1 : Int32)), (upd f v2.toNatClampNeg r17))
 else none
def b_L_tell_L7 (g : MG) : ((Int32 × (Nat → Int32)) → Option (Nat → Int32)) → (Int32 × (Nat → Int32)) → Option (Nat → Int32) := fun k x => m_L_tell_L7 k g x.1 x.2
def m_L_tell (g : MG)  : Option (Nat → Int32) :=
  lpo (b_L_tell_L7 g) fuelN ((0 : Int32), (fun _ => 0))
def m_L_place_J242 (x1 : Int32) (g : MG) (v5 : Int32) (v6 : Int32) (w0 : Int32) (w1 : Int32) : Option Int32 :=
  if w0 = w1 then
 bnd (m_X6_slice g x1 (5 : Int32)) fun (r248 : Int32) =>
 if r248 = v5 then
 bnd (m_X6_slice g x1 (6 : Int32)) fun (r260 : Int32) =>
 if r260 = v6 then
 some (1 : Int32)
 else
 some (0 : Int32)
 else
 some (0 : Int32)
 else
 some (0 : Int32)
def m_L_place_J200 (x1 : Int32) (g : MG) (v2 : Int32) (v3 : Int32) (v5 : Int32) (v6 : Int32) (w0 : Int32) : Option Int32 :=
  bnd (m_X6_lies g x1 v2) fun (r205 : Int32) =>
 if r205 = (-1005 : Int32) then
 bnd (m_X6_slice g x1 (3 : Int32)) fun (r217 : Int32) =>
 if r217 = w0 then
 bnd (m_X6_slice g x1 (4 : Int32)) fun (r228 : Int32) =>
 if v2 = 0 then
 m_L_place_J242 x1 g v5 v6 r228 (-1005 : Int32)
 else
 m_L_place_J242 x1 g v5 v6 r228 v3
 else
 some (0 : Int32)
 else
 some (0 : Int32)
def m_L_place_J151 (k21 : (Int32 × Int32 × Int32 × Int32 × Int32) → Option Int32) (x1 : Int32) (g : MG) (c2 : Int32) (v5 : Int32) (v7 : Int32) (v8 : Int32) (v9 : Int32) (w0 : Int32) (w1 : Int32) : Option Int32 :=
  bnd (m_X6_row g v8 (1 : Int32)) fun (r160 : Int32) =>
 k21 (v9, v8, (v5 + r160), (w0 + w1), (v7 + (1 : Int32)))
def m_L_place_J118 (k21 : (Int32 × Int32 × Int32 × Int32 × Int32) → Option Int32) (x1 : Int32) (g : MG) (c2 : Int32) (v5 : Int32) (v6 : Int32) (v7 : Int32) (v8 : Int32) (v9 : Int32) (v10 : Int32) (w0 : Int32) (w1 : Int32) : Option Int32 :=
  if w0 = w1 then
 bnd (m_X6_row g v8 (3 : Int32)) fun (r125 : Int32) =>
 bnd (m_X6_belongs g v9) fun (r131 : Int32) =>
 if r125 = r131 then
 if v10 = 0 then
 m_L_place_J151 k21 x1 g c2 v5 v7 v8 v9 v6 (0 : Int32)
 else
 m_L_place_J151 k21 x1 g c2 v5 v7 v8 v9 v6 (1 : Int32)
 else
 some (0 : Int32)
 else
 some (0 : Int32)
def m_L_place_J99 (k21 : (Int32 × Int32 × Int32 × Int32 × Int32) → Option Int32) (x1 : Int32) (g : MG) (c2 : Int32) (v5 : Int32) (v6 : Int32) (v7 : Int32) (v8 : Int32) (v9 : Int32) (w0 : Int32) : Option Int32 :=
  bnd (m_X6_row g v8 (4 : Int32)) fun (r105 : Int32) =>
 if w0 = 0 then
 m_L_place_J118 k21 x1 g c2 v5 v6 v7 v8 v9 w0 r105 (0 : Int32)
 else
 m_L_place_J118 k21 x1 g c2 v5 v6 v7 v8 v9 w0 r105 (1 : Int32)
def m_L_place_J77 (k21 : (Int32 × Int32 × Int32 × Int32 × Int32) → Option Int32) (x1 : Int32) (g : MG) (c2 : Int32) (v5 : Int32) (v6 : Int32) (v7 : Int32) (v8 : Int32) (v9 : Int32) : Option Int32 :=
  if (61 : Int32) ≤ x1 then
 m_L_place_J99 k21 x1 g c2 v5 v6 v7 v8 v9 (0 : Int32)
 else
 bnd (m_X6_row g v8 (3 : Int32)) fun (r87 : Int32) =>
 if r87 = x1 then
 m_L_place_J99 k21 x1 g c2 v5 v6 v7 v8 v9 (0 : Int32)
 else
 m_L_place_J99 k21 x1 g c2 v5 v6 v7 v8 v9 (1 : Int32)
def m_L_place_L21 (k21 : (Int32 × Int32 × Int32 × Int32 × Int32) → Option Int32) (g : MG) (x1 : Int32) (c2 : Int32) (v3 : Int32) (v4 : Int32) (v5 : Int32) (v6 : Int32) (v7 : Int32) : Option Int32 :=
  if c2 ≤ v7 then
 if c2 = 0 then
 m_L_place_J200 x1 g c2 v3 v5 v6 (-1005 : Int32)
 else
 bnd (m_X6_lies g x1 (0 : Int32)) fun (r193 : Int32) =>
 bnd (m_X6_row g r193 (0 : Int32)) fun (r197 : Int32) =>
 m_L_place_J200 x1 g c2 v3 v5 v6 r197
 else
 bnd (m_X6_lies g x1 v7) fun (r31 : Int32) =>
 bnd (m_X6_row g r31 (0 : Int32)) fun (r40 : Int32) =>
 bnd (m_X6_row g r31 (2 : Int32)) fun (r49 : Int32) =>
 if r49 = x1 then
 if r40 < v3 then
 some (0 : Int32)
 else
 if r40 = v3 then
 if v4 ≤ r31 then
 m_L_place_J77 k21 x1 g c2 v5 v6 v7 r31 r40
 else
 some (0 : Int32)
 else
 m_L_place_J77 k21 x1 g c2 v5 v6 v7 r31 r40
 else
 some (0 : Int32)
def b_L_place_L21 (g : MG) (x1 : Int32) (c2 : Int32) : ((Int32 × Int32 × Int32 × Int32 × Int32) → Option Int32) → (Int32 × Int32 × Int32 × Int32 × Int32) → Option Int32 := fun k x => m_L_place_L21 k g x1 c2 x.1 x.2.1 x.2.2.1 x.2.2.2.1 x.2.2.2.2
def m_L_place (g : MG) (x1 : Int32) : Option Int32 :=
  bnd (m_X6_slice g x1 (2 : Int32)) fun (r3 : Int32) =>
 lpo (b_L_place_L21 g x1 r3) fuelN ((-1 : Int32), (-1 : Int32), (0 : Int32), (0 : Int32), (0 : Int32))
def m_L_sums_J322 (g : MG) (v1 : Int32) (v2 : Int32) (v3 : Int32) (v5 : Int32) (v6 : Int32) (w0 : Int32) : Option Int32 :=
  if w0 = 0 then
 some (0 : Int32)
 else
 bnd (m_L_place g (60 : Int32)) fun (r332 : Int32) =>
 if r332 = 0 then
 some (0 : Int32)
 else
 bnd (m_L_place g (61 : Int32)) fun (r341 : Int32) =>
 if r341 = 0 then
 some (0 : Int32)
 else
 bnd (m_X6_slice g (60 : Int32) (6 : Int32)) fun (r352 : Int32) =>
 if r352 = 0 then
 bnd (m_X6_count g (0 : Int32)) fun (r361 : Int32) =>
 bnd (m_X6_ordered g r361) fun (r364 : Int32) =>
 if r364 = (-1005 : Int32) then
 bnd (m_X6_count g (2 : Int32)) fun (r376 : Int32) =>
 if v1 = r376 then
 bnd (m_X6_count g (5 : Int32)) fun (r385 : Int32) =>
 if v2 = r385 then
 bnd (m_X6_count g (8 : Int32)) fun (r395 : Int32) =>
 if (v3 + r395) = (1000 : Int32) then
 bnd (m_X6_count g (7 : Int32)) fun (r410 : Int32) =>
 if v5 = r410 then
 bnd (m_X6_gap g v5 (0 : Int32)) fun (r420 : Int32) =>
 if r420 = (-1005 : Int32) then
 bnd (m_X6_heaviest g) fun (r432 : Int32) =>
 if v6 = r432 then
 bnd (m_X6_slice g (61 : Int32) (2 : Int32)) fun (r442 : Int32) =>
 bnd (m_X6_count g (3 : Int32)) fun (r447 : Int32) =>
 if r442 = r447 then
 if v2 = 0 then
 bnd (m_X6_stray g (0 : Int32)) fun (r459 : Int32) =>
 if r459 = (-1005 : Int32) then
 some (1 : Int32)
 else
 some (0 : Int32)
 else
 bnd (m_X6_stray g (0 : Int32)) fun (r474 : Int32) =>
 bnd (m_X6_row g r474 (4 : Int32)) fun (r478 : Int32) =>
 if r478 = (1 : Int32) then
 some (1 : Int32)
 else
 some (0 : Int32)
 else
 some (0 : Int32)
 else
 some (0 : Int32)
 else
 some (0 : Int32)
 else
 some (0 : Int32)
 else
 some (0 : Int32)
 else
 some (0 : Int32)
 else
 some (0 : Int32)
 else
 some (0 : Int32)
 else
 some (0 : Int32)
def m_L_sums_J277 (g : MG) (v1 : Int32) (v2 : Int32) (v3 : Int32) (v4 : Int32) (v6 : Int32) (w0 : Int32) (w1 : Int32) : Option Int32 :=
  if v4 = (1000 : Int32) then
 m_L_sums_J322 g v1 v2 v3 (w0 + w1) v6 (1 : Int32)
 else
 bnd (m_X6_gap g ((w0 + w1) - (1 : Int32)) (0 : Int32)) fun (r294 : Int32) =>
 if r294 = v4 then
 bnd (m_X6_gap g ((w0 + w1) - (1 : Int32)) (1 : Int32)) fun (r308 : Int32) =>
 if r308 = (999 : Int32) then
 m_L_sums_J322 g v1 v2 v3 (w0 + w1) v6 (1 : Int32)
 else
 m_L_sums_J322 g v1 v2 v3 (w0 + w1) v6 (0 : Int32)
 else
 m_L_sums_J322 g v1 v2 v3 (w0 + w1) v6 (0 : Int32)
def m_L_sums_J214 (k26 : (Int32 × Int32 × Int32 × Int32 × Int32 × Int32 × Int32) → Option Int32) (g : MG) (v1 : Int32) (v2 : Int32) (v3 : Int32) (v4 : Int32) (v5 : Int32) (v6 : Int32) (v7 : Int32) (v8 : Int32) (w0 : Int32) : Option Int32 :=
  bnd (m_X6_slice g v8 (2 : Int32)) fun (r220 : Int32) =>
 if w0 < r220 then
 k26 (v1, v2, v3, v4, v5, v8, (v7 + (1 : Int32)))
 else
 bnd (m_X6_slice g v8 (2 : Int32)) fun (r232 : Int32) =>
 if r232 = w0 then
 if v6 ≤ v8 then
 k26 (v1, v2, v3, v4, v5, v6, (v7 + (1 : Int32)))
 else
 k26 (v1, v2, v3, v4, v5, v8, (v7 + (1 : Int32)))
 else
 k26 (v1, v2, v3, v4, v5, v6, (v7 + (1 : Int32)))
def m_L_sums_J155 (k26 : (Int32 × Int32 × Int32 × Int32 × Int32 × Int32 × Int32) → Option Int32) (g : MG) (v1 : Int32) (v2 : Int32) (v3 : Int32) (v5 : Int32) (v6 : Int32) (v7 : Int32) (v8 : Int32) : Option Int32 :=
  bnd (m_X6_slice g v8 (1 : Int32)) fun (r159 : Int32) =>
 bnd (m_X6_slice g v8 (0 : Int32)) fun (r171 : Int32) =>
 bnd (m_X6_slice g v8 (2 : Int32)) fun (r182 : Int32) =>
 bnd (m_X6_slice g v8 (6 : Int32)) fun (r193 : Int32) =>
 if 0 ≤ v6 then
 bnd (m_X6_slice g v6 (2 : Int32)) fun (r211 : Int32) =>
 m_L_sums_J214 k26 g (v1 + r182) (v2 + r193) (v3 + (r159 - r171)) r159 v5 v6 v7 v8 r211
 else
 m_L_sums_J214 k26 g (v1 + r182) (v2 + r193) (v3 + (r159 - r171)) r159 v5 v6 v7 v8 (-1 : Int32)
def m_L_sums_J103 (k26 : (Int32 × Int32 × Int32 × Int32 × Int32 × Int32 × Int32) → Option Int32) (g : MG) (v1 : Int32) (v2 : Int32) (v3 : Int32) (v4 : Int32) (v6 : Int32) (v7 : Int32) (v8 : Int32) (w0 : Int32) (w1 : Int32) : Option Int32 :=
  bnd (m_X6_slice g v8 (0 : Int32)) fun (r110 : Int32) =>
 if r110 ≤ v4 then
 m_L_sums_J155 k26 g v1 v2 v3 (w0 + w1) v6 v7 v8
 else
 bnd (m_X6_gap g ((w0 + w1) - (1 : Int32)) (0 : Int32)) fun (r124 : Int32) =>
 if r124 = v4 then
 bnd (m_X6_gap g ((w0 + w1) - (1 : Int32)) (1 : Int32)) fun (r138 : Int32) =>
 bnd (m_X6_slice g v8 (0 : Int32)) fun (r145 : Int32) =>
 if r138 = (r145 - (1 : Int32)) then
 m_L_sums_J155 k26 g v1 v2 v3 (w0 + w1) v6 v7 v8
 else
 some (0 : Int32)
 else
 some (0 : Int32)
def m_L_sums_L26 (k26 : (Int32 × Int32 × Int32 × Int32 × Int32 × Int32 × Int32) → Option Int32) (g : MG) (v1 : Int32) (v2 : Int32) (v3 : Int32) (v4 : Int32) (v5 : Int32) (v6 : Int32) (v7 : Int32) : Option Int32 :=
  bnd (m_X6_count g (0 : Int32)) fun (r30 : Int32) =>
 if r30 ≤ v7 then
 if (1000 : Int32) ≤ v4 then
 m_L_sums_J277 g v1 v2 v3 v4 v6 v5 (0 : Int32)
 else
 m_L_sums_J277 g v1 v2 v3 v4 v6 v5 (1 : Int32)
 else
 bnd (m_X6_ordered g v7) fun (r39 : Int32) =>
 bnd (m_X6_slice g r39 (0 : Int32)) fun (r48 : Int32) =>
 if r48 < v4 then
 some (0 : Int32)
 else
 bnd (m_X6_slice g r39 (1 : Int32)) fun (r60 : Int32) =>
 bnd (m_X6_slice g r39 (0 : Int32)) fun (r67 : Int32) =>
 if r60 ≤ r67 then
 some (0 : Int32)
 else
 bnd (m_L_place g r39) fun (r76 : Int32) =>
 if r76 = 0 then
 some (0 : Int32)
 else
 bnd (m_X6_slice g r39 (0 : Int32)) fun (r90 : Int32) =>
 if r90 ≤ v4 then
 m_L_sums_J103 k26 g v1 v2 v3 v4 v6 v7 r39 v5 (0 : Int32)
 else
 m_L_sums_J103 k26 g v1 v2 v3 v4 v6 v7 r39 v5 (1 : Int32)
def b_L_sums_L26 (g : MG) : ((Int32 × Int32 × Int32 × Int32 × Int32 × Int32 × Int32) → Option Int32) → (Int32 × Int32 × Int32 × Int32 × Int32 × Int32 × Int32) → Option Int32 := fun k x => m_L_sums_L26 k g x.1 x.2.1 x.2.2.1 x.2.2.2.1 x.2.2.2.2.1 x.2.2.2.2.2.1 x.2.2.2.2.2.2
def m_L_sums (g : MG)  : Option Int32 :=
  bnd (m_X6_slice g (60 : Int32) (2 : Int32)) fun (r4 : Int32) =>
 lpo (b_L_sums_L26 g) fuelN (r4, (0 : Int32), (0 : Int32), (0 : Int32), (0 : Int32), (-1005 : Int32), (0 : Int32))
def m_L_act (g : MG) (x1 : Int32) (x2 : Int32) : Option (Int32 × MG) :=
  bnd (m_L_low g (x1 >>> ((3 : Int32) &&& 31)) (16 : Int32)) fun (r5 : Int32) =>
 bnd (m_X6_count g (1 : Int32)) fun (r15 : Int32) =>
 bnd (m_L_low g (x1 >>> ((8 : Int32) &&& 31)) (r15 + (1 : Int32))) fun (r20 : Int32) =>
 bnd (m_L_low g x2 (990 : Int32)) fun (r29 : Int32) =>
 if (5 : Int32) ≤ r5 then
 if r5 = (5 : Int32) then
 bnd (m_L_low g x2 (1000 : Int32)) fun (r70 : Int32) =>
 bnd (m_L_low g (x2 >>> ((10 : Int32) &&& 31)) (100 : Int32)) fun (r79 : Int32) =>
 bnd2 (m_X6_stage g r70 r79) fun (r82 : Int32) (g82 : MG) =>
 some (r82, g82)
 else
 if (8 : Int32) ≤ r5 then
 if r5 = (8 : Int32) then
 bnd (m_L_low g x2 (2 : Int32)) fun (r130 : Int32) =>
 if r130 = 0 then
 bnd (m_X6_count g (4 : Int32)) fun (r142 : Int32) =>
 bnd (m_L_low g (x2 >>> ((1 : Int32) &&& 31)) (r142 + (1 : Int32))) fun (r147 : Int32) =>
 bnd2 (m_X6_take g r147) fun (r150 : Int32) (g150 : MG) =>
 some (r150, g150)
 else
 bnd (m_X6_count g (4 : Int32)) fun (r162 : Int32) =>
 bnd (m_L_low g (x2 >>> ((1 : Int32) &&& 31)) (r162 + (1 : Int32))) fun (r167 : Int32) =>
 bnd (m_L_low g (x2 >>> ((7 : Int32) &&& 31)) (1000 : Int32)) fun (r177 : Int32) =>
 bnd2 (m_X6_rekey g r167 r177) fun (r180 : Int32) (g180 : MG) =>
 some (r180, g180)
 else
 if r5 = (9 : Int32) then
 bnd (m_X6_slice g r20 (0 : Int32)) fun (r197 : Int32) =>
 bnd (m_L_low g x2 (60 : Int32)) fun (r203 : Int32) =>
 bnd2 (m_X6_split g r20 (r197 + r203)) fun (r207 : Int32) (g207 : MG) =>
 some (r207, g207)
 else
 if r5 = (10 : Int32) then
 bnd (m_X6_count g (1 : Int32)) fun (r223 : Int32) =>
 bnd (m_L_low g x2 (r223 + (1 : Int32))) fun (r228 : Int32) =>
 bnd2 (m_X6_merge g r20 r228) fun (r231 : Int32) (g231 : MG) =>
 some (r231, g231)
 else
 if r5 = (11 : Int32) then
 bnd (m_L_low g x2 (2 : Int32)) fun (r243 : Int32) =>
 if r243 = 0 then
 bnd2 (m_X6_detach g r20) fun (r252 : Int32) (g252 : MG) =>
 some (r252, g252)
 else
 bnd (m_L_low g (x2 >>> ((3 : Int32) &&& 31)) (900 : Int32)) fun (r272 : Int32) =>
 if ¬ ((991 : Int32) - r29) = 0 then
 bnd2 (m_X6_attach g r29 ((r29 + (10 : Int32)) + (r272 - r272 / ((991 : Int32) - r29) * ((991 : Int32) - r29)))) fun (r283 : Int32) (g283 : MG) =>
 some (r283, g283)
 else none
 else
 if r5 = (12 : Int32) then
 bnd (m_L_low g x2 (2 : Int32)) fun (r298 : Int32) =>
 if r298 = 0 then
 bnd2 (m_X6_swap g r20 (1 : Int32)) fun (r309 : Int32) (g309 : MG) =>
 some (r309, g309)
 else
 bnd2 (m_X6_swap g r20 (0 : Int32)) fun (r309 : Int32) (g309 : MG) =>
 some (r309, g309)
 else
 if r5 = (13 : Int32) then
 bnd2 (m_X6_mend g) fun (r320 : Int32) (g320 : MG) =>
 some (r320, g320)
 else
 if r5 = (14 : Int32) then
 bnd (m_L_low g x2 (2 : Int32)) fun (r333 : Int32) =>
 bnd (m_L_low g (x2 >>> ((1 : Int32) &&& 31)) (2 : Int32)) fun (r340 : Int32) =>
 bnd2 (m_X6_set g r333 r340) fun (r343 : Int32) (g343 : MG) =>
 some (r343, g343)
 else
 bnd (m_L_low g x2 (3 : Int32)) fun (r349 : Int32) =>
 if r349 = 0 then
 bnd (m_L_low g (x2 >>> ((2 : Int32) &&& 31)) (2 : Int32)) fun (r360 : Int32) =>
 if r360 = 0 then
 bnd2 (m_X6_useDefault g (1 : Int32)) fun (r371 : Int32) (g371 : MG) =>
 some (r371, g371)
 else
 bnd2 (m_X6_useDefault g (0 : Int32)) fun (r371 : Int32) (g371 : MG) =>
 some (r371, g371)
 else
 bnd (m_L_low g x2 (3 : Int32)) fun (r379 : Int32) =>
 if r379 = (1 : Int32) then
 bnd2 (m_X6_dropSlice g r20) fun (r389 : Int32) (g389 : MG) =>
 some (r389, g389)
 else
 bnd2 (m_X6_put g r29 (1 : Int32)) fun (r399 : Int32) (g399 : MG) =>
 some (r399, g399)
 else
 if ¬ (2 : Int32) = 0 then
 bnd (m_L_low g (x2 >>> ((9 : Int32) &&& 31)) ((10 : Int32) + (((990 : Int32) - r29) / (2 : Int32)))) fun (r114 : Int32) =>
 bnd2 (m_X6_addSlice g r29 ((r29 + (1 : Int32)) + r114)) fun (r118 : Int32) (g118 : MG) =>
 some (r118, g118)
 else none
 else
 bnd (m_L_low g x2 (1000 : Int32)) fun (r44 : Int32) =>
 bnd (m_L_low g (x2 >>> ((10 : Int32) &&& 31)) (100 : Int32)) fun (r53 : Int32) =>
 bnd2 (m_X6_put g r44 r53) fun (r56 : Int32) (g56 : MG) =>
 some (r56, g56)
def m_L_back_J518 (x1 : Int32) (x2 : Int32) (v3 : Int32) (v4 : Int32) (v5 : Int32) (v6 : Int32) (v7 : Int32) (g : MG) : Option (Int32 × MG) :=
  bnd (m_X6_slice g v3 (0 : Int32)) fun (r521 : Int32) =>
 if r521 = v4 then
 bnd (m_X6_slice g v3 (1 : Int32)) fun (r532 : Int32) =>
 if r532 = v5 then
 bnd (m_X6_slice g v3 (2 : Int32)) fun (r543 : Int32) =>
 if r543 = v6 then
 bnd (m_X6_slice g v3 (5 : Int32)) fun (r554 : Int32) =>
 if r554 = v7 then
 some ((1 : Int32), g)
 else
 some ((0 : Int32), g)
 else
 some ((0 : Int32), g)
 else
 some ((0 : Int32), g)
 else
 some ((0 : Int32), g)
def m_L_back_J503 (x1 : Int32) (x2 : Int32) (v3 : Int32) (v4 : Int32) (v5 : Int32) (v6 : Int32) (v7 : Int32) (v12 : Int32) (g : MG) : Option (Int32 × MG) :=
  bnd2 (m_X6_undo g) fun (r504 : Int32) (g504 : MG) =>
 if v12 < 0 then
 m_L_back_J518 x1 x2 v3 v4 v5 v6 v7 g504
 else
 bnd2 (m_X6_undo g504) fun (r514 : Int32) (g514 : MG) =>
 m_L_back_J518 x1 x2 v3 v4 v5 v6 v7 g514
def m_L_back_J403 (x1 : Int32) (x2 : Int32) (v3 : Int32) (v4 : Int32) (v5 : Int32) (v6 : Int32) (v7 : Int32) (v8 : Int32) (v10 : Int32) (g : MG) : Option (Int32 × MG) :=
  if (20 : Int32) < v6 then
 m_L_back_J518 x1 x2 v3 v4 v5 v6 v7 g
 else
 if v10 = 0 then
 if v8 = 0 then
 bnd2 (m_X6_detach g v3) fun (r422 : Int32) (g422 : MG) =>
 if r422 = v6 then
 bnd (m_X6_count g422 (3 : Int32)) fun (r432 : Int32) =>
 if r432 = v6 then
 bnd (m_X6_slice g422 v3 (0 : Int32)) fun (r443 : Int32) =>
 if r443 = (-1001 : Int32) then
 bnd2 (m_X6_attach g422 v4 v5) fun (r459 : Int32) (g459 : MG) =>
 if r459 < 0 then
 m_L_back_J503 x1 x2 v3 v4 v5 v6 v7 r459 g459
 else
 bnd (m_X6_slice g459 r459 (2 : Int32)) fun (r473 : Int32) =>
 if r473 = v6 then
 bnd (m_X6_slice g459 r459 (5 : Int32)) fun (r485 : Int32) =>
 if r485 = v7 then
 bnd (m_X6_count g459 (3 : Int32)) fun (r495 : Int32) =>
 if r495 = 0 then
 m_L_back_J503 x1 x2 v3 v4 v5 v6 v7 r459 g459
 else
 some ((0 : Int32), g459)
 else
 some ((0 : Int32), g459)
 else
 some ((0 : Int32), g459)
 else
 some ((0 : Int32), g422)
 else
 some ((0 : Int32), g422)
 else
 some ((0 : Int32), g422)
 else
 m_L_back_J518 x1 x2 v3 v4 v5 v6 v7 g
 else
 m_L_back_J518 x1 x2 v3 v4 v5 v6 v7 g
def m_L_back_J331 (x1 : Int32) (x2 : Int32) (v3 : Int32) (v4 : Int32) (v5 : Int32) (v6 : Int32) (v7 : Int32) (v8 : Int32) (v10 : Int32) (v11 : Int32) (v12 : Int32) (g : MG) : Option (Int32 × MG) :=
  bnd (m_X6_count g (3 : Int32)) fun (r333 : Int32) =>
 if r333 = v6 then
 bnd (m_X6_slice g v3 (6 : Int32)) fun (r345 : Int32) =>
 if r345 = v11 then
 bnd2 (m_X6_swap g v3 (0 : Int32)) fun (r356 : Int32) (g356 : MG) =>
 if r356 = v6 then
 bnd (m_X6_slice g356 v3 (5 : Int32)) fun (r367 : Int32) =>
 if r367 = v7 then
 bnd (m_X6_lies g356 v3 (0 : Int32)) fun (r379 : Int32) =>
 bnd (m_X6_row g356 r379 (0 : Int32)) fun (r383 : Int32) =>
 if r383 = v12 then
 bnd2 (m_X6_undo g356) fun (r394 : Int32) (g394 : MG) =>
 bnd2 (m_X6_undo g394) fun (r399 : Int32) (g399 : MG) =>
 m_L_back_J403 x1 x2 v3 v4 v5 v6 v7 v8 v10 g399
 else
 some ((0 : Int32), g356)
 else
 some ((0 : Int32), g356)
 else
 some ((0 : Int32), g356)
 else
 some ((0 : Int32), g)
 else
 some ((0 : Int32), g)
def m_L_back_J310 (x1 : Int32) (x2 : Int32) (v3 : Int32) (v4 : Int32) (v5 : Int32) (v6 : Int32) (v7 : Int32) (v8 : Int32) (v10 : Int32) (v11 : Int32) (v12 : Int32) (w0 : Int32) (w1 : Int32) (g : MG) : Option (Int32 × MG) :=
  if w0 = w1 then
 if v11 ≤ 0 then
 m_L_back_J331 x1 x2 v3 v4 v5 v6 v7 v8 v10 v11 v12 g
 else
 bnd2 (m_X6_swap g v3 (0 : Int32)) fun (r321 : Int32) (g321 : MG) =>
 if r321 = v10 then
 m_L_back_J331 x1 x2 v3 v4 v5 v6 v7 v8 v10 v11 v12 g321
 else
 some ((0 : Int32), g321)
 else
 some ((0 : Int32), g)
def m_L_back_J257 (x1 : Int32) (x2 : Int32) (v3 : Int32) (v4 : Int32) (v5 : Int32) (v6 : Int32) (v7 : Int32) (v8 : Int32) (g : MG) : Option (Int32 × MG) :=
  bnd (m_X6_count g (3 : Int32)) fun (r259 : Int32) =>
 bnd (m_X6_unfit g v3) fun (r266 : Int32) =>
 if (20 : Int32) < v6 then
 m_L_back_J403 x1 x2 v3 v4 v5 v6 v7 v8 r259 g
 else
 bnd (m_X6_lies g v3 (0 : Int32)) fun (r282 : Int32) =>
 bnd (m_X6_row g r282 (0 : Int32)) fun (r286 : Int32) =>
 bnd2 (m_X6_swap g v3 (1 : Int32)) fun (r294 : Int32) (g294 : MG) =>
 if r266 ≤ 0 then
 m_L_back_J310 x1 x2 v3 v4 v5 v6 v7 v8 r259 r266 r286 r294 r259 g294
 else
 m_L_back_J310 x1 x2 v3 v4 v5 v6 v7 v8 r259 r266 r286 r294 (-1004 : Int32) g294
def m_L_back_J113 (x1 : Int32) (x2 : Int32) (v3 : Int32) (v4 : Int32) (v5 : Int32) (v6 : Int32) (v7 : Int32) (v8 : Int32) (v9 : Int32) (g : MG) : Option (Int32 × MG) :=
  if v9 < 0 then
 m_L_back_J257 x1 x2 v3 v4 v5 v6 v7 v8 g
 else
 bnd2 (m_X6_split g v3 v9) fun (r122 : Int32) (g122 : MG) =>
 if r122 < 0 then
 m_L_back_J257 x1 x2 v3 v4 v5 v6 v7 v8 g122
 else
 bnd (m_X6_slice g122 v3 (1 : Int32)) fun (r135 : Int32) =>
 if r135 = v9 then
 bnd (m_X6_slice g122 r122 (0 : Int32)) fun (r147 : Int32) =>
 if r147 = v9 then
 bnd (m_X6_slice g122 r122 (1 : Int32)) fun (r159 : Int32) =>
 if r159 = v5 then
 bnd (m_X6_slice g122 v3 (2 : Int32)) fun (r170 : Int32) =>
 bnd (m_X6_slice g122 r122 (2 : Int32)) fun (r177 : Int32) =>
 if (r170 + r177) = v6 then
 bnd2 (m_X6_merge g122 r122 v3) fun (r192 : Int32) (g192 : MG) =>
 if r192 = v6 then
 bnd (m_X6_slice g192 v3 (0 : Int32)) fun (r203 : Int32) =>
 if r203 = v4 then
 bnd (m_X6_slice g192 v3 (1 : Int32)) fun (r214 : Int32) =>
 if r214 = v5 then
 bnd (m_X6_slice g192 v3 (5 : Int32)) fun (r225 : Int32) =>
 if r225 = v7 then
 bnd (m_X6_slice g192 v3 (6 : Int32)) fun (r237 : Int32) =>
 if r237 = v8 then
 bnd2 (m_X6_undo g192) fun (r248 : Int32) (g248 : MG) =>
 bnd2 (m_X6_undo g248) fun (r253 : Int32) (g253 : MG) =>
 m_L_back_J257 x1 x2 v3 v4 v5 v6 v7 v8 g253
 else
 some ((0 : Int32), g192)
 else
 some ((0 : Int32), g192)
 else
 some ((0 : Int32), g192)
 else
 some ((0 : Int32), g192)
 else
 some ((0 : Int32), g192)
 else
 some ((0 : Int32), g122)
 else
 some ((0 : Int32), g122)
 else
 some ((0 : Int32), g122)
 else
 some ((0 : Int32), g122)
def m_L_back (g : MG) (x1 : Int32) (x2 : Int32) : Option (Int32 × MG) :=
  bnd (m_X6_count g (1 : Int32)) fun (r3 : Int32) =>
 bnd (m_L_low g x1 (r3 + (1 : Int32))) fun (r8 : Int32) =>
 bnd (m_X6_slice g r8 (2 : Int32)) fun (r15 : Int32) =>
 if r15 < 0 then
 some ((1 : Int32), g)
 else
 if r8 ≤ (59 : Int32) then
 bnd (m_X6_slice g r8 (0 : Int32)) fun (r32 : Int32) =>
 bnd (m_X6_slice g r8 (1 : Int32)) fun (r40 : Int32) =>
 bnd (m_X6_slice g r8 (2 : Int32)) fun (r48 : Int32) =>
 bnd (m_X6_slice g r8 (5 : Int32)) fun (r56 : Int32) =>
 bnd (m_X6_slice g r8 (6 : Int32)) fun (r65 : Int32) =>
 bnd (m_X6_bestSplit g r8) fun (r72 : Int32) =>
 if r72 = (-1005 : Int32) then
 if r40 = (r32 + (1 : Int32)) then
 m_L_back_J113 x1 x2 r8 r32 r40 r48 r56 r65 r72 g
 else
 some ((0 : Int32), g)
 else
 if r72 ≤ r32 then
 some ((0 : Int32), g)
 else
 if r72 < r40 then
 m_L_back_J113 x1 x2 r8 r32 r40 r48 r56 r65 r72 g
 else
 some ((0 : Int32), g)
 else
 some ((1 : Int32), g)
def m_L_turned_L361 (k361 : (Int32 × MG) → Option (Int32 × MG)) (k14 : (Int32 × MG × (Nat → Int32)) → Option (Int32 × MG)) (f : Nat → Int32) (x1 : Int32) (c3 : Int32) (c4 : Int32) (c5 : Int32) (v6 : Int32) (g : MG) : Option (Int32 × MG) :=
  if c5 ≤ v6 then
 bnd2 (m_X6_spared g) fun (r413 : Int32 × Int32 × Int32) (g413 : MG) => if spk r413 then
 bnd2 (m_X6_spared g413) fun (r422 : Int32 × Int32 × Int32) (g422 : MG) => if spk r422 then
 bnd (m_X6_count g422 (9 : Int32)) fun (r433 : Int32) =>
 if r433 = 0 then
 bnd2 (m_X6_spared g422) fun (r440 : Int32 × Int32 × Int32) (g440 : MG) => if spz r440 then
 k14 ((c4 + (1 : Int32)), g440, f)
 else none
 else
 k14 ((c4 + (1 : Int32)), g422, f)
 else none
 else none
 else
 bnd2 (m_X6_answer g v6) fun (r372 : Int32) (g372 : MG) =>
 bnd2 (m_X6_passes g372 r372) fun (r375 : Int32) (g375 : MG) =>
 if r375 = (1 : Int32) then
 if v6 ≤ 0 then
 k361 ((v6 + (1 : Int32)), g375)
 else
 bnd2 (m_X6_answer g375 v6) fun (r390 : Int32) (g390 : MG) =>
 bnd2 (m_X6_answer g390 (v6 - (1 : Int32))) fun (r398 : Int32) (g398 : MG) =>
 if r398 < r390 then
 k361 ((v6 + (1 : Int32)), g398)
 else
 some ((0 : Int32), g398)
 else
 some ((0 : Int32), g375)
def b_L_turned_L361 (k14 : (Int32 × MG × (Nat → Int32)) → Option (Int32 × MG)) (f : Nat → Int32) (x1 : Int32) (c3 : Int32) (c4 : Int32) (c5 : Int32) : ((Int32 × MG) → Option (Int32 × MG)) → (Int32 × MG) → Option (Int32 × MG) := fun k x => m_L_turned_L361 k k14 f x1 c3 c4 c5 x.1 x.2
def m_L_turned_J358 (k14 : (Int32 × MG × (Nat → Int32)) → Option (Int32 × MG)) (x1 : Int32) (c3 : Int32) (v4 : Int32) (v5 : Int32) (g : MG) (f : Nat → Int32) : Option (Int32 × MG) :=
  lpo (b_L_turned_L361 k14 f x1 c3 v4 v5) fuelN ((0 : Int32), g)
def m_L_turned_J272 (k223 : (Int32 × MG × (Nat → Int32)) → Option (Int32 × MG)) (k14 : (Int32 × MG × (Nat → Int32)) → Option (Int32 × MG)) (x1 : Int32) (c3 : Int32) (c4 : Int32) (v5 : Int32) (v6 : Int32) (g : MG) (f : Nat → Int32) : Option (Int32 × MG) :=
  if vin v5 64 then
 k223 ((v5 + (1 : Int32)), g, (upd f v5.toNatClampNeg v6))
 else none
def m_L_turned_L223 (k223 : (Int32 × MG × (Nat → Int32)) → Option (Int32 × MG)) (k14 : (Int32 × MG × (Nat → Int32)) → Option (Int32 × MG)) (x1 : Int32) (c3 : Int32) (c4 : Int32) (v5 : Int32) (g : MG) (f : Nat → Int32) : Option (Int32 × MG) :=
  if (64 : Int32) ≤ v5 then
 bnd2 (m_X6_ask g (0 : Int32)) fun (r286 : Int32) (g286 : MG) =>
 bnd2 (m_X6_ask g286 (4 : Int32)) fun (r295 : Int32) (g295 : MG) =>
 if r295 < r286 then
 some ((0 : Int32), g295)
 else
 bnd2 (m_X6_ask g295 (5 : Int32)) fun (r303 : Int32) (g303 : MG) =>
 bnd2 (m_X6_ask g303 (4 : Int32)) fun (r308 : Int32) (g308 : MG) =>
 if r303 = (r308 - r286) then
 bnd2 (m_X6_ask g308 (3 : Int32)) fun (r319 : Int32) (g319 : MG) =>
 if r319 < r286 then
 some ((0 : Int32), g319)
 else
 bnd2 (m_X6_ask g319 (3 : Int32)) fun (r329 : Int32) (g329 : MG) =>
 bnd (m_X6_count g329 (2 : Int32)) fun (r334 : Int32) =>
 if r334 < r329 then
 some ((0 : Int32), g329)
 else
 bnd (m_X6_count g329 (5 : Int32)) fun (r342 : Int32) =>
 if r342 = 0 then
 bnd2 (m_X6_ask g329 (5 : Int32)) fun (r350 : Int32) (g350 : MG) =>
 if r350 = 0 then
 m_L_turned_J358 k14 x1 c3 c4 r286 g350 f
 else
 some ((0 : Int32), g350)
 else
 m_L_turned_J358 k14 x1 c3 c4 r286 g329 f
 else
 some ((0 : Int32), g308)
 else
 bnd2 (m_X6_passes g v5) fun (r233 : Int32) (g233 : MG) =>
 bnd (m_X6_count g233 (4 : Int32)) fun (r242 : Int32) =>
 if r242 ≤ v5 then
 m_L_turned_J272 k223 k14 x1 c3 c4 v5 r233 g233 f
 else
 if r233 < 0 then
 m_L_turned_J272 k223 k14 x1 c3 c4 v5 r233 g233 f
 else
 if c4 = (1 : Int32) then
 if vin v5 64 then
 if ((f v5.toNatClampNeg) + r233) = (1 : Int32) then
 m_L_turned_J272 k223 k14 x1 c3 c4 v5 r233 g233 f
 else
 some ((0 : Int32), g233)
 else none
 else
 m_L_turned_J272 k223 k14 x1 c3 c4 v5 r233 g233 f
def b_L_turned_L223 (k14 : (Int32 × MG × (Nat → Int32)) → Option (Int32 × MG)) (x1 : Int32) (c3 : Int32) (c4 : Int32) : ((Int32 × MG × (Nat → Int32)) → Option (Int32 × MG)) → (Int32 × MG × (Nat → Int32)) → Option (Int32 × MG) := fun k x => m_L_turned_L223 k k14 x1 c3 c4 x.1 x.2.1 x.2.2
def m_L_turned_J220 (k14 : (Int32 × MG × (Nat → Int32)) → Option (Int32 × MG)) (x1 : Int32) (c3 : Int32) (v4 : Int32) (g : MG) (f : Nat → Int32) : Option (Int32 × MG) :=
  lpo (b_L_turned_L223 k14 x1 c3 v4) fuelN ((0 : Int32), g, f)
def m_L_turned_J157 (k14 : (Int32 × MG × (Nat → Int32)) → Option (Int32 × MG)) (x1 : Int32) (c3 : Int32) (v4 : Int32) (w1 : Int32) (g : MG) (f : Nat → Int32) : Option (Int32 × MG) :=
  bnd2 (m_X6_type g w1) fun (r157 : Int32) (g157 : MG) =>
 bnd2 (m_X6_type g157 (107 : Int32)) fun (r164 : Int32) (g164 : MG) =>
 bnd2 (m_X6_type g164 (62 : Int32)) fun (r171 : Int32) (g171 : MG) =>
 bnd (m_L_low g171 (x1 >>> ((12 : Int32) &&& 31)) (9 : Int32)) fun (r184 : Int32) =>
 bnd2 (m_X6_type g171 ((((49 : Int32) + r184).toUInt32 % 65536).toInt32)) fun (r189 : Int32) (g189 : MG) =>
 bnd2 (m_X6_type g189 (48 : Int32)) fun (r196 : Int32) (g196 : MG) =>
 bnd2 (m_X6_type g196 (48 : Int32)) fun (r203 : Int32) (g203 : MG) =>
 if v4 = (1 : Int32) then
 bnd2 (m_X6_type g203 (41 : Int32)) fun (r216 : Int32) (g216 : MG) =>
 m_L_turned_J220 k14 x1 c3 v4 g216 f
 else
 m_L_turned_J220 k14 x1 c3 v4 g203 f
def m_L_turned_J99 (k14 : (Int32 × MG × (Nat → Int32)) → Option (Int32 × MG)) (x1 : Int32) (c3 : Int32) (v4 : Int32) (w1 : Int32) (g : MG) (f : Nat → Int32) : Option (Int32 × MG) :=
  bnd2 (m_X6_type g w1) fun (r99 : Int32) (g99 : MG) =>
 bnd (m_L_low g99 (x1 >>> ((3 : Int32) &&& 31)) (9 : Int32)) fun (r111 : Int32) =>
 bnd2 (m_X6_type g99 ((((49 : Int32) + r111).toUInt32 % 65536).toInt32)) fun (r116 : Int32) (g116 : MG) =>
 bnd (m_L_low g116 (x1 >>> ((7 : Int32) &&& 31)) (10 : Int32)) fun (r129 : Int32) =>
 bnd2 (m_X6_type g116 ((((48 : Int32) + r129).toUInt32 % 65536).toInt32)) fun (r134 : Int32) (g134 : MG) =>
 bnd (m_L_low g134 (x1 >>> ((11 : Int32) &&& 31)) (2 : Int32)) fun (r144 : Int32) =>
 if r144 = 0 then
 m_L_turned_J157 k14 x1 c3 v4 (38 : Int32) g134 f
 else
 m_L_turned_J157 k14 x1 c3 v4 (124 : Int32) g134 f
def m_L_turned_J63 (k14 : (Int32 × MG × (Nat → Int32)) → Option (Int32 × MG)) (x1 : Int32) (c3 : Int32) (v4 : Int32) (w1 : Int32) (g : MG) (f : Nat → Int32) : Option (Int32 × MG) :=
  bnd2 (m_X6_type g w1) fun (r63 : Int32) (g63 : MG) =>
 if c3 = 0 then
 m_L_turned_J99 k14 x1 c3 v4 (60 : Int32) g63 f
 else
 if c3 = (1 : Int32) then
 m_L_turned_J99 k14 x1 c3 v4 (62 : Int32) g63 f
 else
 if c3 = (2 : Int32) then
 m_L_turned_J99 k14 x1 c3 v4 (61 : Int32) g63 f
 else
 m_L_turned_J99 k14 x1 c3 v4 (35 : Int32) g63 f
def m_L_turned_J45 (k14 : (Int32 × MG × (Nat → Int32)) → Option (Int32 × MG)) (x1 : Int32) (c3 : Int32) (v4 : Int32) (g : MG) (f : Nat → Int32) : Option (Int32 × MG) :=
  bnd (m_L_low g (x1 >>> ((2 : Int32) &&& 31)) (2 : Int32)) fun (r50 : Int32) =>
 if r50 = 0 then
 m_L_turned_J63 k14 x1 c3 v4 (107 : Int32) g f
 else
 m_L_turned_J63 k14 x1 c3 v4 (118 : Int32) g f
def m_L_turned_L14 (k14 : (Int32 × MG × (Nat → Int32)) → Option (Int32 × MG)) (x1 : Int32) (c3 : Int32) (v4 : Int32) (g : MG) (f : Nat → Int32) : Option (Int32 × MG) :=
  if (2 : Int32) ≤ v4 then
 some ((1 : Int32), g)
 else
 bnd2 (m_X6_clearText g) fun (r21 : Int32) (g21 : MG) =>
 if v4 = (1 : Int32) then
 bnd2 (m_X6_type g21 (33 : Int32)) fun (r34 : Int32) (g34 : MG) =>
 bnd2 (m_X6_type g34 (40 : Int32)) fun (r41 : Int32) (g41 : MG) =>
 m_L_turned_J45 k14 x1 c3 v4 g41 f
 else
 m_L_turned_J45 k14 x1 c3 v4 g21 f
def b_L_turned_L14 (x1 : Int32) (c3 : Int32) : ((Int32 × MG × (Nat → Int32)) → Option (Int32 × MG)) → (Int32 × MG × (Nat → Int32)) → Option (Int32 × MG) := fun k x => m_L_turned_L14 k x1 c3 x.1 x.2.1 x.2.2
def m_L_turned (g : MG) (x1 : Int32) : Option (Int32 × MG) :=
  bnd (m_L_low g x1 (4 : Int32)) fun (r7 : Int32) =>
 lpo (b_L_turned_L14 x1 r7) fuelN ((0 : Int32), g, (fun _ => 0))
def m_L_law_J194 (k10 : (Int32 × MG) → Option Int32) (L : Nat) (xs : (Nat → Int32)) (v2 : Int32) (v3 : Int32) (v4 : Int32) (g : MG) : Option Int32 :=
  bnd (m_L_sums g) fun (r195 : Int32) =>
 if r195 = 0 then
 some 0
 else
 if ¬ (3 : Int32) = 0 then
 if (v2 - v2 / (3 : Int32) * (3 : Int32)) = (2 : Int32) then
 bnd2 (m_L_back g (v3 >>> ((5 : Int32) &&& 31)) v4) fun (r214 : Int32) (g214 : MG) =>
 if r214 = 0 then
 some 0
 else
 bnd2 (m_L_turned g214 (v4 >>> ((1 : Int32) &&& 31))) fun (r225 : Int32) (g225 : MG) =>
 if r225 = 0 then
 some 0
 else
 k10 ((v2 + (1 : Int32)), g225)
 else
 k10 ((v2 + (1 : Int32)), g)
 else none
def m_L_law_J166 (k10 : (Int32 × MG) → Option Int32) (L : Nat) (xs : (Nat → Int32)) (v2 : Int32) (v3 : Int32) (v4 : Int32) (v7 : Int32) (g : MG) : Option Int32 :=
  bnd (m_L_low g (v3 >>> ((3 : Int32) &&& 31)) (16 : Int32)) fun (r171 : Int32) =>
 if r171 = (13 : Int32) then
 if v7 < 0 then
 m_L_law_J194 k10 L xs v2 v3 v4 g
 else
 bnd (m_X6_count g (5 : Int32)) fun (r186 : Int32) =>
 if r186 = 0 then
 m_L_law_J194 k10 L xs v2 v3 v4 g
 else
 some 0
 else
 m_L_law_J194 k10 L xs v2 v3 v4 g
def m_L_law_L10 (k10 : (Int32 × MG) → Option Int32) (L : Nat) (xs : (Nat → Int32)) (v2 : Int32) (g : MG) : Option Int32 :=
  if (28 : Int32) ≤ v2 then
 some 1
 else
 bnd (m_L_cell L xs ((2 : Int32) * v2)) fun (r20 : Int32) =>
 bnd (m_L_cell L xs (((2 : Int32) * v2) + (1 : Int32))) fun (r30 : Int32) =>
 bnd (m_L_tell g) fun (f36 : Nat → Int32) =>
 bnd (m_X6_count g (11 : Int32)) fun (r44 : Int32) =>
 bnd2 (m_L_act g r20 r30) fun (r53 : Int32) (g53 : MG) =>
 bnd (m_L_tell g53) fun (f59 : Nat → Int32) =>
 if 0 ≤ r53 then
 if r53 < 0 then
 m_L_law_J166 k10 L xs v2 r20 r30 r53 g53
 else
 bnd (m_L_low g53 r20 (4 : Int32)) fun (r99 : Int32) =>
 if r99 = 0 then
 bnd2 (m_X6_undo g53) fun (r106 : Int32) (g106 : MG) =>
 bnd (m_L_tell g106) fun (f112 : Nat → Int32) =>
 bnd (m_L_same f112 f36) fun (r117 : Int32) =>
 if r117 = 0 then
 some 0
 else
 if r44 = (4 : Int32) then
 if r106 = (3 : Int32) then
 bnd2 (m_L_act g106 r20 r30) fun (r144 : Int32) (g144 : MG) =>
 if r144 = r53 then
 bnd (m_L_tell g144) fun (f153 : Nat → Int32) =>
 bnd (m_L_same f153 f59) fun (r158 : Int32) =>
 if r158 = 0 then
 some 0
 else
 m_L_law_J166 k10 L xs v2 r20 r30 r53 g144
 else
 some 0
 else
 some 0
 else
 if r106 = r44 then
 bnd2 (m_L_act g106 r20 r30) fun (r144 : Int32) (g144 : MG) =>
 if r144 = r53 then
 bnd (m_L_tell g144) fun (f153 : Nat → Int32) =>
 bnd (m_L_same f153 f59) fun (r158 : Int32) =>
 if r158 = 0 then
 some 0
 else
 m_L_law_J166 k10 L xs v2 r20 r30 r53 g144
 else
 some 0
 else
 some 0
 else
 m_L_law_J166 k10 L xs v2 r20 r30 r53 g53
 else
 bnd (m_L_same f36 f59) fun (r73 : Int32) =>
 if r73 = 0 then
 some 0
 else
 bnd (m_X6_count g53 (11 : Int32)) fun (r82 : Int32) =>
 if r82 = r44 then
 if r53 < 0 then
 m_L_law_J166 k10 L xs v2 r20 r30 r53 g53
 else
 bnd (m_L_low g53 r20 (4 : Int32)) fun (r99 : Int32) =>
 if r99 = 0 then
 bnd2 (m_X6_undo g53) fun (r106 : Int32) (g106 : MG) =>
 bnd (m_L_tell g106) fun (f112 : Nat → Int32) =>
 bnd (m_L_same f112 f36) fun (r117 : Int32) =>
 if r117 = 0 then
 some 0
 else
 if r44 = (4 : Int32) then
 if r106 = (3 : Int32) then
 bnd2 (m_L_act g106 r20 r30) fun (r144 : Int32) (g144 : MG) =>
 if r144 = r53 then
 bnd (m_L_tell g144) fun (f153 : Nat → Int32) =>
 bnd (m_L_same f153 f59) fun (r158 : Int32) =>
 if r158 = 0 then
 some 0
 else
 m_L_law_J166 k10 L xs v2 r20 r30 r53 g144
 else
 some 0
 else
 some 0
 else
 if r106 = r44 then
 bnd2 (m_L_act g106 r20 r30) fun (r144 : Int32) (g144 : MG) =>
 if r144 = r53 then
 bnd (m_L_tell g144) fun (f153 : Nat → Int32) =>
 bnd (m_L_same f153 f59) fun (r158 : Int32) =>
 if r158 = 0 then
 some 0
 else
 m_L_law_J166 k10 L xs v2 r20 r30 r53 g144
 else
 some 0
 else
 some 0
 else
 m_L_law_J166 k10 L xs v2 r20 r30 r53 g53
 else
 some 0
def b_L_law_L10 (L : Nat) (xs : (Nat → Int32)) : ((Int32 × MG) → Option Int32) → (Int32 × MG) → Option Int32 := fun k x => m_L_law_L10 k L xs x.1 x.2
def m_L_law (g : MG) (L : Nat) (xs : Nat → Int32) : Option Int32 :=
  lpo (b_L_law_L10 L xs) fuelN ((0 : Int32), g)
