/-! programs of the class that the law never calls, and those of a flat table, as they stood in the work on whole: here definitions alone, used as words for what a table becomes -/
def m_X1_takeSnapshot (g : MG) (t2 : Nat) : Option MG :=
  bnd (m_X5_copyFrom g 5 t2) fun (g5 : MG) =>
 some (g_w g5 1 2 (1 : Int32))
def m_X6_fault (g : MG)  : Option Int32 :=
  bnd (m_X2_firstFault g) fun (r4 : Int32) =>
 some r4
def m_X6_keep (g : MG)  : Option (Int32 × MG) :=
  bnd (m_X1_takeSnapshot g 0) fun (g8 : MG) =>
 some ((g8.1 (22 + 15 * 0) 3), g8)
def m_X6_restore (g : MG)  : Option (Int32 × MG) :=
  if (g.1 1 2) = 0 then
 some ((-1005 : Int32), g)
 else
 bnd (m_X1_record g 0) fun (g22 : MG) =>
 bnd (m_X5_copyFrom g22 0 5) fun (g36 : MG) =>
 some ((g36.1 (22 + 15 * 0) 3), g36)
def m_X6_looksInto (g : MG) (x0 : Int32) (x1 : Int32) : Option (Int32 × MG) :=
  if x0 = (60 : Int32) then
 bnd (m_X2_isFaulty g) fun (r24 : Int32) =>
 if r24 = 0 then
 if x1 < 0 then
 some ((-1002 : Int32), g)
 else
 if x1 ≤ (2 : Int32) then
 bnd (m_X6_markLooked g x1) fun (g49 : MG) =>
 bnd (m_X0_at g49 5 62 x0) fun (r57 : Int32) =>
 some (r57, g49)
 else
 some ((-1002 : Int32), g)
 else
 some ((-1001 : Int32), g)
 else
 bnd (m_X4_has g 0 x0) fun (r14 : Int32) =>
 if r14 = 0 then
 some ((-1001 : Int32), g)
 else
 bnd (m_X2_isFaulty g) fun (r24 : Int32) =>
 if r24 = 0 then
 if x1 < 0 then
 some ((-1002 : Int32), g)
 else
 if x1 ≤ (2 : Int32) then
 bnd (m_X6_markLooked g x1) fun (g49 : MG) =>
 bnd (m_X0_at g49 5 62 x0) fun (r57 : Int32) =>
 some (r57, g49)
 else
 some ((-1002 : Int32), g)
 else
 some ((-1001 : Int32), g)
/-! the same, of the reference -/
def m_X7_in (g : MG) (x0 : Int32) (x1 : Int32) (x2 : Int32) : Option Int32 :=
  if x0 < x1 then
 some (0 : Int32)
 else
 if x2 < x0 then
 some (0 : Int32)
 else
 some (1 : Int32)
def m_X7_abs (g : MG) (x0 : Int32) : Option Int32 :=
  if 0 ≤ x0 then
 some x0
 else
 some (-x0)
def m_X7_record_L51 (k51 : (Int32 × MG) → Option MG)  (v1 : Int32) (g : MG) : Option MG :=
  if (1385 : Int32) ≤ v1 then
 some (g_w g 0 15 ((g.1 0 15) + (1 : Int32)))
 else
 if vin v1 1385 then
 if vin (((1385 : Int32) * (g.1 0 15)) + v1) 5540 then
 k51 ((v1 + (1 : Int32)), (g_w g 3 (((1385 : Int32) * (g.1 0 15)) + v1).toNatClampNeg (g.1 1 v1.toNatClampNeg)))
 else none
 else none
def b_X7_record_L51  : ((Int32 × MG) → Option MG) → (Int32 × MG) → Option MG := fun k x => m_X7_record_L51 k  x.1 x.2
def m_X7_record_L51_1 (k51 : (Int32 × MG) → Option MG)  (v1 : Int32) (g : MG) : Option MG :=
  if (1385 : Int32) ≤ v1 then
 some (g_w g 0 15 ((g.1 0 15) + (1 : Int32)))
 else
 if vin v1 1385 then
 if vin (((1385 : Int32) * (g.1 0 15)) + v1) 5540 then
 k51 ((v1 + (1 : Int32)), (g_w g 3 (((1385 : Int32) * (g.1 0 15)) + v1).toNatClampNeg (g.1 1 v1.toNatClampNeg)))
 else none
 else none
def b_X7_record_L51_1  : ((Int32 × MG) → Option MG) → (Int32 × MG) → Option MG := fun k x => m_X7_record_L51_1 k  x.1 x.2
def m_X7_record_L10 (k10 : (Int32 × MG) → Option MG)  (v1 : Int32) (g : MG) : Option MG :=
  if (4155 : Int32) ≤ v1 then
 lpo (b_X7_record_L51_1) fuelN ((0 : Int32), (g_w g 0 15 ((g.1 0 15) - (1 : Int32))))
 else
 if vin (v1 + (1385 : Int32)) 5540 then
 if vin v1 5540 then
 k10 ((v1 + (1 : Int32)), (g_w g 3 v1.toNatClampNeg (g.1 3 (v1 + (1385 : Int32)).toNatClampNeg)))
 else none
 else none
def b_X7_record_L10  : ((Int32 × MG) → Option MG) → (Int32 × MG) → Option MG := fun k x => m_X7_record_L10 k  x.1 x.2
def m_X7_record (g : MG)  : Option MG :=
  if (g.1 0 15) = (4 : Int32) then
 lpo (b_X7_record_L10) fuelN ((0 : Int32), g)
 else
 lpo (b_X7_record_L51) fuelN ((0 : Int32), g)
def m_X7_isRow (g : MG) (x0 : Int32) : Option Int32 :=
  if vin (0 : Int32) 1385 then
 bnd (m_X7_in g x0 (0 : Int32) ((g.1 1 (0 : Int32).toNatClampNeg) - (1 : Int32))) fun (r10 : Int32) =>
 if r10 = 0 then
 some (0 : Int32)
 else
 if vin ((805 : Int32) + x0) 1385 then
 if (g.1 1 ((805 : Int32) + x0).toNatClampNeg) = (-1 : Int32) then
 some (0 : Int32)
 else
 some (1 : Int32)
 else none
 else none
def m_X7_isSlice (g : MG) (x0 : Int32) : Option Int32 :=
  if vin (1 : Int32) 1385 then
 bnd (m_X7_in g x0 (0 : Int32) ((g.1 1 (1 : Int32).toNatClampNeg) - (1 : Int32))) fun (r10 : Int32) =>
 if r10 = 0 then
 some (0 : Int32)
 else
 if vin ((1205 : Int32) + x0) 1385 then
 if (g.1 1 ((1205 : Int32) + x0).toNatClampNeg) = (1 : Int32) then
 some (1 : Int32)
 else
 some (0 : Int32)
 else none
 else none
def m_X7_isPlace (g : MG) (x0 : Int32) : Option Int32 :=
  if x0 = (60 : Int32) then
 some (1 : Int32)
 else
 if x0 = (61 : Int32) then
 some (1 : Int32)
 else
 bnd (m_X7_isSlice g x0) fun (r14 : Int32) =>
 if r14 = 0 then
 some (0 : Int32)
 else
 some (1 : Int32)
def m_X7_has (g : MG) (x0 : Int32) (x1 : Int32) : Option Int32 :=
  if vin ((1265 : Int32) + x0) 1385 then
 if vin ((1325 : Int32) + x0) 1385 then
 bnd (m_X7_in g x1 (g.1 1 ((1265 : Int32) + x0).toNatClampNeg) ((g.1 1 ((1325 : Int32) + x0).toNatClampNeg) - (1 : Int32))) fun (r23 : Int32) =>
 if bz r23 = true then some r23 else none
 else none
 else none
def m_X7_owner_L2 (k2 : Int32 → Option Int32) (g : MG) (x0 : Int32) (v2 : Int32) : Option Int32 :=
  if vin (1 : Int32) 1385 then
 if (g.1 1 (1 : Int32).toNatClampNeg) ≤ v2 then
 some (-1005 : Int32)
 else
 bnd (m_X7_isSlice g v2) fun (r14 : Int32) =>
 if r14 = 0 then
 k2 (v2 + (1 : Int32))
 else
 bnd (m_X7_has g v2 x0) fun (r23 : Int32) =>
 if r23 = 0 then
 k2 (v2 + (1 : Int32))
 else
 some v2
 else none
def b_X7_owner_L2 (g : MG) (x0 : Int32) : (Int32 → Option Int32) → Int32 → Option Int32 := fun k x => m_X7_owner_L2 k g x0 x
def m_X7_owner (g : MG) (x0 : Int32) : Option Int32 :=
  lpo (b_X7_owner_L2 g x0) fuelN (0 : Int32)
def m_X7_belongsTo (g : MG) (x0 : Int32) : Option Int32 :=
  bnd (m_X7_owner g x0) fun (r2 : Int32) =>
 if r2 = (-1005 : Int32) then
 if vin (2 : Int32) 1385 then
 if (g.1 1 (2 : Int32).toNatClampNeg) = (1 : Int32) then
 some (60 : Int32)
 else
 some (-1005 : Int32)
 else none
 else
 some r2
def m_X7_rowsIn_L4 (k4 : (Int32 × Int32) → Option Int32) (g : MG) (x0 : Int32) (v2 : Int32) (v3 : Int32) : Option Int32 :=
  if vin (0 : Int32) 1385 then
 if (g.1 1 (0 : Int32).toNatClampNeg) ≤ v3 then
 some v2
 else
 if vin ((805 : Int32) + v3) 1385 then
 if (g.1 1 ((805 : Int32) + v3).toNatClampNeg) = x0 then
 k4 ((v2 + (1 : Int32)), (v3 + (1 : Int32)))
 else
 k4 ((v2 + (0 : Int32)), (v3 + (1 : Int32)))
 else none
 else none
def b_X7_rowsIn_L4 (g : MG) (x0 : Int32) : ((Int32 × Int32) → Option Int32) → (Int32 × Int32) → Option Int32 := fun k x => m_X7_rowsIn_L4 k g x0 x.1 x.2
def m_X7_rowsIn (g : MG) (x0 : Int32) : Option Int32 :=
  lpo (b_X7_rowsIn_L4 g x0) fuelN ((0 : Int32), (0 : Int32))
def m_X7_isStray (g : MG) (x0 : Int32) : Option Int32 :=
  if vin ((805 : Int32) + x0) 1385 then
 if (g.1 1 ((805 : Int32) + x0).toNatClampNeg) = (-1 : Int32) then
 some (0 : Int32)
 else
 if (g.1 1 ((805 : Int32) + x0).toNatClampNeg) = (61 : Int32) then
 some (0 : Int32)
 else
 if vin ((5 : Int32) + x0) 1385 then
 bnd (m_X7_belongsTo g (g.1 1 ((5 : Int32) + x0).toNatClampNeg)) fun (r32 : Int32) =>
 if (g.1 1 ((805 : Int32) + x0).toNatClampNeg) = r32 then
 some (0 : Int32)
 else
 some (1 : Int32)
 else none
 else none
def m_X7_slices_L4 (k4 : (Int32 × Int32) → Option Int32) (g : MG) (v1 : Int32) (v2 : Int32) : Option Int32 :=
  if vin (1 : Int32) 1385 then
 if (g.1 1 (1 : Int32).toNatClampNeg) ≤ v2 then
 some v1
 else
 if vin ((1205 : Int32) + v2) 1385 then
 k4 ((v1 + (g.1 1 ((1205 : Int32) + v2).toNatClampNeg)), (v2 + (1 : Int32)))
 else none
 else none
def b_X7_slices_L4 (g : MG) : ((Int32 × Int32) → Option Int32) → (Int32 × Int32) → Option Int32 := fun k x => m_X7_slices_L4 k g x.1 x.2
def m_X7_slices (g : MG)  : Option Int32 :=
  lpo (b_X7_slices_L4 g) fuelN ((0 : Int32), (0 : Int32))
def m_X7_isFullOfSlices (g : MG)  : Option Int32 :=
  bnd (m_X7_slices g) fun (r1 : Int32) =>
 if r1 = (12 : Int32) then
 some (1 : Int32)
 else
 if vin (1 : Int32) 1385 then
 if (g.1 1 (1 : Int32).toNatClampNeg) = (60 : Int32) then
 some (1 : Int32)
 else
 some (0 : Int32)
 else none
def m_X7_areBounds (g : MG) (x0 : Int32) (x1 : Int32) : Option Int32 :=
  bnd (m_X7_in g x0 (0 : Int32) (999 : Int32)) fun (r5 : Int32) =>
 if r5 = 0 then
 some (0 : Int32)
 else
 bnd (m_X7_in g x1 (x0 + (1 : Int32)) (1000 : Int32)) fun (r18 : Int32) =>
 if r18 = 0 then
 some (0 : Int32)
 else
 some (1 : Int32)
def m_X7_isTaken_L2 (k2 : Int32 → Option Int32) (g : MG) (x0 : Int32) (x1 : Int32) (v3 : Int32) : Option Int32 :=
  if vin (1 : Int32) 1385 then
 if (g.1 1 (1 : Int32).toNatClampNeg) ≤ v3 then
 some (0 : Int32)
 else
 bnd (m_X7_isSlice g v3) fun (r14 : Int32) =>
 if r14 = 0 then
 k2 (v3 + (1 : Int32))
 else
 if vin ((1265 : Int32) + v3) 1385 then
 if x1 ≤ (g.1 1 ((1265 : Int32) + v3).toNatClampNeg) then
 k2 (v3 + (1 : Int32))
 else
 if vin ((1325 : Int32) + v3) 1385 then
 if (g.1 1 ((1325 : Int32) + v3).toNatClampNeg) ≤ x0 then
 k2 (v3 + (1 : Int32))
 else
 some (1 : Int32)
 else none
 else none
 else none
def b_X7_isTaken_L2 (g : MG) (x0 : Int32) (x1 : Int32) : (Int32 → Option Int32) → Int32 → Option Int32 := fun k x => m_X7_isTaken_L2 k g x0 x1 x
def m_X7_isTaken (g : MG) (x0 : Int32) (x1 : Int32) : Option Int32 :=
  lpo (b_X7_isTaken_L2 g x0 x1) fuelN (0 : Int32)
def m_X7_rowsBetween_L6 (k6 : (Int32 × Int32) → Option Int32) (g : MG) (x0 : Int32) (x1 : Int32) (x2 : Int32) (v4 : Int32) (v5 : Int32) : Option Int32 :=
  if vin (0 : Int32) 1385 then
 if (g.1 1 (0 : Int32).toNatClampNeg) ≤ v5 then
 some v4
 else
 if vin ((805 : Int32) + v5) 1385 then
 if (g.1 1 ((805 : Int32) + v5).toNatClampNeg) = x0 then
 if vin ((5 : Int32) + v5) 1385 then
 bnd (m_X7_in g (g.1 1 ((5 : Int32) + v5).toNatClampNeg) x1 (x2 - (1 : Int32))) fun (r47 : Int32) =>
 if r47 = 0 then
 k6 ((v4 + (0 : Int32)), (v5 + (1 : Int32)))
 else
 k6 ((v4 + (1 : Int32)), (v5 + (1 : Int32)))
 else none
 else
 k6 ((v4 + (0 : Int32)), (v5 + (1 : Int32)))
 else none
 else none
def b_X7_rowsBetween_L6 (g : MG) (x0 : Int32) (x1 : Int32) (x2 : Int32) : ((Int32 × Int32) → Option Int32) → (Int32 × Int32) → Option Int32 := fun k x => m_X7_rowsBetween_L6 k g x0 x1 x2 x.1 x.2
def m_X7_rowsBetween (g : MG) (x0 : Int32) (x1 : Int32) (x2 : Int32) : Option Int32 :=
  lpo (b_X7_rowsBetween_L6 g x0 x1 x2) fuelN ((0 : Int32), (0 : Int32))
def m_X7_moveBetween_L3 (k3 : (Int32 × MG) → Option MG) (x0 : Int32) (x1 : Int32) (x2 : Int32) (x3 : Int32) (v5 : Int32) (g : MG) : Option MG :=
  if vin (0 : Int32) 1385 then
 if (g.1 1 (0 : Int32).toNatClampNeg) ≤ v5 then
 some g
 else
 if vin ((805 : Int32) + v5) 1385 then
 if (g.1 1 ((805 : Int32) + v5).toNatClampNeg) = x0 then
 if vin ((5 : Int32) + v5) 1385 then
 bnd (m_X7_in g (g.1 1 ((5 : Int32) + v5).toNatClampNeg) x2 (x3 - (1 : Int32))) fun (r43 : Int32) =>
 if r43 = 0 then
 k3 ((v5 + (1 : Int32)), g)
 else
 if vin ((805 : Int32) + v5) 1385 then
 k3 ((v5 + (1 : Int32)), (g_w g 1 ((805 : Int32) + v5).toNatClampNeg x1))
 else none
 else none
 else
 k3 ((v5 + (1 : Int32)), g)
 else none
 else none
def b_X7_moveBetween_L3 (x0 : Int32) (x1 : Int32) (x2 : Int32) (x3 : Int32) : ((Int32 × MG) → Option MG) → (Int32 × MG) → Option MG := fun k x => m_X7_moveBetween_L3 k x0 x1 x2 x3 x.1 x.2
def m_X7_moveBetween (g : MG) (x0 : Int32) (x1 : Int32) (x2 : Int32) (x3 : Int32) : Option MG :=
  lpo (b_X7_moveBetween_L3 x0 x1 x2 x3) fuelN ((0 : Int32), g)
def m_X7_cutSlice (g : MG) (x0 : Int32) (x1 : Int32) : Option (Int32 × MG) :=
  if vin (1 : Int32) 1385 then
 if vin (1 : Int32) 1385 then
 if vin (1 : Int32) 1385 then
 if vin ((1205 : Int32) + (g.1 1 (1 : Int32).toNatClampNeg)) 1385 then
 if vin ((1265 : Int32) + (g.1 1 (1 : Int32).toNatClampNeg)) 1385 then
 if vin ((1325 : Int32) + (g.1 1 (1 : Int32).toNatClampNeg)) 1385 then
 some ((g.1 1 (1 : Int32).toNatClampNeg), (g_w (g_w (g_w (g_w g 1 (1 : Int32).toNatClampNeg ((g.1 1 (1 : Int32).toNatClampNeg) + (1 : Int32))) 1 ((1205 : Int32) + (g.1 1 (1 : Int32).toNatClampNeg)).toNatClampNeg (1 : Int32)) 1 ((1265 : Int32) + (g.1 1 (1 : Int32).toNatClampNeg)).toNatClampNeg x0) 1 ((1325 : Int32) + (g.1 1 (1 : Int32).toNatClampNeg)).toNatClampNeg x1))
 else none
 else none
 else none
 else none
 else none
 else none
def m_X7_addRow (g : MG) (x0 : Int32) (x1 : Int32) (x2 : Int32) : Option (Int32 × MG) :=
  if vin (0 : Int32) 1385 then
 if vin (0 : Int32) 1385 then
 if vin (0 : Int32) 1385 then
 if vin ((5 : Int32) + (g.1 1 (0 : Int32).toNatClampNeg)) 1385 then
 if vin ((405 : Int32) + (g.1 1 (0 : Int32).toNatClampNeg)) 1385 then
 if vin ((805 : Int32) + (g.1 1 (0 : Int32).toNatClampNeg)) 1385 then
 some ((g.1 1 (0 : Int32).toNatClampNeg), (g_w (g_w (g_w (g_w g 1 (0 : Int32).toNatClampNeg ((g.1 1 (0 : Int32).toNatClampNeg) + (1 : Int32))) 1 ((5 : Int32) + (g.1 1 (0 : Int32).toNatClampNeg)).toNatClampNeg x0) 1 ((405 : Int32) + (g.1 1 (0 : Int32).toNatClampNeg)).toNatClampNeg x1) 1 ((805 : Int32) + (g.1 1 (0 : Int32).toNatClampNeg)).toNatClampNeg x2))
 else none
 else none
 else none
 else none
 else none
 else none
def m_X7_put (g : MG) (x0 : Int32) (x1 : Int32) : Option (Int32 × MG) :=
  bnd (m_X7_in g x0 (0 : Int32) (999 : Int32)) fun (r5 : Int32) =>
 if r5 = 0 then
 some ((-1002 : Int32), g)
 else
 bnd (m_X7_in g x1 (-999 : Int32) (999 : Int32)) fun (r18 : Int32) =>
 if r18 = 0 then
 some ((-1002 : Int32), g)
 else
 bnd (m_X7_belongsTo g x0) fun (r30 : Int32) =>
 if r30 = (-1005 : Int32) then
 some ((-1004 : Int32), g)
 else
 if vin (0 : Int32) 1385 then
 if (g.1 1 (0 : Int32).toNatClampNeg) = (400 : Int32) then
 some ((-1003 : Int32), g)
 else
 bnd (m_X7_rowsIn g r30) fun (r59 : Int32) =>
 if r59 < (30 : Int32) then
 bnd (m_X7_record g) fun (g72 : MG) =>
 bnd2 (m_X7_addRow g72 x0 x1 r30) fun (r79 : Int32) (g79 : MG) =>
 some (r79, g79)
 else
 some ((-1003 : Int32), g)
 else none
def m_X7_stage (g : MG) (x0 : Int32) (x1 : Int32) : Option (Int32 × MG) :=
  bnd (m_X7_in g x0 (0 : Int32) (999 : Int32)) fun (r5 : Int32) =>
 if r5 = 0 then
 some ((-1002 : Int32), g)
 else
 bnd (m_X7_in g x1 (-999 : Int32) (999 : Int32)) fun (r18 : Int32) =>
 if r18 = 0 then
 some ((-1002 : Int32), g)
 else
 if vin (0 : Int32) 1385 then
 if (g.1 1 (0 : Int32).toNatClampNeg) = (400 : Int32) then
 some ((-1003 : Int32), g)
 else
 bnd (m_X7_rowsIn g (61 : Int32)) fun (r43 : Int32) =>
 if r43 = (20 : Int32) then
 some ((-1003 : Int32), g)
 else
 bnd (m_X7_record g) fun (g56 : MG) =>
 bnd2 (m_X7_addRow g56 x0 x1 (61 : Int32)) fun (r64 : Int32) (g64 : MG) =>
 some (r64, g64)
 else none
def m_X7_take (g : MG) (x0 : Int32) : Option (Int32 × MG) :=
  bnd (m_X7_isRow g x0) fun (r2 : Int32) =>
 if r2 = 0 then
 some ((-1001 : Int32), g)
 else
 bnd (m_X7_record g) fun (g13 : MG) =>
 if vin ((805 : Int32) + x0) 1385 then
 if vin ((5 : Int32) + x0) 1385 then
 some (((g_w g13 1 ((805 : Int32) + x0).toNatClampNeg (-1 : Int32)).1 1 ((5 : Int32) + x0).toNatClampNeg), (g_w g13 1 ((805 : Int32) + x0).toNatClampNeg (-1 : Int32)))
 else none
 else none
def m_X7_rekey (g : MG) (x0 : Int32) (x1 : Int32) : Option (Int32 × MG) :=
  bnd (m_X7_isRow g x0) fun (r2 : Int32) =>
 if r2 = 0 then
 some ((-1001 : Int32), g)
 else
 bnd (m_X7_in g x1 (0 : Int32) (999 : Int32)) fun (r17 : Int32) =>
 if r17 = 0 then
 some ((-1002 : Int32), g)
 else
 if vin ((5 : Int32) + x0) 1385 then
 if (g.1 1 ((5 : Int32) + x0).toNatClampNeg) = x1 then
 some ((-1005 : Int32), g)
 else
 if vin ((805 : Int32) + x0) 1385 then
 if (g.1 1 ((805 : Int32) + x0).toNatClampNeg) = (61 : Int32) then
 if (61 : Int32) = (-1005 : Int32) then
 some ((-1004 : Int32), g)
 else
 if (61 : Int32) = (g.1 1 ((805 : Int32) + x0).toNatClampNeg) then
 bnd (m_X7_record g) fun (g111 : MG) =>
 if vin ((5 : Int32) + x0) 1385 then
 if vin ((805 : Int32) + x0) 1385 then
 some ((g.1 1 ((5 : Int32) + x0).toNatClampNeg), (g_w (g_w g111 1 ((5 : Int32) + x0).toNatClampNeg x1) 1 ((805 : Int32) + x0).toNatClampNeg (61 : Int32)))
 else none
 else none
 else
 bnd (m_X7_rowsIn g (61 : Int32)) fun (r98 : Int32) =>
 if r98 < (30 : Int32) then
 bnd (m_X7_record g) fun (g111 : MG) =>
 if vin ((5 : Int32) + x0) 1385 then
 if vin ((805 : Int32) + x0) 1385 then
 some ((g.1 1 ((5 : Int32) + x0).toNatClampNeg), (g_w (g_w g111 1 ((5 : Int32) + x0).toNatClampNeg x1) 1 ((805 : Int32) + x0).toNatClampNeg (61 : Int32)))
 else none
 else none
 else
 some ((-1003 : Int32), g)
 else
 bnd (m_X7_belongsTo g x1) fun (r71 : Int32) =>
 if r71 = (-1005 : Int32) then
 some ((-1004 : Int32), g)
 else
 if r71 = (g.1 1 ((805 : Int32) + x0).toNatClampNeg) then
 bnd (m_X7_record g) fun (g111 : MG) =>
 if vin ((5 : Int32) + x0) 1385 then
 if vin ((805 : Int32) + x0) 1385 then
 some ((g.1 1 ((5 : Int32) + x0).toNatClampNeg), (g_w (g_w g111 1 ((5 : Int32) + x0).toNatClampNeg x1) 1 ((805 : Int32) + x0).toNatClampNeg r71))
 else none
 else none
 else
 bnd (m_X7_rowsIn g r71) fun (r98 : Int32) =>
 if r98 < (30 : Int32) then
 bnd (m_X7_record g) fun (g111 : MG) =>
 if vin ((5 : Int32) + x0) 1385 then
 if vin ((805 : Int32) + x0) 1385 then
 some ((g.1 1 ((5 : Int32) + x0).toNatClampNeg), (g_w (g_w g111 1 ((5 : Int32) + x0).toNatClampNeg x1) 1 ((805 : Int32) + x0).toNatClampNeg r71))
 else none
 else none
 else
 some ((-1003 : Int32), g)
 else none
 else none
def m_X7_addSlice (g : MG) (x0 : Int32) (x1 : Int32) : Option (Int32 × MG) :=
  bnd (m_X7_areBounds g x0 x1) fun (r3 : Int32) =>
 if r3 = 0 then
 some ((-1002 : Int32), g)
 else
 bnd (m_X7_isTaken g x0 x1) fun (r16 : Int32) =>
 if r16 = 0 then
 if vin (4 : Int32) 1385 then
 if (g.1 1 (4 : Int32).toNatClampNeg) = 0 then
 bnd (m_X7_rowsBetween g (60 : Int32) x0 x1) fun (r36 : Int32) =>
 if r36 ≤ 0 then
 bnd (m_X7_isFullOfSlices g) fun (r47 : Int32) =>
 if r47 = 0 then
 bnd (m_X7_record g) fun (g58 : MG) =>
 bnd2 (m_X7_cutSlice g58 x0 x1) fun (r64 : Int32) (g64 : MG) =>
 bnd (m_X7_moveBetween g64 (60 : Int32) r64 x0 x1) fun (g74 : MG) =>
 some (r64, g74)
 else
 some ((-1003 : Int32), g)
 else
 some ((-1004 : Int32), g)
 else
 bnd (m_X7_isFullOfSlices g) fun (r47 : Int32) =>
 if r47 = 0 then
 bnd (m_X7_record g) fun (g58 : MG) =>
 bnd2 (m_X7_cutSlice g58 x0 x1) fun (r64 : Int32) (g64 : MG) =>
 bnd (m_X7_moveBetween g64 (60 : Int32) r64 x0 x1) fun (g74 : MG) =>
 some (r64, g74)
 else
 some ((-1003 : Int32), g)
 else none
 else
 some ((-1004 : Int32), g)
def m_X7_dropSlice (g : MG) (x0 : Int32) : Option (Int32 × MG) :=
  bnd (m_X7_isSlice g x0) fun (r2 : Int32) =>
 if r2 = 0 then
 some ((-1001 : Int32), g)
 else
 bnd (m_X7_rowsIn g x0) fun (r14 : Int32) =>
 bnd (m_X7_record g) fun (g19 : MG) =>
 bnd (m_X7_moveBetween g19 x0 (-1 : Int32) (0 : Int32) (1000 : Int32)) fun (g29 : MG) =>
 if vin ((1205 : Int32) + x0) 1385 then
 some (r14, (g_w g29 1 ((1205 : Int32) + x0).toNatClampNeg (0 : Int32)))
 else none
def m_X7_detach (g : MG) (x0 : Int32) : Option (Int32 × MG) :=
  bnd (m_X7_isSlice g x0) fun (r2 : Int32) =>
 if r2 = 0 then
 some ((-1001 : Int32), g)
 else
 bnd (m_X7_rowsIn g (61 : Int32)) fun (r15 : Int32) =>
 if r15 ≤ 0 then
 bnd (m_X7_rowsIn g x0) fun (r27 : Int32) =>
 if r27 ≤ (20 : Int32) then
 bnd (m_X7_record g) fun (g42 : MG) =>
 bnd (m_X7_moveBetween g42 x0 (61 : Int32) (0 : Int32) (1000 : Int32)) fun (g53 : MG) =>
 if vin ((1205 : Int32) + x0) 1385 then
 some (r27, (g_w g53 1 ((1205 : Int32) + x0).toNatClampNeg (0 : Int32)))
 else none
 else
 some ((-1003 : Int32), g)
 else
 some ((-1004 : Int32), g)
def m_X7_attach (g : MG) (x0 : Int32) (x1 : Int32) : Option (Int32 × MG) :=
  bnd (m_X7_areBounds g x0 x1) fun (r3 : Int32) =>
 if r3 = 0 then
 some ((-1002 : Int32), g)
 else
 bnd (m_X7_isTaken g x0 x1) fun (r16 : Int32) =>
 if r16 = 0 then
 bnd (m_X7_rowsBetween g (61 : Int32) x0 x1) fun (r27 : Int32) =>
 bnd (m_X7_rowsIn g (61 : Int32)) fun (r33 : Int32) =>
 if r27 < r33 then
 some ((-1004 : Int32), g)
 else
 bnd (m_X7_rowsBetween g (60 : Int32) x0 x1) fun (r44 : Int32) =>
 if r44 ≤ 0 then
 bnd (m_X7_isFullOfSlices g) fun (r55 : Int32) =>
 if r55 = 0 then
 bnd (m_X7_record g) fun (g66 : MG) =>
 bnd2 (m_X7_cutSlice g66 x0 x1) fun (r72 : Int32) (g72 : MG) =>
 bnd (m_X7_moveBetween g72 (61 : Int32) r72 (0 : Int32) (1000 : Int32)) fun (g84 : MG) =>
 some (r72, g84)
 else
 some ((-1003 : Int32), g)
 else
 some ((-1004 : Int32), g)
 else
 some ((-1004 : Int32), g)
def m_X7_swap_L75 (k75 : (Int32 × MG) → Option (Int32 × MG)) (x0 : Int32) (x1 : Int32) (v3 : Int32) (g : MG) : Option (Int32 × MG) :=
  if vin (0 : Int32) 1385 then
 if (g.1 1 (0 : Int32).toNatClampNeg) ≤ v3 then
 bnd (m_X7_rowsIn g x0) fun (r139 : Int32) =>
 some (r139, g)
 else
 if vin ((805 : Int32) + v3) 1385 then
 if (g.1 1 ((805 : Int32) + v3).toNatClampNeg) = x0 then
 if vin ((805 : Int32) + v3) 1385 then
 k75 ((v3 + (1 : Int32)), (g_w g 1 ((805 : Int32) + v3).toNatClampNeg (61 : Int32)))
 else none
 else
 if (g.1 1 ((805 : Int32) + v3).toNatClampNeg) = (61 : Int32) then
 if vin ((805 : Int32) + v3) 1385 then
 k75 ((v3 + (1 : Int32)), (g_w g 1 ((805 : Int32) + v3).toNatClampNeg x0))
 else none
 else
 if vin ((805 : Int32) + v3) 1385 then
 k75 ((v3 + (1 : Int32)), (g_w g 1 ((805 : Int32) + v3).toNatClampNeg (g.1 1 ((805 : Int32) + v3).toNatClampNeg)))
 else none
 else none
 else none
def b_X7_swap_L75 (x0 : Int32) (x1 : Int32) : ((Int32 × MG) → Option (Int32 × MG)) → (Int32 × MG) → Option (Int32 × MG) := fun k x => m_X7_swap_L75 k x0 x1 x.1 x.2
def m_X7_swap_L75_1 (k75 : (Int32 × MG) → Option (Int32 × MG)) (x0 : Int32) (x1 : Int32) (v3 : Int32) (g : MG) : Option (Int32 × MG) :=
  if vin (0 : Int32) 1385 then
 if (g.1 1 (0 : Int32).toNatClampNeg) ≤ v3 then
 bnd (m_X7_rowsIn g x0) fun (r139 : Int32) =>
 some (r139, g)
 else
 if vin ((805 : Int32) + v3) 1385 then
 if (g.1 1 ((805 : Int32) + v3).toNatClampNeg) = x0 then
 if vin ((805 : Int32) + v3) 1385 then
 k75 ((v3 + (1 : Int32)), (g_w g 1 ((805 : Int32) + v3).toNatClampNeg (61 : Int32)))
 else none
 else
 if (g.1 1 ((805 : Int32) + v3).toNatClampNeg) = (61 : Int32) then
 if vin ((805 : Int32) + v3) 1385 then
 k75 ((v3 + (1 : Int32)), (g_w g 1 ((805 : Int32) + v3).toNatClampNeg x0))
 else none
 else
 if vin ((805 : Int32) + v3) 1385 then
 k75 ((v3 + (1 : Int32)), (g_w g 1 ((805 : Int32) + v3).toNatClampNeg (g.1 1 ((805 : Int32) + v3).toNatClampNeg)))
 else none
 else none
 else none
def b_X7_swap_L75_1 (x0 : Int32) (x1 : Int32) : ((Int32 × MG) → Option (Int32 × MG)) → (Int32 × MG) → Option (Int32 × MG) := fun k x => m_X7_swap_L75_1 k x0 x1 x.1 x.2
def m_X7_swap (g : MG) (x0 : Int32) (x1 : Int32) : Option (Int32 × MG) :=
  bnd (m_X7_isSlice g x0) fun (r2 : Int32) =>
 if r2 = 0 then
 some ((-1001 : Int32), g)
 else
 if x1 = 0 then
 bnd (m_X7_rowsIn g x0) fun (r57 : Int32) =>
 if r57 ≤ (20 : Int32) then
 bnd (m_X7_record g) fun (g70 : MG) =>
 lpo (b_X7_swap_L75 x0 x1) fuelN ((0 : Int32), g70)
 else
 some ((-1003 : Int32), g)
 else
 if vin ((1265 : Int32) + x0) 1385 then
 if vin ((1325 : Int32) + x0) 1385 then
 bnd (m_X7_rowsBetween g (61 : Int32) (g.1 1 ((1265 : Int32) + x0).toNatClampNeg) (g.1 1 ((1325 : Int32) + x0).toNatClampNeg)) fun (r39 : Int32) =>
 bnd (m_X7_rowsIn g (61 : Int32)) fun (r45 : Int32) =>
 if r45 ≤ r39 then
 bnd (m_X7_rowsIn g x0) fun (r57 : Int32) =>
 if r57 ≤ (20 : Int32) then
 bnd (m_X7_record g) fun (g70 : MG) =>
 lpo (b_X7_swap_L75_1 x0 x1) fuelN ((0 : Int32), g70)
 else
 some ((-1003 : Int32), g)
 else
 some ((-1004 : Int32), g)
 else none
 else none
def m_X7_split (g : MG) (x0 : Int32) (x1 : Int32) : Option (Int32 × MG) :=
  bnd (m_X7_isSlice g x0) fun (r2 : Int32) =>
 if r2 = 0 then
 some ((-1001 : Int32), g)
 else
 if vin ((1325 : Int32) + x0) 1385 then
 if vin ((1265 : Int32) + x0) 1385 then
 bnd (m_X7_in g x1 ((g.1 1 ((1265 : Int32) + x0).toNatClampNeg) + (1 : Int32)) ((g.1 1 ((1325 : Int32) + x0).toNatClampNeg) - (1 : Int32))) fun (r39 : Int32) =>
 if r39 = 0 then
 some ((-1002 : Int32), g)
 else
 bnd (m_X7_isFullOfSlices g) fun (r50 : Int32) =>
 if r50 = 0 then
 bnd (m_X7_record g) fun (g61 : MG) =>
 if vin ((1325 : Int32) + x0) 1385 then
 bnd2 (m_X7_cutSlice (g_w g61 1 ((1325 : Int32) + x0).toNatClampNeg x1) x1 (g.1 1 ((1325 : Int32) + x0).toNatClampNeg)) fun (r78 : Int32) (g78 : MG) =>
 bnd (m_X7_moveBetween g78 x0 r78 x1 (g.1 1 ((1325 : Int32) + x0).toNatClampNeg)) fun (g89 : MG) =>
 some (r78, g89)
 else none
 else
 some ((-1003 : Int32), g)
 else none
 else none
def m_X7_merge_J170 (x0 : Int32) (x1 : Int32) (v4 : Int32) (g : MG) : Option (Int32 × MG) :=
  if vin ((1205 : Int32) + x0) 1385 then
 some (v4, (g_w g 1 ((1205 : Int32) + x0).toNatClampNeg (0 : Int32)))
 else none
def m_X7_merge_J85 (x0 : Int32) (x1 : Int32) (v3 : Int32) (g : MG) : Option (Int32 × MG) :=
  bnd (m_X7_rowsIn g x0) fun (r87 : Int32) =>
 bnd (m_X7_rowsIn g x1) fun (r92 : Int32) =>
 if (r87 + r92) ≤ (30 : Int32) then
 bnd (m_X7_record g) fun (g110 : MG) =>
 bnd (m_X7_moveBetween g110 x0 x1 (0 : Int32) (1000 : Int32)) fun (g120 : MG) =>
 if v3 = 0 then
 if vin ((1325 : Int32) + x0) 1385 then
 if vin ((1325 : Int32) + x1) 1385 then
 m_X7_merge_J170 x0 x1 (r87 + r92) (g_w g120 1 ((1325 : Int32) + x1).toNatClampNeg (g120.1 1 ((1325 : Int32) + x0).toNatClampNeg))
 else none
 else none
 else
 if vin ((1265 : Int32) + x0) 1385 then
 if vin ((1265 : Int32) + x1) 1385 then
 m_X7_merge_J170 x0 x1 (r87 + r92) (g_w g120 1 ((1265 : Int32) + x1).toNatClampNeg (g120.1 1 ((1265 : Int32) + x0).toNatClampNeg))
 else none
 else none
 else
 some ((-1003 : Int32), g)
def m_X7_merge_J48 (x0 : Int32) (x1 : Int32) (w0 : Int32) (g : MG) : Option (Int32 × MG) :=
  if x0 = x1 then
 some ((-1004 : Int32), g)
 else
 if w0 = 0 then
 if vin ((1325 : Int32) + x1) 1385 then
 if vin ((1265 : Int32) + x0) 1385 then
 if (g.1 1 ((1325 : Int32) + x1).toNatClampNeg) = (g.1 1 ((1265 : Int32) + x0).toNatClampNeg) then
 m_X7_merge_J85 x0 x1 w0 g
 else
 some ((-1004 : Int32), g)
 else none
 else none
 else
 m_X7_merge_J85 x0 x1 w0 g
def m_X7_merge (g : MG) (x0 : Int32) (x1 : Int32) : Option (Int32 × MG) :=
  bnd (m_X7_isSlice g x0) fun (r2 : Int32) =>
 if r2 = 0 then
 some ((-1001 : Int32), g)
 else
 bnd (m_X7_isSlice g x1) fun (r10 : Int32) =>
 if r10 = 0 then
 some ((-1001 : Int32), g)
 else
 if vin ((1325 : Int32) + x0) 1385 then
 if vin ((1265 : Int32) + x1) 1385 then
 if (g.1 1 ((1325 : Int32) + x0).toNatClampNeg) = (g.1 1 ((1265 : Int32) + x1).toNatClampNeg) then
 m_X7_merge_J48 x0 x1 (1 : Int32) g
 else
 m_X7_merge_J48 x0 x1 (0 : Int32) g
 else none
 else none
def m_X7_freeKeys_L6 (k6 : (Int32 × Int32) → Option Int32) (g : MG) (v1 : Int32) (v2 : Int32) : Option Int32 :=
  if vin (1 : Int32) 1385 then
 if (g.1 1 (1 : Int32).toNatClampNeg) ≤ v2 then
 some v1
 else
 if vin ((1205 : Int32) + v2) 1385 then
 if (g.1 1 ((1205 : Int32) + v2).toNatClampNeg) = (1 : Int32) then
 if vin ((1325 : Int32) + v2) 1385 then
 if vin ((1265 : Int32) + v2) 1385 then
 k6 ((v1 - ((g.1 1 ((1325 : Int32) + v2).toNatClampNeg) - (g.1 1 ((1265 : Int32) + v2).toNatClampNeg))), (v2 + (1 : Int32)))
 else none
 else none
 else
 k6 ((v1 - (0 : Int32)), (v2 + (1 : Int32)))
 else none
 else none
def b_X7_freeKeys_L6 (g : MG) : ((Int32 × Int32) → Option Int32) → (Int32 × Int32) → Option Int32 := fun k x => m_X7_freeKeys_L6 k g x.1 x.2
def m_X7_freeKeys (g : MG)  : Option Int32 :=
  lpo (b_X7_freeKeys_L6 g) fuelN ((1000 : Int32), (0 : Int32))
def m_X7_useDefault (g : MG) (x0 : Int32) : Option (Int32 × MG) :=
  if vin (2 : Int32) 1385 then
 if (g.1 1 (2 : Int32).toNatClampNeg) = (1 : Int32) then
 if (1 : Int32) = x0 then
 some ((-1005 : Int32), g)
 else
 if x0 = 0 then
 bnd (m_X7_rowsIn g (60 : Int32)) fun (r30 : Int32) =>
 if r30 ≤ 0 then
 bnd (m_X7_record g) fun (g41 : MG) =>
 if x0 = 0 then
 if vin (2 : Int32) 1385 then
 bnd (m_X7_freeKeys (g_w g41 1 (2 : Int32).toNatClampNeg (0 : Int32))) fun (r60 : Int32) =>
 some (r60, (g_w g41 1 (2 : Int32).toNatClampNeg (0 : Int32)))
 else none
 else
 if vin (2 : Int32) 1385 then
 bnd (m_X7_freeKeys (g_w g41 1 (2 : Int32).toNatClampNeg (1 : Int32))) fun (r60 : Int32) =>
 some (r60, (g_w g41 1 (2 : Int32).toNatClampNeg (1 : Int32)))
 else none
 else
 some ((-1004 : Int32), g)
 else
 bnd (m_X7_record g) fun (g41 : MG) =>
 if x0 = 0 then
 if vin (2 : Int32) 1385 then
 bnd (m_X7_freeKeys (g_w g41 1 (2 : Int32).toNatClampNeg (0 : Int32))) fun (r60 : Int32) =>
 some (r60, (g_w g41 1 (2 : Int32).toNatClampNeg (0 : Int32)))
 else none
 else
 if vin (2 : Int32) 1385 then
 bnd (m_X7_freeKeys (g_w g41 1 (2 : Int32).toNatClampNeg (1 : Int32))) fun (r60 : Int32) =>
 some (r60, (g_w g41 1 (2 : Int32).toNatClampNeg (1 : Int32)))
 else none
 else
 if (0 : Int32) = x0 then
 some ((-1005 : Int32), g)
 else
 if x0 = 0 then
 bnd (m_X7_rowsIn g (60 : Int32)) fun (r30 : Int32) =>
 if r30 ≤ 0 then
 bnd (m_X7_record g) fun (g41 : MG) =>
 if x0 = 0 then
 if vin (2 : Int32) 1385 then
 bnd (m_X7_freeKeys (g_w g41 1 (2 : Int32).toNatClampNeg (0 : Int32))) fun (r60 : Int32) =>
 some (r60, (g_w g41 1 (2 : Int32).toNatClampNeg (0 : Int32)))
 else none
 else
 if vin (2 : Int32) 1385 then
 bnd (m_X7_freeKeys (g_w g41 1 (2 : Int32).toNatClampNeg (1 : Int32))) fun (r60 : Int32) =>
 some (r60, (g_w g41 1 (2 : Int32).toNatClampNeg (1 : Int32)))
 else none
 else
 some ((-1004 : Int32), g)
 else
 bnd (m_X7_record g) fun (g41 : MG) =>
 if x0 = 0 then
 if vin (2 : Int32) 1385 then
 bnd (m_X7_freeKeys (g_w g41 1 (2 : Int32).toNatClampNeg (0 : Int32))) fun (r60 : Int32) =>
 some (r60, (g_w g41 1 (2 : Int32).toNatClampNeg (0 : Int32)))
 else none
 else
 if vin (2 : Int32) 1385 then
 bnd (m_X7_freeKeys (g_w g41 1 (2 : Int32).toNatClampNeg (1 : Int32))) fun (r60 : Int32) =>
 some (r60, (g_w g41 1 (2 : Int32).toNatClampNeg (1 : Int32)))
 else none
 else none
def m_X7_strays_L4 (k4 : (Int32 × Int32) → Option Int32) (g : MG) (v1 : Int32) (v2 : Int32) : Option Int32 :=
  if vin (0 : Int32) 1385 then
 if (g.1 1 (0 : Int32).toNatClampNeg) ≤ v2 then
 some v1
 else
 bnd (m_X7_isStray g v2) fun (r17 : Int32) =>
 if r17 = 0 then
 k4 ((v1 + (0 : Int32)), (v2 + (1 : Int32)))
 else
 k4 ((v1 + (1 : Int32)), (v2 + (1 : Int32)))
 else none
def b_X7_strays_L4 (g : MG) : ((Int32 × Int32) → Option Int32) → (Int32 × Int32) → Option Int32 := fun k x => m_X7_strays_L4 k g x.1 x.2
def m_X7_strays (g : MG)  : Option Int32 :=
  lpo (b_X7_strays_L4 g) fuelN ((0 : Int32), (0 : Int32))
def m_X7_mend_L175 (k175 : (Int32 × MG) → Option (Int32 × MG)) (c1 : Int32) (v2 : Int32) (g : MG) : Option (Int32 × MG) :=
  if vin (0 : Int32) 1385 then
 if (g.1 1 (0 : Int32).toNatClampNeg) ≤ v2 then
 some (c1, g)
 else
 bnd (m_X7_isStray g v2) fun (r187 : Int32) =>
 if r187 = 0 then
 k175 ((v2 + (1 : Int32)), g)
 else
 if vin ((5 : Int32) + v2) 1385 then
 bnd (m_X7_belongsTo g (g.1 1 ((5 : Int32) + v2).toNatClampNeg)) fun (r211 : Int32) =>
 if vin ((805 : Int32) + v2) 1385 then
 k175 ((v2 + (1 : Int32)), (g_w g 1 ((805 : Int32) + v2).toNatClampNeg r211))
 else none
 else none
 else none
def b_X7_mend_L175 (c1 : Int32) : ((Int32 × MG) → Option (Int32 × MG)) → (Int32 × MG) → Option (Int32 × MG) := fun k x => m_X7_mend_L175 k c1 x.1 x.2
def m_X7_mend_L88 (k88 : (Int32 × MG) → Option (Int32 × MG)) (c1 : Int32) (v2 : Int32) (g : MG) : Option (Int32 × MG) :=
  if vin (0 : Int32) 1385 then
 if (g.1 1 (0 : Int32).toNatClampNeg) ≤ v2 then
 bnd (m_X7_record g) fun (g170 : MG) =>
 lpo (b_X7_mend_L175 c1) fuelN ((0 : Int32), g170)
 else
 bnd (m_X7_isStray g v2) fun (r100 : Int32) =>
 if r100 = 0 then
 k88 ((v2 + (1 : Int32)), g)
 else
 if vin ((5 : Int32) + v2) 1385 then
 bnd (m_X7_belongsTo g (g.1 1 ((5 : Int32) + v2).toNatClampNeg)) fun (r115 : Int32) =>
 if vin r115 61 then
 if (g.1 11 r115.toNatClampNeg) < (30 : Int32) then
 if vin r115 61 then
 if vin r115 61 then
 if vin ((805 : Int32) + v2) 1385 then
 if vin ((g_w g 11 r115.toNatClampNeg ((g.1 11 r115.toNatClampNeg) + (1 : Int32))).1 1 ((805 : Int32) + v2).toNatClampNeg) 61 then
 if vin ((g_w g 11 r115.toNatClampNeg ((g.1 11 r115.toNatClampNeg) + (1 : Int32))).1 1 ((805 : Int32) + v2).toNatClampNeg) 61 then
 k88 ((v2 + (1 : Int32)), (g_w (g_w g 11 r115.toNatClampNeg ((g.1 11 r115.toNatClampNeg) + (1 : Int32))) 11 ((g_w g 11 r115.toNatClampNeg ((g.1 11 r115.toNatClampNeg) + (1 : Int32))).1 1 ((805 : Int32) + v2).toNatClampNeg).toNatClampNeg (((g_w g 11 r115.toNatClampNeg ((g.1 11 r115.toNatClampNeg) + (1 : Int32))).1 11 ((g_w g 11 r115.toNatClampNeg ((g.1 11 r115.toNatClampNeg) + (1 : Int32))).1 1 ((805 : Int32) + v2).toNatClampNeg).toNatClampNeg) - (1 : Int32))))
 else none
 else none
 else none
 else none
 else none
 else
 some ((-1003 : Int32), g)
 else none
 else none
 else none
def b_X7_mend_L88 (c1 : Int32) : ((Int32 × MG) → Option (Int32 × MG)) → (Int32 × MG) → Option (Int32 × MG) := fun k x => m_X7_mend_L88 k c1 x.1 x.2
def m_X7_mend_L63 (k63 : (Int32 × MG) → Option (Int32 × MG)) (c1 : Int32) (v2 : Int32) (g : MG) : Option (Int32 × MG) :=
  if (60 : Int32) < v2 then
 lpo (b_X7_mend_L88 c1) fuelN ((0 : Int32), g)
 else
 bnd (m_X7_rowsIn g v2) fun (r76 : Int32) =>
 if vin v2 61 then
 k63 ((v2 + (1 : Int32)), (g_w g 11 v2.toNatClampNeg r76))
 else none
def b_X7_mend_L63 (c1 : Int32) : ((Int32 × MG) → Option (Int32 × MG)) → (Int32 × MG) → Option (Int32 × MG) := fun k x => m_X7_mend_L63 k c1 x.1 x.2
def m_X7_mend_L15 (k15 : Int32 → Option (Int32 × MG)) (g : MG) (c1 : Int32) (v2 : Int32) : Option (Int32 × MG) :=
  if vin (0 : Int32) 1385 then
 if (g.1 1 (0 : Int32).toNatClampNeg) ≤ v2 then
 lpo (b_X7_mend_L63 c1) fuelN ((0 : Int32), g)
 else
 bnd (m_X7_isStray g v2) fun (r27 : Int32) =>
 if r27 = 0 then
 k15 (v2 + (1 : Int32))
 else
 if vin ((5 : Int32) + v2) 1385 then
 bnd (m_X7_belongsTo g (g.1 1 ((5 : Int32) + v2).toNatClampNeg)) fun (r42 : Int32) =>
 if r42 = (-1005 : Int32) then
 some ((-1004 : Int32), g)
 else
 k15 (v2 + (1 : Int32))
 else none
 else none
def b_X7_mend_L15 (g : MG) (c1 : Int32) : (Int32 → Option (Int32 × MG)) → Int32 → Option (Int32 × MG) := fun k x => m_X7_mend_L15 k g c1 x
def m_X7_mend (g : MG)  : Option (Int32 × MG) :=
  bnd (m_X7_strays g) fun (r1 : Int32) =>
 if r1 = 0 then
 some ((-1005 : Int32), g)
 else
 lpo (b_X7_mend_L15 g r1) fuelN (0 : Int32)
def m_X7_set (g : MG) (x0 : Int32) (x1 : Int32) : Option (Int32 × MG) :=
  bnd (m_X7_in g x0 (0 : Int32) (1 : Int32)) fun (r3 : Int32) =>
 if r3 = 0 then
 some ((-1002 : Int32), g)
 else
 bnd (m_X7_in g x1 (0 : Int32) ((2 : Int32) - x0)) fun (r14 : Int32) =>
 if r14 = 0 then
 some ((-1002 : Int32), g)
 else
 if vin ((3 : Int32) + x0) 1385 then
 if (g.1 1 ((3 : Int32) + x0).toNatClampNeg) = x1 then
 some ((-1005 : Int32), g)
 else
 bnd (m_X7_record g) fun (g43 : MG) =>
 if vin ((3 : Int32) + x0) 1385 then
 some ((g.1 1 ((3 : Int32) + x0).toNatClampNeg), (g_w g43 1 ((3 : Int32) + x0).toNatClampNeg x1))
 else none
 else none
def m_X7_type (g : MG) (x0 : Int32) : Option (Int32 × MG) :=
  if (g.1 0 16) = (60 : Int32) then
 some ((-1003 : Int32), g)
 else
 if vin (g.1 0 16) 60 then
 some (((g_w (g_w g 4 (g.1 0 16).toNatClampNeg x0) 0 16 (((g_w g 4 (g.1 0 16).toNatClampNeg x0).1 0 16) + (1 : Int32))).1 0 16), (g_w (g_w g 4 (g.1 0 16).toNatClampNeg x0) 0 16 (((g_w g 4 (g.1 0 16).toNatClampNeg x0).1 0 16) + (1 : Int32))))
 else none
def m_X7_clearText (g : MG)  : Option (Int32 × MG) :=
  some ((g.1 0 16), (g_w g 0 16 (0 : Int32)))
def m_X7_isNext (g : MG) (x0 : Int32) (x1 : Int32) : Option Int32 :=
  if (g.1 0 16) ≤ (g.1 0 10) then
 some (0 : Int32)
 else
 if vin (g.1 0 10) 60 then
 bnd (m_X7_in g (g.1 4 (g.1 0 10).toNatClampNeg) x0 x1) fun (r22 : Int32) =>
 if r22 = 0 then
 some (0 : Int32)
 else
 some (1 : Int32)
 else none
def m_X7_add (g : MG) (x0 : Int32) (x1 : Int32) (x2 : Int32) : Option MG :=
  if vin (g.1 0 8) 120 then
 if vin ((g_w g 5 (g.1 0 8).toNatClampNeg x0).1 0 8) 120 then
 if vin ((g_w (g_w g 5 (g.1 0 8).toNatClampNeg x0) 6 ((g_w g 5 (g.1 0 8).toNatClampNeg x0).1 0 8).toNatClampNeg x1).1 0 8) 120 then
 some (g_w (g_w (g_w (g_w g 5 (g.1 0 8).toNatClampNeg x0) 6 ((g_w g 5 (g.1 0 8).toNatClampNeg x0).1 0 8).toNatClampNeg x1) 7 ((g_w (g_w g 5 (g.1 0 8).toNatClampNeg x0) 6 ((g_w g 5 (g.1 0 8).toNatClampNeg x0).1 0 8).toNatClampNeg x1).1 0 8).toNatClampNeg x2) 0 8 (((g_w (g_w (g_w g 5 (g.1 0 8).toNatClampNeg x0) 6 ((g_w g 5 (g.1 0 8).toNatClampNeg x0).1 0 8).toNatClampNeg x1) 7 ((g_w (g_w g 5 (g.1 0 8).toNatClampNeg x0) 6 ((g_w g 5 (g.1 0 8).toNatClampNeg x0).1 0 8).toNatClampNeg x1).1 0 8).toNatClampNeg x2).1 0 8) + (1 : Int32)))
 else none
 else none
 else none
def m_X7_settle_L0 (k0 : MG → Option MG) (x0 : Int32)  (g : MG) : Option MG :=
  if (g.1 0 9) ≤ 0 then
 some g
 else
 if vin ((g.1 0 9) - (1 : Int32)) 120 then
 if (g.1 8 ((g.1 0 9) - (1 : Int32)).toNatClampNeg) = (4 : Int32) then
 some g
 else
 if vin ((g.1 0 9) - (1 : Int32)) 120 then
 if x0 < (g.1 8 ((g.1 0 9) - (1 : Int32)).toNatClampNeg) then
 some g
 else
 if vin ((g_w g 0 9 ((g.1 0 9) - (1 : Int32))).1 0 9) 120 then
 bnd (m_X7_add (g_w g 0 9 ((g.1 0 9) - (1 : Int32))) ((g_w g 0 9 ((g.1 0 9) - (1 : Int32))).1 8 ((g_w g 0 9 ((g.1 0 9) - (1 : Int32))).1 0 9).toNatClampNeg) (0 : Int32) (0 : Int32)) fun (g59 : MG) =>
 k0 g59
 else none
 else none
 else none
def b_X7_settle_L0 (x0 : Int32) : (MG → Option MG) → MG → Option MG := fun k x => m_X7_settle_L0 k x0 x
def m_X7_settle (g : MG) (x0 : Int32) : Option MG :=
  lpo (b_X7_settle_L0 x0) fuelN g
def m_X7_readNumber_J137 (x0 : Int32) (x1 : Int32) (v3 : Int32) (v4 : Int32) (g : MG) : Option (Int32 × MG) :=
  if v3 = 0 then
 bnd (m_X7_add g x0 x1 v4) fun (g152 : MG) =>
 some ((1 : Int32), g152)
 else
 bnd (m_X7_add g x0 x1 (-v4)) fun (g152 : MG) =>
 some ((1 : Int32), g152)
def m_X7_readNumber_L64 (k64 : (Int32 × MG) → Option (Int32 × MG)) (x0 : Int32) (x1 : Int32) (c3 : Int32) (v4 : Int32) (g : MG) : Option (Int32 × MG) :=
  if v4 ≤ 0 then
 m_X7_readNumber_J137 x0 x1 c3 v4 g
 else
 bnd (m_X7_isNext g (48 : Int32) (57 : Int32)) fun (r74 : Int32) =>
 if r74 = 0 then
 m_X7_readNumber_J137 x0 x1 c3 v4 g
 else
 if vin (g.1 0 10) 60 then
 if (999 : Int32) < ((((10 : Int32) * v4) + (g.1 4 (g.1 0 10).toNatClampNeg)) - (48 : Int32)) then
 m_X7_readNumber_J137 x0 x1 c3 v4 g
 else
 if vin (g.1 0 10) 60 then
 k64 (((((10 : Int32) * v4) + (g.1 4 (g.1 0 10).toNatClampNeg)) - (48 : Int32)), (g_w g 0 10 ((g.1 0 10) + (1 : Int32))))
 else none
 else none
def b_X7_readNumber_L64 (x0 : Int32) (x1 : Int32) (c3 : Int32) : ((Int32 × MG) → Option (Int32 × MG)) → (Int32 × MG) → Option (Int32 × MG) := fun k x => m_X7_readNumber_L64 k x0 x1 c3 x.1 x.2
def m_X7_readNumber_J23 (x0 : Int32) (x1 : Int32) (v3 : Int32) (w1 : Int32) (w2 : Int32) (g : MG) : Option (Int32 × MG) :=
  bnd (m_X7_isNext (g_w g 0 10 (w1 + w2)) (48 : Int32) (57 : Int32)) fun (r32 : Int32) =>
 if r32 = 0 then
 some ((0 : Int32), (g_w g 0 10 (w1 + w2)))
 else
 if vin ((g_w g 0 10 (w1 + w2)).1 0 10) 60 then
 lpo (b_X7_readNumber_L64 x0 x1 v3) fuelN ((((g_w g 0 10 (w1 + w2)).1 4 ((g_w g 0 10 (w1 + w2)).1 0 10).toNatClampNeg) - (48 : Int32)), (g_w (g_w g 0 10 (w1 + w2)) 0 10 (((g_w g 0 10 (w1 + w2)).1 0 10) + (1 : Int32))))
 else none
def m_X7_readNumber (g : MG) (x0 : Int32) (x1 : Int32) : Option (Int32 × MG) :=
  bnd (m_X7_isNext g (45 : Int32) (45 : Int32)) fun (r5 : Int32) =>
 if r5 = 0 then
 m_X7_readNumber_J23 x0 x1 r5 (g.1 0 10) (0 : Int32) g
 else
 m_X7_readNumber_J23 x0 x1 r5 (g.1 0 10) (1 : Int32) g
def m_X7_isSign (g : MG)  : Option Int32 :=
  bnd (m_X7_isNext g (60 : Int32) (62 : Int32)) fun (r5 : Int32) =>
 if r5 = 0 then
 bnd (m_X7_isNext g (35 : Int32) (35 : Int32)) fun (r16 : Int32) =>
 if r16 = 0 then
 some (0 : Int32)
 else
 some (1 : Int32)
 else
 some (1 : Int32)
def m_X7_read_J358 (k21 : (Int32 × Int32 × Int32 × MG) → Option (Int32 × MG)) (v1 : Int32) (v2 : Int32) (v3 : Int32) (g : MG) : Option (Int32 × MG) :=
  if v3 = 0 then
 bnd (m_X7_isNext g (41 : Int32) (41 : Int32)) fun (r367 : Int32) =>
 if r367 = 0 then
 some ((g.1 0 10), g)
 else
 if v1 ≤ 0 then
 some ((g.1 0 10), g)
 else
 bnd (m_X7_settle g (3 : Int32)) fun (g379 : MG) =>
 bnd (m_X7_settle (g_w g379 0 9 ((g379.1 0 9) - (1 : Int32))) (1 : Int32)) fun (g394 : MG) =>
 k21 ((v1 + (-1 : Int32)), v2, v3, (g_w g394 0 10 ((g394.1 0 10) + (1 : Int32))))
 else
 some ((g.1 0 10), g)
def m_X7_read_J314 (k21 : (Int32 × Int32 × Int32 × MG) → Option (Int32 × MG)) (v1 : Int32) (v2 : Int32) (w0 : Int32) (g : MG) : Option (Int32 × MG) :=
  bnd (m_X7_settle g w0) fun (g319 : MG) =>
 if vin (g319.1 0 9) 120 then
 k21 (v1, v2, (1 : Int32), (g_w (g_w (g_w g319 8 (g319.1 0 9).toNatClampNeg w0) 0 9 (((g_w g319 8 (g319.1 0 9).toNatClampNeg w0).1 0 9) + (1 : Int32))) 0 10 (((g_w (g_w g319 8 (g319.1 0 9).toNatClampNeg w0) 0 9 (((g_w g319 8 (g319.1 0 9).toNatClampNeg w0).1 0 9) + (1 : Int32))).1 0 10) + (1 : Int32))))
 else none
def m_X7_read_J295 (k21 : (Int32 × Int32 × Int32 × MG) → Option (Int32 × MG)) (v1 : Int32) (v2 : Int32) (g : MG) : Option (Int32 × MG) :=
  if vin (g.1 0 10) 60 then
 if (g.1 4 (g.1 0 10).toNatClampNeg) = (38 : Int32) then
 m_X7_read_J314 k21 v1 v2 (2 : Int32) g
 else
 m_X7_read_J314 k21 v1 v2 (3 : Int32) g
 else none
def m_X7_read_J269 (k21 : (Int32 × Int32 × Int32 × MG) → Option (Int32 × MG)) (v1 : Int32) (v2 : Int32) (v3 : Int32) (g : MG) : Option (Int32 × MG) :=
  if v3 = 0 then
 bnd (m_X7_isNext g (38 : Int32) (38 : Int32)) fun (r278 : Int32) =>
 if r278 = 0 then
 bnd (m_X7_isNext g (124 : Int32) (124 : Int32)) fun (r289 : Int32) =>
 if r289 = 0 then
 m_X7_read_J358 k21 v1 v2 v3 g
 else
 m_X7_read_J295 k21 v1 v2 g
 else
 m_X7_read_J295 k21 v1 v2 g
 else
 m_X7_read_J358 k21 v1 v2 v3 g
def m_X7_read_J196 (k21 : (Int32 × Int32 × Int32 × MG) → Option (Int32 × MG)) (v1 : Int32) (w0 : Int32) (g : MG) : Option (Int32 × MG) :=
  bnd (m_X7_isSign (g_w g 0 10 ((g.1 0 10) + (1 : Int32)))) fun (r209 : Int32) =>
 if r209 = 0 then
 some (((g_w g 0 10 ((g.1 0 10) + (1 : Int32))).1 0 10), (g_w g 0 10 ((g.1 0 10) + (1 : Int32))))
 else
 if vin ((g_w g 0 10 ((g.1 0 10) + (1 : Int32))).1 0 10) 60 then
 bnd2 (m_X7_readNumber (g_w (g_w g 0 10 ((g.1 0 10) + (1 : Int32))) 0 10 (((g_w g 0 10 ((g.1 0 10) + (1 : Int32))).1 0 10) + (1 : Int32))) w0 ((g_w g 0 10 ((g.1 0 10) + (1 : Int32))).1 4 ((g_w g 0 10 ((g.1 0 10) + (1 : Int32))).1 0 10).toNatClampNeg)) fun (r246 : Int32) (g246 : MG) =>
 if r246 = 0 then
 some ((g246.1 0 10), g246)
 else
 bnd (m_X7_settle g246 (1 : Int32)) fun (g259 : MG) =>
 k21 (v1, (0 : Int32), (0 : Int32), g259)
 else none
def m_X7_read_J176 (k21 : (Int32 × Int32 × Int32 × MG) → Option (Int32 × MG)) (v1 : Int32) (g : MG) : Option (Int32 × MG) :=
  if vin (g.1 0 10) 60 then
 if (g.1 4 (g.1 0 10).toNatClampNeg) = (107 : Int32) then
 m_X7_read_J196 k21 v1 (5 : Int32) g
 else
 m_X7_read_J196 k21 v1 (6 : Int32) g
 else none
def m_X7_read_J150 (k21 : (Int32 × Int32 × Int32 × MG) → Option (Int32 × MG)) (v1 : Int32) (v2 : Int32) (v3 : Int32) (g : MG) : Option (Int32 × MG) :=
  if v3 = 0 then
 m_X7_read_J269 k21 v1 v2 v3 g
 else
 bnd (m_X7_isNext g (107 : Int32) (107 : Int32)) fun (r159 : Int32) =>
 if r159 = 0 then
 bnd (m_X7_isNext g (118 : Int32) (118 : Int32)) fun (r170 : Int32) =>
 if r170 = 0 then
 m_X7_read_J269 k21 v1 v2 v3 g
 else
 m_X7_read_J176 k21 v1 g
 else
 m_X7_read_J176 k21 v1 g
def m_X7_read_J92 (k21 : (Int32 × Int32 × Int32 × MG) → Option (Int32 × MG)) (v1 : Int32) (v2 : Int32) (v3 : Int32) (g : MG) : Option (Int32 × MG) :=
  if v3 = 0 then
 m_X7_read_J150 k21 v1 v2 v3 g
 else
 bnd (m_X7_isNext g (40 : Int32) (40 : Int32)) fun (r101 : Int32) =>
 if r101 = 0 then
 m_X7_read_J150 k21 v1 v2 v3 g
 else
 if (5 : Int32) ≤ v1 then
 m_X7_read_J150 k21 v1 v2 v3 g
 else
 if vin (g.1 0 9) 120 then
 k21 ((v1 + (1 : Int32)), (0 : Int32), v3, (g_w (g_w (g_w g 8 (g.1 0 9).toNatClampNeg (4 : Int32)) 0 9 (((g_w g 8 (g.1 0 9).toNatClampNeg (4 : Int32)).1 0 9) + (1 : Int32))) 0 10 (((g_w (g_w g 8 (g.1 0 9).toNatClampNeg (4 : Int32)) 0 9 (((g_w g 8 (g.1 0 9).toNatClampNeg (4 : Int32)).1 0 9) + (1 : Int32))).1 0 10) + (1 : Int32))))
 else none
def m_X7_read_J36 (k21 : (Int32 × Int32 × Int32 × MG) → Option (Int32 × MG)) (v1 : Int32) (v2 : Int32) (v3 : Int32) (g : MG) : Option (Int32 × MG) :=
  if v3 = 0 then
 m_X7_read_J92 k21 v1 v2 v3 g
 else
 bnd (m_X7_isNext g (33 : Int32) (33 : Int32)) fun (r45 : Int32) =>
 if r45 = 0 then
 m_X7_read_J92 k21 v1 v2 v3 g
 else
 if (5 : Int32) ≤ v2 then
 m_X7_read_J92 k21 v1 v2 v3 g
 else
 if vin (g.1 0 9) 120 then
 k21 (v1, (v2 + (1 : Int32)), v3, (g_w (g_w (g_w g 8 (g.1 0 9).toNatClampNeg (1 : Int32)) 0 9 (((g_w g 8 (g.1 0 9).toNatClampNeg (1 : Int32)).1 0 9) + (1 : Int32))) 0 10 (((g_w (g_w g 8 (g.1 0 9).toNatClampNeg (1 : Int32)) 0 9 (((g_w g 8 (g.1 0 9).toNatClampNeg (1 : Int32)).1 0 9) + (1 : Int32))).1 0 10) + (1 : Int32))))
 else none
def m_X7_read_L21 (k21 : (Int32 × Int32 × Int32 × MG) → Option (Int32 × MG))  (v1 : Int32) (v2 : Int32) (v3 : Int32) (g : MG) : Option (Int32 × MG) :=
  if v3 = 0 then
 if (g.1 0 16) ≤ (g.1 0 10) then
 if v1 ≤ 0 then
 bnd (m_X7_settle g (3 : Int32)) fun (g429 : MG) =>
 some ((-1005 : Int32), g429)
 else
 some ((g.1 0 16), g)
 else
 m_X7_read_J36 k21 v1 v2 v3 g
 else
 m_X7_read_J36 k21 v1 v2 v3 g
def b_X7_read_L21  : ((Int32 × Int32 × Int32 × MG) → Option (Int32 × MG)) → (Int32 × Int32 × Int32 × MG) → Option (Int32 × MG) := fun k x => m_X7_read_L21 k  x.1 x.2.1 x.2.2.1 x.2.2.2
def m_X7_read (g : MG)  : Option (Int32 × MG) :=
  lpo (b_X7_read_L21) fuelN ((0 : Int32), (0 : Int32), (1 : Int32), (g_w (g_w (g_w g 0 8 (0 : Int32)) 0 9 (0 : Int32)) 0 10 (0 : Int32)))
def m_X7_fault (g : MG)  : Option (Int32 × MG) :=
  bnd2 (m_X7_read g) fun (r1 : Int32) (g1 : MG) =>
 some (r1, g1)
def m_X7_undo_L23 (k23 : (Int32 × MG) → Option (Int32 × MG))  (v1 : Int32) (g : MG) : Option (Int32 × MG) :=
  if (1385 : Int32) ≤ v1 then
 some ((g.1 0 15), g)
 else
 if vin (((1385 : Int32) * (g.1 0 15)) + v1) 5540 then
 if vin v1 1385 then
 k23 ((v1 + (1 : Int32)), (g_w g 1 v1.toNatClampNeg (g.1 3 (((1385 : Int32) * (g.1 0 15)) + v1).toNatClampNeg)))
 else none
 else none
def b_X7_undo_L23  : ((Int32 × MG) → Option (Int32 × MG)) → (Int32 × MG) → Option (Int32 × MG) := fun k x => m_X7_undo_L23 k  x.1 x.2
def m_X7_undo (g : MG)  : Option (Int32 × MG) :=
  if (g.1 0 15) = 0 then
 some ((-1005 : Int32), g)
 else
 lpo (b_X7_undo_L23) fuelN ((0 : Int32), (g_w g 0 15 ((g.1 0 15) - (1 : Int32))))
def m_X7_keep_L2 (k2 : (Int32 × MG) → Option (Int32 × MG))  (v1 : Int32) (g : MG) : Option (Int32 × MG) :=
  if (1385 : Int32) ≤ v1 then
 bnd (m_X7_slices (g_w g 0 17 (1 : Int32))) fun (r33 : Int32) =>
 some (r33, (g_w g 0 17 (1 : Int32)))
 else
 if vin v1 1385 then
 if vin v1 1385 then
 k2 ((v1 + (1 : Int32)), (g_w g 2 v1.toNatClampNeg (g.1 1 v1.toNatClampNeg)))
 else none
 else none
def b_X7_keep_L2  : ((Int32 × MG) → Option (Int32 × MG)) → (Int32 × MG) → Option (Int32 × MG) := fun k x => m_X7_keep_L2 k  x.1 x.2
def m_X7_keep (g : MG)  : Option (Int32 × MG) :=
  lpo (b_X7_keep_L2) fuelN ((0 : Int32), g)
def m_X7_restore_L17 (k17 : (Int32 × MG) → Option (Int32 × MG))  (v1 : Int32) (g : MG) : Option (Int32 × MG) :=
  if (1385 : Int32) ≤ v1 then
 bnd (m_X7_slices g) fun (r43 : Int32) =>
 some (r43, g)
 else
 if vin v1 1385 then
 if vin v1 1385 then
 k17 ((v1 + (1 : Int32)), (g_w g 1 v1.toNatClampNeg (g.1 2 v1.toNatClampNeg)))
 else none
 else none
def b_X7_restore_L17  : ((Int32 × MG) → Option (Int32 × MG)) → (Int32 × MG) → Option (Int32 × MG) := fun k x => m_X7_restore_L17 k  x.1 x.2
def m_X7_restore (g : MG)  : Option (Int32 × MG) :=
  if (g.1 0 17) = 0 then
 some ((-1005 : Int32), g)
 else
 bnd (m_X7_record g) fun (g12 : MG) =>
 lpo (b_X7_restore_L17) fuelN ((0 : Int32), g12)
def m_X7_passesTest (g : MG) (x0 : Int32) (x1 : Int32) (x2 : Int32) : Option Int32 :=
  if x1 = (60 : Int32) then
 if x2 ≤ x0 then
 some (0 : Int32)
 else
 some (1 : Int32)
 else
 if x1 = (62 : Int32) then
 if x0 ≤ x2 then
 some (0 : Int32)
 else
 some (1 : Int32)
 else
 if x1 = (61 : Int32) then
 if x0 = x2 then
 some (1 : Int32)
 else
 some (0 : Int32)
 else
 if x0 = x2 then
 some (0 : Int32)
 else
 some (1 : Int32)
def m_X7_push (g : MG) (x0 : Int32) (x1 : Int32) : Option MG :=
  if vin (g.1 0 13) 120 then
 if vin ((g_w g 9 (g.1 0 13).toNatClampNeg x0).1 0 13) 120 then
 some (g_w (g_w (g_w g 9 (g.1 0 13).toNatClampNeg x0) 10 ((g_w g 9 (g.1 0 13).toNatClampNeg x0).1 0 13).toNatClampNeg x1) 0 13 (((g_w (g_w g 9 (g.1 0 13).toNatClampNeg x0) 10 ((g_w g 9 (g.1 0 13).toNatClampNeg x0).1 0 13).toNatClampNeg x1).1 0 13) + (1 : Int32)))
 else none
 else none
def m_X7_truth_J214 (k8 : (Int32 × MG) → Option (Int32 × MG)) (x0 : Int32) (x1 : Int32) (x2 : Int32) (v4 : Int32) (v5 : Int32) (v6 : Int32) (w1 : Int32) (w2 : Int32) (g : MG) : Option (Int32 × MG) :=
  if v6 ≤ v5 then
 if w2 = (0 : Int32) then
 if vin w1 120 then
 k8 ((v4 + (1 : Int32)), (g_w g 9 w1.toNatClampNeg v5))
 else none
 else
 if vin w1 120 then
 k8 ((v4 + (1 : Int32)), (g_w g 9 w1.toNatClampNeg v6))
 else none
 else
 if w2 = (1 : Int32) then
 if vin w1 120 then
 k8 ((v4 + (1 : Int32)), (g_w g 9 w1.toNatClampNeg v5))
 else none
 else
 if vin w1 120 then
 k8 ((v4 + (1 : Int32)), (g_w g 9 w1.toNatClampNeg v6))
 else none
def m_X7_truth_L8 (k8 : (Int32 × MG) → Option (Int32 × MG)) (x0 : Int32) (x1 : Int32) (x2 : Int32) (v4 : Int32) (g : MG) : Option (Int32 × MG) :=
  if (g.1 0 8) ≤ v4 then
 if vin (0 : Int32) 120 then
 some ((g.1 9 (0 : Int32).toNatClampNeg), g)
 else none
 else
 if vin v4 120 then
 if (g.1 5 v4.toNatClampNeg) = (5 : Int32) then
 if vin v4 120 then
 if vin v4 120 then
 bnd (m_X7_passesTest g x0 (g.1 6 v4.toNatClampNeg) (g.1 7 v4.toNatClampNeg)) fun (r44 : Int32) =>
 if r44 = 0 then
 bnd (m_X7_push g (0 : Int32) (0 : Int32)) fun (g56 : MG) =>
 k8 ((v4 + (1 : Int32)), g56)
 else
 bnd (m_X7_push g (2 : Int32) (0 : Int32)) fun (g56 : MG) =>
 k8 ((v4 + (1 : Int32)), g56)
 else none
 else none
 else
 if vin v4 120 then
 if (g.1 5 v4.toNatClampNeg) = (6 : Int32) then
 if x2 = 0 then
 bnd (m_X7_push g (1 : Int32) (0 : Int32)) fun (g110 : MG) =>
 k8 ((v4 + (1 : Int32)), g110)
 else
 if vin v4 120 then
 if vin v4 120 then
 bnd (m_X7_passesTest g x1 (g.1 6 v4.toNatClampNeg) (g.1 7 v4.toNatClampNeg)) fun (r98 : Int32) =>
 if r98 = 0 then
 bnd (m_X7_push g (0 : Int32) (0 : Int32)) fun (g110 : MG) =>
 k8 ((v4 + (1 : Int32)), g110)
 else
 bnd (m_X7_push g (2 : Int32) (0 : Int32)) fun (g110 : MG) =>
 k8 ((v4 + (1 : Int32)), g110)
 else none
 else none
 else
 if vin v4 120 then
 if (g.1 5 v4.toNatClampNeg) = (1 : Int32) then
 if vin ((g.1 0 13) - (1 : Int32)) 120 then
 if vin ((g.1 0 13) - (1 : Int32)) 120 then
 k8 ((v4 + (1 : Int32)), (g_w g 9 ((g.1 0 13) - (1 : Int32)).toNatClampNeg ((2 : Int32) - (g.1 9 ((g.1 0 13) - (1 : Int32)).toNatClampNeg))))
 else none
 else none
 else
 if vin (((g_w g 0 13 ((g.1 0 13) - (1 : Int32))).1 0 13) - (1 : Int32)) 120 then
 if vin ((g_w g 0 13 ((g.1 0 13) - (1 : Int32))).1 0 13) 120 then
 if vin v4 120 then
 if ((g_w g 0 13 ((g.1 0 13) - (1 : Int32))).1 5 v4.toNatClampNeg) = (2 : Int32) then
 m_X7_truth_J214 k8 x0 x1 x2 v4 ((g_w g 0 13 ((g.1 0 13) - (1 : Int32))).1 9 (((g_w g 0 13 ((g.1 0 13) - (1 : Int32))).1 0 13) - (1 : Int32)).toNatClampNeg) ((g_w g 0 13 ((g.1 0 13) - (1 : Int32))).1 9 ((g_w g 0 13 ((g.1 0 13) - (1 : Int32))).1 0 13).toNatClampNeg) (((g_w g 0 13 ((g.1 0 13) - (1 : Int32))).1 0 13) - (1 : Int32)) (1 : Int32) (g_w g 0 13 ((g.1 0 13) - (1 : Int32)))
 else
 m_X7_truth_J214 k8 x0 x1 x2 v4 ((g_w g 0 13 ((g.1 0 13) - (1 : Int32))).1 9 (((g_w g 0 13 ((g.1 0 13) - (1 : Int32))).1 0 13) - (1 : Int32)).toNatClampNeg) ((g_w g 0 13 ((g.1 0 13) - (1 : Int32))).1 9 ((g_w g 0 13 ((g.1 0 13) - (1 : Int32))).1 0 13).toNatClampNeg) (((g_w g 0 13 ((g.1 0 13) - (1 : Int32))).1 0 13) - (1 : Int32)) (0 : Int32) (g_w g 0 13 ((g.1 0 13) - (1 : Int32)))
 else none
 else none
 else none
 else none
 else none
 else none
def b_X7_truth_L8 (x0 : Int32) (x1 : Int32) (x2 : Int32) : ((Int32 × MG) → Option (Int32 × MG)) → (Int32 × MG) → Option (Int32 × MG) := fun k x => m_X7_truth_L8 k x0 x1 x2 x.1 x.2
def m_X7_truth (g : MG) (x0 : Int32) (x1 : Int32) (x2 : Int32) : Option (Int32 × MG) :=
  lpo (b_X7_truth_L8 x0 x1 x2) fuelN ((0 : Int32), (g_w g 0 13 (0 : Int32)))
def m_X7_passing_L6 (k6 : (Int32 × Int32) → Option Int32) (g : MG) (x0 : Int32) (x1 : Int32) (x2 : Int32) (x3 : Int32) (v4 : Int32) (v5 : Int32) : Option Int32 :=
  if x1 < v5 then
 some v4
 else
 bnd (m_X7_passesTest g v5 x2 x3) fun (r18 : Int32) =>
 if r18 = 0 then
 k6 ((v4 + (0 : Int32)), (v5 + (1 : Int32)))
 else
 k6 ((v4 + (1 : Int32)), (v5 + (1 : Int32)))
def b_X7_passing_L6 (g : MG) (x0 : Int32) (x1 : Int32) (x2 : Int32) (x3 : Int32) : ((Int32 × Int32) → Option Int32) → (Int32 × Int32) → Option Int32 := fun k x => m_X7_passing_L6 k g x0 x1 x2 x3 x.1 x.2
def m_X7_passing (g : MG) (x0 : Int32) (x1 : Int32) (x2 : Int32) (x3 : Int32) : Option Int32 :=
  lpo (b_X7_passing_L6 g x0 x1 x2 x3) fuelN ((0 : Int32), x0)
def m_X7_canHold_J236 (k7 : (Int32 × MG) → Option (Int32 × MG)) (x0 : Int32) (x1 : Int32) (v3 : Int32) (w1 : Int32) (w2 : Int32) (g : MG) : Option (Int32 × MG) :=
  if vin w1 120 then
 if vin v3 120 then
 if ((g_w g 9 w1.toNatClampNeg w2).1 5 v3.toNatClampNeg) = (2 : Int32) then
 if vin (((g_w g 9 w1.toNatClampNeg w2).1 0 13) - (1 : Int32)) 120 then
 if vin ((g_w g 9 w1.toNatClampNeg w2).1 0 13) 120 then
 if vin (((g_w g 9 w1.toNatClampNeg w2).1 0 13) - (1 : Int32)) 120 then
 k7 ((v3 + (1 : Int32)), (g_w (g_w g 9 w1.toNatClampNeg w2) 10 (((g_w g 9 w1.toNatClampNeg w2).1 0 13) - (1 : Int32)).toNatClampNeg (((g_w g 9 w1.toNatClampNeg w2).1 10 (((g_w g 9 w1.toNatClampNeg w2).1 0 13) - (1 : Int32)).toNatClampNeg) &&& ((g_w g 9 w1.toNatClampNeg w2).1 10 ((g_w g 9 w1.toNatClampNeg w2).1 0 13).toNatClampNeg))))
 else none
 else none
 else none
 else
 if vin (((g_w g 9 w1.toNatClampNeg w2).1 0 13) - (1 : Int32)) 120 then
 if vin ((g_w g 9 w1.toNatClampNeg w2).1 0 13) 120 then
 if vin (((g_w g 9 w1.toNatClampNeg w2).1 0 13) - (1 : Int32)) 120 then
 k7 ((v3 + (1 : Int32)), (g_w (g_w g 9 w1.toNatClampNeg w2) 10 (((g_w g 9 w1.toNatClampNeg w2).1 0 13) - (1 : Int32)).toNatClampNeg (((g_w g 9 w1.toNatClampNeg w2).1 10 (((g_w g 9 w1.toNatClampNeg w2).1 0 13) - (1 : Int32)).toNatClampNeg) ||| ((g_w g 9 w1.toNatClampNeg w2).1 10 ((g_w g 9 w1.toNatClampNeg w2).1 0 13).toNatClampNeg))))
 else none
 else none
 else none
 else none
 else none
def m_X7_canHold_J55 (k7 : (Int32 × MG) → Option (Int32 × MG)) (x0 : Int32) (x1 : Int32) (v3 : Int32) (v4 : Int32) (w1 : Int32) (g : MG) : Option (Int32 × MG) :=
  if v4 = ((x1 - x0) + (1 : Int32)) then
 bnd (m_X7_push g w1 (1 : Int32)) fun (g70 : MG) =>
 k7 ((v3 + (1 : Int32)), g70)
 else
 bnd (m_X7_push g w1 (0 : Int32)) fun (g70 : MG) =>
 k7 ((v3 + (1 : Int32)), g70)
def m_X7_canHold_L7 (k7 : (Int32 × MG) → Option (Int32 × MG)) (x0 : Int32) (x1 : Int32) (v3 : Int32) (g : MG) : Option (Int32 × MG) :=
  if (g.1 0 8) ≤ v3 then
 if vin (0 : Int32) 120 then
 if (g.1 9 (0 : Int32).toNatClampNeg) = (1 : Int32) then
 some ((1 : Int32), g)
 else
 some ((0 : Int32), g)
 else none
 else
 if vin v3 120 then
 if (g.1 5 v3.toNatClampNeg) = (5 : Int32) then
 if vin v3 120 then
 if vin v3 120 then
 bnd (m_X7_passing g x0 x1 (g.1 6 v3.toNatClampNeg) (g.1 7 v3.toNatClampNeg)) fun (r39 : Int32) =>
 if r39 ≤ 0 then
 m_X7_canHold_J55 k7 x0 x1 v3 r39 (0 : Int32) g
 else
 m_X7_canHold_J55 k7 x0 x1 v3 r39 (1 : Int32) g
 else none
 else none
 else
 if vin v3 120 then
 if (g.1 5 v3.toNatClampNeg) = (6 : Int32) then
 bnd (m_X7_push g (1 : Int32) (0 : Int32)) fun (g90 : MG) =>
 k7 ((v3 + (1 : Int32)), g90)
 else
 if vin v3 120 then
 if (g.1 5 v3.toNatClampNeg) = (1 : Int32) then
 if vin ((g.1 0 13) - (1 : Int32)) 120 then
 if vin ((g.1 0 13) - (1 : Int32)) 120 then
 if vin ((g.1 0 13) - (1 : Int32)) 120 then
 if vin (((g_w g 9 ((g.1 0 13) - (1 : Int32)).toNatClampNeg ((1 : Int32) - (g.1 10 ((g.1 0 13) - (1 : Int32)).toNatClampNeg))).1 0 13) - (1 : Int32)) 120 then
 k7 ((v3 + (1 : Int32)), (g_w (g_w g 9 ((g.1 0 13) - (1 : Int32)).toNatClampNeg ((1 : Int32) - (g.1 10 ((g.1 0 13) - (1 : Int32)).toNatClampNeg))) 10 (((g_w g 9 ((g.1 0 13) - (1 : Int32)).toNatClampNeg ((1 : Int32) - (g.1 10 ((g.1 0 13) - (1 : Int32)).toNatClampNeg))).1 0 13) - (1 : Int32)).toNatClampNeg ((1 : Int32) - (g.1 9 ((g.1 0 13) - (1 : Int32)).toNatClampNeg))))
 else none
 else none
 else none
 else none
 else
 if vin v3 120 then
 if ((g_w g 0 13 ((g.1 0 13) - (1 : Int32))).1 5 v3.toNatClampNeg) = (2 : Int32) then
 if vin (((g_w g 0 13 ((g.1 0 13) - (1 : Int32))).1 0 13) - (1 : Int32)) 120 then
 if vin ((g_w g 0 13 ((g.1 0 13) - (1 : Int32))).1 0 13) 120 then
 m_X7_canHold_J236 k7 x0 x1 v3 (((g_w g 0 13 ((g.1 0 13) - (1 : Int32))).1 0 13) - (1 : Int32)) (((g_w g 0 13 ((g.1 0 13) - (1 : Int32))).1 9 (((g_w g 0 13 ((g.1 0 13) - (1 : Int32))).1 0 13) - (1 : Int32)).toNatClampNeg) &&& ((g_w g 0 13 ((g.1 0 13) - (1 : Int32))).1 9 ((g_w g 0 13 ((g.1 0 13) - (1 : Int32))).1 0 13).toNatClampNeg)) (g_w g 0 13 ((g.1 0 13) - (1 : Int32)))
 else none
 else none
 else
 if vin (((g_w g 0 13 ((g.1 0 13) - (1 : Int32))).1 0 13) - (1 : Int32)) 120 then
 if vin ((g_w g 0 13 ((g.1 0 13) - (1 : Int32))).1 0 13) 120 then
 m_X7_canHold_J236 k7 x0 x1 v3 (((g_w g 0 13 ((g.1 0 13) - (1 : Int32))).1 0 13) - (1 : Int32)) (((g_w g 0 13 ((g.1 0 13) - (1 : Int32))).1 9 (((g_w g 0 13 ((g.1 0 13) - (1 : Int32))).1 0 13) - (1 : Int32)).toNatClampNeg) ||| ((g_w g 0 13 ((g.1 0 13) - (1 : Int32))).1 9 ((g_w g 0 13 ((g.1 0 13) - (1 : Int32))).1 0 13).toNatClampNeg)) (g_w g 0 13 ((g.1 0 13) - (1 : Int32)))
 else none
 else none
 else none
 else none
 else none
 else none
def b_X7_canHold_L7 (x0 : Int32) (x1 : Int32) : ((Int32 × MG) → Option (Int32 × MG)) → (Int32 × MG) → Option (Int32 × MG) := fun k x => m_X7_canHold_L7 k x0 x1 x.1 x.2
def m_X7_canHold (g : MG) (x0 : Int32) (x1 : Int32) : Option (Int32 × MG) :=
  lpo (b_X7_canHold_L7 x0 x1) fuelN ((0 : Int32), (g_w g 0 13 (0 : Int32)))
def m_X7_hasKey_L2 (k2 : (Int32 × MG) → Option (Int32 × MG)) (x0 : Int32) (v2 : Int32) (g : MG) : Option (Int32 × MG) :=
  if (1000 : Int32) ≤ v2 then
 some ((0 : Int32), g)
 else
 if x0 = (60 : Int32) then
 bnd (m_X7_owner g v2) fun (r17 : Int32) =>
 if r17 = (-1005 : Int32) then
 if (1 : Int32) = 0 then
 k2 ((v2 + (1 : Int32)), g)
 else
 bnd2 (m_X7_truth g v2 (0 : Int32) (0 : Int32)) fun (r49 : Int32) (g49 : MG) =>
 if r49 ≤ 0 then
 k2 ((v2 + (1 : Int32)), g49)
 else
 some ((1 : Int32), g49)
 else
 if (0 : Int32) = 0 then
 k2 ((v2 + (1 : Int32)), g)
 else
 bnd2 (m_X7_truth g v2 (0 : Int32) (0 : Int32)) fun (r49 : Int32) (g49 : MG) =>
 if r49 ≤ 0 then
 k2 ((v2 + (1 : Int32)), g49)
 else
 some ((1 : Int32), g49)
 else
 bnd (m_X7_has g x0 v2) fun (r37 : Int32) =>
 if r37 = 0 then
 k2 ((v2 + (1 : Int32)), g)
 else
 bnd2 (m_X7_truth g v2 (0 : Int32) (0 : Int32)) fun (r49 : Int32) (g49 : MG) =>
 if r49 ≤ 0 then
 k2 ((v2 + (1 : Int32)), g49)
 else
 some ((1 : Int32), g49)
def b_X7_hasKey_L2 (x0 : Int32) : ((Int32 × MG) → Option (Int32 × MG)) → (Int32 × MG) → Option (Int32 × MG) := fun k x => m_X7_hasKey_L2 k x0 x.1 x.2
def m_X7_hasKey (g : MG) (x0 : Int32) : Option (Int32 × MG) :=
  lpo (b_X7_hasKey_L2 x0) fuelN ((0 : Int32), g)
def m_X7_looks (g : MG) (x0 : Int32) (x1 : Int32) : Option (Int32 × MG) :=
  if x0 = (60 : Int32) then
 if vin (2 : Int32) 1385 then
 if (g.1 1 (2 : Int32).toNatClampNeg) = 0 then
 some ((0 : Int32), g)
 else
 if x1 = 0 then
 some ((1 : Int32), g)
 else
 if x0 = (60 : Int32) then
 if x1 = (1 : Int32) then
 some ((1 : Int32), g)
 else
 if x1 = (1 : Int32) then
 if vin ((1265 : Int32) + x0) 1385 then
 if vin ((1325 : Int32) + x0) 1385 then
 bnd2 (m_X7_canHold g (g.1 1 ((1265 : Int32) + x0).toNatClampNeg) ((g.1 1 ((1325 : Int32) + x0).toNatClampNeg) - (1 : Int32))) fun (r62 : Int32) (g62 : MG) =>
 if bz r62 = true then some (r62, g62) else none
 else none
 else none
 else
 bnd2 (m_X7_hasKey g x0) fun (r70 : Int32) (g70 : MG) =>
 if bz r70 = true then some (r70, g70) else none
 else
 if x1 = (1 : Int32) then
 if vin ((1265 : Int32) + x0) 1385 then
 if vin ((1325 : Int32) + x0) 1385 then
 bnd2 (m_X7_canHold g (g.1 1 ((1265 : Int32) + x0).toNatClampNeg) ((g.1 1 ((1325 : Int32) + x0).toNatClampNeg) - (1 : Int32))) fun (r62 : Int32) (g62 : MG) =>
 if bz r62 = true then some (r62, g62) else none
 else none
 else none
 else
 bnd2 (m_X7_hasKey g x0) fun (r70 : Int32) (g70 : MG) =>
 if bz r70 = true then some (r70, g70) else none
 else none
 else
 if x1 = 0 then
 some ((1 : Int32), g)
 else
 if x0 = (60 : Int32) then
 if x1 = (1 : Int32) then
 some ((1 : Int32), g)
 else
 if x1 = (1 : Int32) then
 if vin ((1265 : Int32) + x0) 1385 then
 if vin ((1325 : Int32) + x0) 1385 then
 bnd2 (m_X7_canHold g (g.1 1 ((1265 : Int32) + x0).toNatClampNeg) ((g.1 1 ((1325 : Int32) + x0).toNatClampNeg) - (1 : Int32))) fun (r62 : Int32) (g62 : MG) =>
 if bz r62 = true then some (r62, g62) else none
 else none
 else none
 else
 bnd2 (m_X7_hasKey g x0) fun (r70 : Int32) (g70 : MG) =>
 if bz r70 = true then some (r70, g70) else none
 else
 if x1 = (1 : Int32) then
 if vin ((1265 : Int32) + x0) 1385 then
 if vin ((1325 : Int32) + x0) 1385 then
 bnd2 (m_X7_canHold g (g.1 1 ((1265 : Int32) + x0).toNatClampNeg) ((g.1 1 ((1325 : Int32) + x0).toNatClampNeg) - (1 : Int32))) fun (r62 : Int32) (g62 : MG) =>
 if bz r62 = true then some (r62, g62) else none
 else none
 else none
 else
 bnd2 (m_X7_hasKey g x0) fun (r70 : Int32) (g70 : MG) =>
 if bz r70 = true then some (r70, g70) else none
def m_X7_look_L2 (k2 : (Int32 × MG) → Option MG)  (v1 : Int32) (g : MG) : Option MG :=
  if (60 : Int32) < v1 then
 some g
 else
 if v1 = (60 : Int32) then
 if vin (3 : Int32) 1385 then
 bnd2 (m_X7_looks g v1 (g.1 1 (3 : Int32).toNatClampNeg)) fun (r35 : Int32) (g35 : MG) =>
 if r35 = 0 then
 if vin v1 61 then
 k2 ((v1 + (1 : Int32)), (g_w g35 11 v1.toNatClampNeg (0 : Int32)))
 else none
 else
 if vin v1 61 then
 k2 ((v1 + (1 : Int32)), (g_w g35 11 v1.toNatClampNeg (1 : Int32)))
 else none
 else none
 else
 bnd (m_X7_isSlice g v1) fun (r21 : Int32) =>
 if r21 = 0 then
 if vin v1 61 then
 k2 ((v1 + (1 : Int32)), (g_w g 11 v1.toNatClampNeg (0 : Int32)))
 else none
 else
 if vin (3 : Int32) 1385 then
 bnd2 (m_X7_looks g v1 (g.1 1 (3 : Int32).toNatClampNeg)) fun (r35 : Int32) (g35 : MG) =>
 if r35 = 0 then
 if vin v1 61 then
 k2 ((v1 + (1 : Int32)), (g_w g35 11 v1.toNatClampNeg (0 : Int32)))
 else none
 else
 if vin v1 61 then
 k2 ((v1 + (1 : Int32)), (g_w g35 11 v1.toNatClampNeg (1 : Int32)))
 else none
 else none
def b_X7_look_L2  : ((Int32 × MG) → Option MG) → (Int32 × MG) → Option MG := fun k x => m_X7_look_L2 k  x.1 x.2
def m_X7_look (g : MG)  : Option MG :=
  lpo (b_X7_look_L2) fuelN ((0 : Int32), g)
def m_X7_isPassed (g : MG) (x0 : Int32) : Option (Int32 × MG) :=
  if vin ((5 : Int32) + x0) 1385 then
 if vin ((405 : Int32) + x0) 1385 then
 bnd2 (m_X7_truth g (g.1 1 ((5 : Int32) + x0).toNatClampNeg) (g.1 1 ((405 : Int32) + x0).toNatClampNeg) (1 : Int32)) fun (r20 : Int32) (g20 : MG) =>
 if r20 = (2 : Int32) then
 some ((1 : Int32), g20)
 else
 some ((0 : Int32), g20)
 else none
 else none
def m_X7_isInTable (g : MG) (x0 : Int32) : Option Int32 :=
  if vin ((805 : Int32) + x0) 1385 then
 if (g.1 1 ((805 : Int32) + x0).toNatClampNeg) = (-1 : Int32) then
 some (0 : Int32)
 else
 if vin ((805 : Int32) + x0) 1385 then
 if (g.1 1 ((805 : Int32) + x0).toNatClampNeg) = (61 : Int32) then
 some (0 : Int32)
 else
 some (1 : Int32)
 else none
 else none
def m_X7_isAnswer (g : MG) (x0 : Int32) : Option (Int32 × MG) :=
  bnd (m_X7_isInTable g x0) fun (r2 : Int32) =>
 if r2 = 0 then
 some ((0 : Int32), g)
 else
 if vin ((805 : Int32) + x0) 1385 then
 if vin (g.1 1 ((805 : Int32) + x0).toNatClampNeg) 61 then
 if (g.1 11 (g.1 1 ((805 : Int32) + x0).toNatClampNeg).toNatClampNeg) = (1 : Int32) then
 bnd2 (m_X7_isPassed g x0) fun (r29 : Int32) (g29 : MG) =>
 if r29 = 0 then
 some ((0 : Int32), g29)
 else
 some ((1 : Int32), g29)
 else
 some ((0 : Int32), g)
 else none
 else none
def m_X7_ask_J137 (k75 : (Int32 × Int32 × Int32 × Int32 × Int32 × MG) → Option (Int32 × MG)) (x0 : Int32) (c4 : Int32) (v2 : Int32) (v5 : Int32) (v6 : Int32) (v7 : Int32) (w0 : Int32) (w1 : Int32) (g : MG) : Option (Int32 × MG) :=
  if vin ((805 : Int32) + v7) 1385 then
 if vin (g.1 1 ((805 : Int32) + v7).toNatClampNeg) 61 then
 bnd2 (m_X7_isPassed g v7) fun (r165 : Int32) (g165 : MG) =>
 if r165 = 0 then
 k75 (v2, (w0 + w1), (v5 + (g.1 11 (g.1 1 ((805 : Int32) + v7).toNatClampNeg).toNatClampNeg)), (v6 + (0 : Int32)), (v7 + (1 : Int32)), g165)
 else
 k75 (v2, (w0 + w1), (v5 + (g.1 11 (g.1 1 ((805 : Int32) + v7).toNatClampNeg).toNatClampNeg)), (v6 + (1 : Int32)), (v7 + (1 : Int32)), g165)
 else none
 else none
def m_X7_ask_J114 (k75 : (Int32 × Int32 × Int32 × Int32 × Int32 × MG) → Option (Int32 × MG)) (x0 : Int32) (c4 : Int32) (v3 : Int32) (v5 : Int32) (v6 : Int32) (v7 : Int32) (v8 : Int32) (w0 : Int32) (w1 : Int32) (g : MG) : Option (Int32 × MG) :=
  if v8 = 0 then
 m_X7_ask_J137 k75 x0 c4 (w0 + w1) v5 v6 v7 v3 (0 : Int32) g
 else
 if vin ((405 : Int32) + v7) 1385 then
 m_X7_ask_J137 k75 x0 c4 (w0 + w1) v5 v6 v7 v3 (g.1 1 ((405 : Int32) + v7).toNatClampNeg) g
 else none
def m_X7_ask_L75 (k75 : (Int32 × Int32 × Int32 × Int32 × Int32 × MG) → Option (Int32 × MG)) (x0 : Int32) (c4 : Int32) (v2 : Int32) (v3 : Int32) (v5 : Int32) (v6 : Int32) (v7 : Int32) (g : MG) : Option (Int32 × MG) :=
  if vin (0 : Int32) 1385 then
 if (g.1 1 (0 : Int32).toNatClampNeg) ≤ v7 then
 if x0 = 0 then
 some (v2, g)
 else
 if x0 = (1 : Int32) then
 some (v3, g)
 else
 if x0 = (2 : Int32) then
 some (c4, g)
 else
 if x0 = (3 : Int32) then
 some (v5, g)
 else
 if x0 = (4 : Int32) then
 some (v6, g)
 else
 some ((v6 - v2), g)
 else
 bnd (m_X7_isInTable g v7) fun (r89 : Int32) =>
 if r89 = 0 then
 k75 (v2, v3, v5, v6, (v7 + (1 : Int32)), g)
 else
 bnd2 (m_X7_isAnswer g v7) fun (r98 : Int32) (g98 : MG) =>
 if r98 = 0 then
 m_X7_ask_J114 k75 x0 c4 v3 v5 v6 v7 r98 v2 (0 : Int32) g98
 else
 m_X7_ask_J114 k75 x0 c4 v3 v5 v6 v7 r98 v2 (1 : Int32) g98
 else none
def b_X7_ask_L75 (x0 : Int32) (c4 : Int32) : ((Int32 × Int32 × Int32 × Int32 × Int32 × MG) → Option (Int32 × MG)) → (Int32 × Int32 × Int32 × Int32 × Int32 × MG) → Option (Int32 × MG) := fun k x => m_X7_ask_L75 k x0 c4 x.1 x.2.1 x.2.2.1 x.2.2.2.1 x.2.2.2.2.1 x.2.2.2.2.2
def m_X7_ask_L47 (k47 : (Int32 × Int32) → Option (Int32 × MG)) (g : MG) (x0 : Int32) (c2 : Int32) (c3 : Int32) (c5 : Int32) (c6 : Int32) (v4 : Int32) (v7 : Int32) : Option (Int32 × MG) :=
  if (60 : Int32) < v7 then
 lpo (b_X7_ask_L75 x0 v4) fuelN (c2, c3, c5, c6, (0 : Int32), g)
 else
 if vin v7 61 then
 k47 ((v4 + (g.1 11 v7.toNatClampNeg)), (v7 + (1 : Int32)))
 else none
def b_X7_ask_L47 (g : MG) (x0 : Int32) (c2 : Int32) (c3 : Int32) (c5 : Int32) (c6 : Int32) : ((Int32 × Int32) → Option (Int32 × MG)) → (Int32 × Int32) → Option (Int32 × MG) := fun k x => m_X7_ask_L47 k g x0 c2 c3 c5 c6 x.1 x.2
def m_X7_ask (g : MG) (x0 : Int32) : Option (Int32 × MG) :=
  bnd2 (m_X7_read g) fun (r1 : Int32) (g1 : MG) =>
 if r1 = (-1005 : Int32) then
 bnd (m_X7_in g1 x0 (0 : Int32) (5 : Int32)) fun (r17 : Int32) =>
 if r17 = 0 then
 some ((-1002 : Int32), g1)
 else
 bnd (m_X7_look g1) fun (g28 : MG) =>
 lpo (b_X7_ask_L47 g28 x0 (0 : Int32) (0 : Int32) (0 : Int32) (0 : Int32)) fuelN ((0 : Int32), (0 : Int32))
 else
 some ((-1001 : Int32), g1)
def m_X7_answer_L30 (k30 : (Int32 × Int32 × MG) → Option (Int32 × MG)) (x0 : Int32) (v2 : Int32) (v3 : Int32) (g : MG) : Option (Int32 × MG) :=
  if vin (0 : Int32) 1385 then
 if (g.1 1 (0 : Int32).toNatClampNeg) ≤ v3 then
 some ((-1005 : Int32), g)
 else
 bnd2 (m_X7_isAnswer g v3) fun (r42 : Int32) (g42 : MG) =>
 if r42 = 0 then
 k30 (v2, (v3 + (1 : Int32)), g42)
 else
 if v2 = 0 then
 some (v3, g42)
 else
 k30 ((v2 + (-1 : Int32)), (v3 + (1 : Int32)), g42)
 else none
def b_X7_answer_L30 (x0 : Int32) : ((Int32 × Int32 × MG) → Option (Int32 × MG)) → (Int32 × Int32 × MG) → Option (Int32 × MG) := fun k x => m_X7_answer_L30 k x0 x.1 x.2.1 x.2.2
def m_X7_answer (g : MG) (x0 : Int32) : Option (Int32 × MG) :=
  bnd2 (m_X7_read g) fun (r1 : Int32) (g1 : MG) =>
 if r1 = (-1005 : Int32) then
 if 0 ≤ x0 then
 bnd (m_X7_look g1) fun (g23 : MG) =>
 lpo (b_X7_answer_L30 x0) fuelN (x0, (0 : Int32), g23)
 else
 some ((-1002 : Int32), g1)
 else
 some ((-1001 : Int32), g1)
def m_X7_looksInto (g : MG) (x0 : Int32) (x1 : Int32) : Option (Int32 × MG) :=
  if x0 = (60 : Int32) then
 bnd2 (m_X7_read g) fun (r15 : Int32) (g15 : MG) =>
 if r15 = (-1005 : Int32) then
 bnd (m_X7_in g15 x1 (0 : Int32) (2 : Int32)) fun (r31 : Int32) =>
 if r31 = 0 then
 some ((-1002 : Int32), g15)
 else
 bnd2 (m_X7_looks g15 x0 x1) fun (r44 : Int32) (g44 : MG) =>
 if r44 = 0 then
 some ((0 : Int32), g44)
 else
 some ((1 : Int32), g44)
 else
 some ((-1001 : Int32), g15)
 else
 bnd (m_X7_isSlice g x0) fun (r8 : Int32) =>
 if r8 = 0 then
 some ((-1001 : Int32), g)
 else
 bnd2 (m_X7_read g) fun (r15 : Int32) (g15 : MG) =>
 if r15 = (-1005 : Int32) then
 bnd (m_X7_in g15 x1 (0 : Int32) (2 : Int32)) fun (r31 : Int32) =>
 if r31 = 0 then
 some ((-1002 : Int32), g15)
 else
 bnd2 (m_X7_looks g15 x0 x1) fun (r44 : Int32) (g44 : MG) =>
 if r44 = 0 then
 some ((0 : Int32), g44)
 else
 some ((1 : Int32), g44)
 else
 some ((-1001 : Int32), g15)
def m_X7_passes (g : MG) (x0 : Int32) : Option (Int32 × MG) :=
  bnd (m_X7_isRow g x0) fun (r2 : Int32) =>
 if r2 = 0 then
 some ((-1001 : Int32), g)
 else
 bnd2 (m_X7_read g) fun (r9 : Int32) (g9 : MG) =>
 if r9 = (-1005 : Int32) then
 bnd2 (m_X7_isPassed g9 x0) fun (r24 : Int32) (g24 : MG) =>
 if r24 = 0 then
 some ((0 : Int32), g24)
 else
 some ((1 : Int32), g24)
 else
 some ((-1001 : Int32), g9)
def m_X7_row (g : MG) (x0 : Int32) (x1 : Int32) : Option Int32 :=
  bnd (m_X7_isRow g x0) fun (r2 : Int32) =>
 if r2 = 0 then
 some (-1001 : Int32)
 else
 if x1 = (0 : Int32) then
 if vin ((5 : Int32) + x0) 1385 then
 some (g.1 1 ((5 : Int32) + x0).toNatClampNeg)
 else none
 else if x1 = (1 : Int32) then
 if vin ((405 : Int32) + x0) 1385 then
 some (g.1 1 ((405 : Int32) + x0).toNatClampNeg)
 else none
 else if x1 = (2 : Int32) then
 if vin ((805 : Int32) + x0) 1385 then
 some (g.1 1 ((805 : Int32) + x0).toNatClampNeg)
 else none
 else if x1 = (3 : Int32) then
 if vin ((5 : Int32) + x0) 1385 then
 bnd (m_X7_belongsTo g (g.1 1 ((5 : Int32) + x0).toNatClampNeg)) fun (r88 : Int32) =>
 some r88
 else none
 else if x1 = (4 : Int32) then
 bnd (m_X7_isStray g x0) fun (r94 : Int32) =>
 if r94 = 0 then
 some (0 : Int32)
 else
 some (1 : Int32)
 else 
 some (-1002 : Int32)
def m_X7_slice_J163 (k85 : (Int32 × Int32 × Int32 × Int32 × Int32 × Int32) → Option Int32) (x0 : Int32) (x1 : Int32) (g : MG) (v3 : Int32) (v4 : Int32) (v6 : Int32) (v7 : Int32) (v8 : Int32) (w0 : Int32) : Option Int32 :=
  if vin ((405 : Int32) + v8) 1385 then
 bnd (m_X7_isStray g v8) fun (r186 : Int32) =>
 if r186 = 0 then
 k85 (v3, v4, w0, (v6 + (g.1 1 ((405 : Int32) + v8).toNatClampNeg)), (v7 + (0 : Int32)), (v8 + (1 : Int32)))
 else
 k85 (v3, v4, w0, (v6 + (g.1 1 ((405 : Int32) + v8).toNatClampNeg)), (v7 + (1 : Int32)), (v8 + (1 : Int32)))
 else none
def m_X7_slice_J147 (k85 : (Int32 × Int32 × Int32 × Int32 × Int32 × Int32) → Option Int32) (x0 : Int32) (x1 : Int32) (g : MG) (v3 : Int32) (v5 : Int32) (v6 : Int32) (v7 : Int32) (v8 : Int32) (v9 : Int32) (w0 : Int32) : Option Int32 :=
  if v9 ≤ v5 then
 m_X7_slice_J163 k85 x0 x1 g v3 w0 v6 v7 v8 v5
 else
 m_X7_slice_J163 k85 x0 x1 g v3 w0 v6 v7 v8 v9
def m_X7_slice_L85 (k85 : (Int32 × Int32 × Int32 × Int32 × Int32 × Int32) → Option Int32) (g : MG) (x0 : Int32) (x1 : Int32) (v3 : Int32) (v4 : Int32) (v5 : Int32) (v6 : Int32) (v7 : Int32) (v8 : Int32) : Option Int32 :=
  if vin (0 : Int32) 1385 then
 if (g.1 1 (0 : Int32).toNatClampNeg) ≤ v8 then
 if x1 = (2 : Int32) then
 some v3
 else
 if x1 = (3 : Int32) then
 some v4
 else
 if x1 = (4 : Int32) then
 some v5
 else
 if x1 = (5 : Int32) then
 some v6
 else
 some v7
 else
 if vin ((805 : Int32) + v8) 1385 then
 if (g.1 1 ((805 : Int32) + v8).toNatClampNeg) = x0 then
 if vin ((5 : Int32) + v8) 1385 then
 if v4 = (-1005 : Int32) then
 m_X7_slice_J147 k85 x0 x1 g (v3 + (1 : Int32)) v5 v6 v7 v8 (g.1 1 ((5 : Int32) + v8).toNatClampNeg) (g.1 1 ((5 : Int32) + v8).toNatClampNeg)
 else
 if v4 ≤ (g.1 1 ((5 : Int32) + v8).toNatClampNeg) then
 m_X7_slice_J147 k85 x0 x1 g (v3 + (1 : Int32)) v5 v6 v7 v8 (g.1 1 ((5 : Int32) + v8).toNatClampNeg) v4
 else
 m_X7_slice_J147 k85 x0 x1 g (v3 + (1 : Int32)) v5 v6 v7 v8 (g.1 1 ((5 : Int32) + v8).toNatClampNeg) (g.1 1 ((5 : Int32) + v8).toNatClampNeg)
 else none
 else
 k85 (v3, v4, v5, v6, v7, (v8 + (1 : Int32)))
 else none
 else none
def b_X7_slice_L85 (g : MG) (x0 : Int32) (x1 : Int32) : ((Int32 × Int32 × Int32 × Int32 × Int32 × Int32) → Option Int32) → (Int32 × Int32 × Int32 × Int32 × Int32 × Int32) → Option Int32 := fun k x => m_X7_slice_L85 k g x0 x1 x.1 x.2.1 x.2.2.1 x.2.2.2.1 x.2.2.2.2.1 x.2.2.2.2.2
def m_X7_slice (g : MG) (x0 : Int32) (x1 : Int32) : Option Int32 :=
  bnd (m_X7_isPlace g x0) fun (r2 : Int32) =>
 if r2 = 0 then
 some (-1001 : Int32)
 else
 bnd (m_X7_in g x1 (0 : Int32) (6 : Int32)) fun (r16 : Int32) =>
 if r16 = 0 then
 some (-1002 : Int32)
 else
 if (2 : Int32) ≤ x1 then
 lpo (b_X7_slice_L85 g x0 x1) fuelN ((0 : Int32), (-1005 : Int32), (-1005 : Int32), (0 : Int32), (0 : Int32), (0 : Int32))
 else
 if x0 < (60 : Int32) then
 if x1 = 0 then
 if vin ((1265 : Int32) + x0) 1385 then
 some (g.1 1 ((1265 : Int32) + x0).toNatClampNeg)
 else none
 else
 if vin ((1325 : Int32) + x0) 1385 then
 some (g.1 1 ((1325 : Int32) + x0).toNatClampNeg)
 else none
 else
 some (-1005 : Int32)
def m_X7_ordered_L12 (k12 : (Int32 × Int32) → Option Int32) (g : MG) (x0 : Int32) (v2 : Int32) (v3 : Int32) : Option Int32 :=
  if (1000 : Int32) ≤ v3 then
 some (-1005 : Int32)
 else
 bnd (m_X7_owner g v3) fun (r21 : Int32) =>
 if r21 = (-1005 : Int32) then
 k12 (v2, (v3 + (1 : Int32)))
 else
 if vin ((1265 : Int32) + r21) 1385 then
 if (g.1 1 ((1265 : Int32) + r21).toNatClampNeg) = v3 then
 if v2 = 0 then
 some r21
 else
 k12 ((v2 + (-1 : Int32)), (v3 + (1 : Int32)))
 else
 k12 (v2, (v3 + (1 : Int32)))
 else none
def b_X7_ordered_L12 (g : MG) (x0 : Int32) : ((Int32 × Int32) → Option Int32) → (Int32 × Int32) → Option Int32 := fun k x => m_X7_ordered_L12 k g x0 x.1 x.2
def m_X7_ordered (g : MG) (x0 : Int32) : Option Int32 :=
  if 0 ≤ x0 then
 lpo (b_X7_ordered_L12 g x0) fuelN (x0, (0 : Int32))
 else
 some (-1002 : Int32)
def m_X7_lies_J129 (k52 : (Int32 × Int32) → Option Int32) (k22 : Int32 → Option Int32) (x0 : Int32) (x1 : Int32) (g : MG) (c3 : Int32) (v4 : Int32) (v5 : Int32) (w0 : Int32) : Option Int32 :=
  if w0 = 0 then
 k52 ((v4 + (0 : Int32)), (v5 + (1 : Int32)))
 else
 k52 ((v4 + (1 : Int32)), (v5 + (1 : Int32)))
def m_X7_lies_L52 (k52 : (Int32 × Int32) → Option Int32) (k22 : Int32 → Option Int32) (g : MG) (x0 : Int32) (x1 : Int32) (c3 : Int32) (v4 : Int32) (v5 : Int32) : Option Int32 :=
  if vin (0 : Int32) 1385 then
 if (g.1 1 (0 : Int32).toNatClampNeg) ≤ v5 then
 if v4 = x1 then
 some c3
 else
 k22 (c3 + (1 : Int32))
 else
 if vin ((805 : Int32) + v5) 1385 then
 if (g.1 1 ((805 : Int32) + v5).toNatClampNeg) = x0 then
 if vin ((5 : Int32) + v5) 1385 then
 if vin ((5 : Int32) + c3) 1385 then
 if (g.1 1 ((5 : Int32) + v5).toNatClampNeg) < (g.1 1 ((5 : Int32) + c3).toNatClampNeg) then
 m_X7_lies_J129 k52 k22 x0 x1 g c3 v4 v5 (1 : Int32)
 else
 if vin ((5 : Int32) + v5) 1385 then
 if vin ((5 : Int32) + c3) 1385 then
 if (g.1 1 ((5 : Int32) + v5).toNatClampNeg) = (g.1 1 ((5 : Int32) + c3).toNatClampNeg) then
 if c3 ≤ v5 then
 m_X7_lies_J129 k52 k22 x0 x1 g c3 v4 v5 (0 : Int32)
 else
 m_X7_lies_J129 k52 k22 x0 x1 g c3 v4 v5 (1 : Int32)
 else
 m_X7_lies_J129 k52 k22 x0 x1 g c3 v4 v5 (0 : Int32)
 else none
 else none
 else none
 else none
 else
 m_X7_lies_J129 k52 k22 x0 x1 g c3 v4 v5 (0 : Int32)
 else none
 else none
def b_X7_lies_L52 (k22 : Int32 → Option Int32) (g : MG) (x0 : Int32) (x1 : Int32) (c3 : Int32) : ((Int32 × Int32) → Option Int32) → (Int32 × Int32) → Option Int32 := fun k x => m_X7_lies_L52 k k22 g x0 x1 c3 x.1 x.2
def m_X7_lies_L22 (k22 : Int32 → Option Int32) (g : MG) (x0 : Int32) (x1 : Int32) (v3 : Int32) : Option Int32 :=
  if vin (0 : Int32) 1385 then
 if (g.1 1 (0 : Int32).toNatClampNeg) ≤ v3 then
 some (-1005 : Int32)
 else
 if vin ((805 : Int32) + v3) 1385 then
 if (g.1 1 ((805 : Int32) + v3).toNatClampNeg) = x0 then
 lpo (b_X7_lies_L52 k22 g x0 x1 v3) fuelN ((0 : Int32), (0 : Int32))
 else
 k22 (v3 + (1 : Int32))
 else none
 else none
def b_X7_lies_L22 (g : MG) (x0 : Int32) (x1 : Int32) : (Int32 → Option Int32) → Int32 → Option Int32 := fun k x => m_X7_lies_L22 k g x0 x1 x
def m_X7_lies (g : MG) (x0 : Int32) (x1 : Int32) : Option Int32 :=
  bnd (m_X7_isPlace g x0) fun (r2 : Int32) =>
 if r2 = 0 then
 some (-1001 : Int32)
 else
 if 0 ≤ x1 then
 lpo (b_X7_lies_L22 g x0 x1) fuelN (0 : Int32)
 else
 some (-1002 : Int32)
def m_X7_belongs (g : MG) (x0 : Int32) : Option Int32 :=
  bnd (m_X7_in g x0 (0 : Int32) (999 : Int32)) fun (r5 : Int32) =>
 if r5 = 0 then
 some (-1002 : Int32)
 else
 bnd (m_X7_belongsTo g x0) fun (r13 : Int32) =>
 some r13
def m_X7_gap_L69 (k69 : Int32 → Option Int32) (g : MG) (x0 : Int32) (x1 : Int32) (c4 : Int32) (v5 : Int32) : Option Int32 :=
  if (1000 : Int32) ≤ (v5 + (1 : Int32)) then
 if x1 = 0 then
 some c4
 else
 some v5
 else
 bnd (m_X7_owner g (v5 + (1 : Int32))) fun (r84 : Int32) =>
 if r84 = (-1005 : Int32) then
 k69 (v5 + (1 : Int32))
 else
 if x1 = 0 then
 some c4
 else
 some v5
def b_X7_gap_L69 (g : MG) (x0 : Int32) (x1 : Int32) (c4 : Int32) : (Int32 → Option Int32) → Int32 → Option Int32 := fun k x => m_X7_gap_L69 k g x0 x1 c4 x
def m_X7_gap_L69_1 (k69 : Int32 → Option Int32) (g : MG) (x0 : Int32) (x1 : Int32) (c4 : Int32) (v5 : Int32) : Option Int32 :=
  if (1000 : Int32) ≤ (v5 + (1 : Int32)) then
 if x1 = 0 then
 some c4
 else
 some v5
 else
 bnd (m_X7_owner g (v5 + (1 : Int32))) fun (r84 : Int32) =>
 if r84 = (-1005 : Int32) then
 k69 (v5 + (1 : Int32))
 else
 if x1 = 0 then
 some c4
 else
 some v5
def b_X7_gap_L69_1 (g : MG) (x0 : Int32) (x1 : Int32) (c4 : Int32) : (Int32 → Option Int32) → Int32 → Option Int32 := fun k x => m_X7_gap_L69_1 k g x0 x1 c4 x
def m_X7_gap_L22 (k22 : (Int32 × Int32) → Option Int32) (g : MG) (x0 : Int32) (x1 : Int32) (v3 : Int32) (v4 : Int32) : Option Int32 :=
  if (1000 : Int32) ≤ v4 then
 some (-1005 : Int32)
 else
 bnd (m_X7_owner g v4) fun (r33 : Int32) =>
 if r33 = (-1005 : Int32) then
 if v4 = 0 then
 if v3 = 0 then
 lpo (b_X7_gap_L69 g x0 x1 v4) fuelN v4
 else
 k22 ((v3 + (-1 : Int32)), (v4 + (1 : Int32)))
 else
 bnd (m_X7_owner g (v4 - (1 : Int32))) fun (r52 : Int32) =>
 if r52 = (-1005 : Int32) then
 k22 (v3, (v4 + (1 : Int32)))
 else
 if v3 = 0 then
 lpo (b_X7_gap_L69_1 g x0 x1 v4) fuelN v4
 else
 k22 ((v3 + (-1 : Int32)), (v4 + (1 : Int32)))
 else
 k22 (v3, (v4 + (1 : Int32)))
def b_X7_gap_L22 (g : MG) (x0 : Int32) (x1 : Int32) : ((Int32 × Int32) → Option Int32) → (Int32 × Int32) → Option Int32 := fun k x => m_X7_gap_L22 k g x0 x1 x.1 x.2
def m_X7_gap (g : MG) (x0 : Int32) (x1 : Int32) : Option Int32 :=
  if x0 < 0 then
 some (-1002 : Int32)
 else
 bnd (m_X7_in g x1 (0 : Int32) (1 : Int32)) fun (r7 : Int32) =>
 if r7 = 0 then
 some (-1002 : Int32)
 else
 lpo (b_X7_gap_L22 g x0 x1) fuelN (x0, (0 : Int32))
def m_X7_gaps_L4 (k4 : (Int32 × Int32) → Option Int32) (g : MG) (v1 : Int32) (v2 : Int32) : Option Int32 :=
  if (1000 : Int32) ≤ v2 then
 some v1
 else
 bnd (m_X7_owner g v2) fun (r14 : Int32) =>
 if r14 = (-1005 : Int32) then
 if v2 = 0 then
 k4 ((v1 + (1 : Int32)), (v2 + (1 : Int32)))
 else
 bnd (m_X7_owner g (v2 - (1 : Int32))) fun (r31 : Int32) =>
 if r31 = (-1005 : Int32) then
 k4 ((v1 + (0 : Int32)), (v2 + (1 : Int32)))
 else
 k4 ((v1 + (1 : Int32)), (v2 + (1 : Int32)))
 else
 k4 ((v1 + (0 : Int32)), (v2 + (1 : Int32)))
def b_X7_gaps_L4 (g : MG) : ((Int32 × Int32) → Option Int32) → (Int32 × Int32) → Option Int32 := fun k x => m_X7_gaps_L4 k g x.1 x.2
def m_X7_gaps (g : MG)  : Option Int32 :=
  lpo (b_X7_gaps_L4 g) fuelN ((0 : Int32), (0 : Int32))
def m_X7_stray_L12 (k12 : (Int32 × Int32) → Option Int32) (g : MG) (x0 : Int32) (v2 : Int32) (v3 : Int32) : Option Int32 :=
  if vin (0 : Int32) 1385 then
 if (g.1 1 (0 : Int32).toNatClampNeg) ≤ v3 then
 some (-1005 : Int32)
 else
 bnd (m_X7_isStray g v3) fun (r24 : Int32) =>
 if r24 = 0 then
 k12 (v2, (v3 + (1 : Int32)))
 else
 if v2 = 0 then
 some v3
 else
 k12 ((v2 + (-1 : Int32)), (v3 + (1 : Int32)))
 else none
def b_X7_stray_L12 (g : MG) (x0 : Int32) : ((Int32 × Int32) → Option Int32) → (Int32 × Int32) → Option Int32 := fun k x => m_X7_stray_L12 k g x0 x.1 x.2
def m_X7_stray (g : MG) (x0 : Int32) : Option Int32 :=
  if 0 ≤ x0 then
 lpo (b_X7_stray_L12 g x0) fuelN (x0, (0 : Int32))
 else
 some (-1002 : Int32)
def m_X7_count_L4 (k4 : (Int32 × Int32) → Option Int32) (g : MG) (x0 : Int32) (v2 : Int32) (v3 : Int32) : Option Int32 :=
  if vin (0 : Int32) 1385 then
 if (g.1 1 (0 : Int32).toNatClampNeg) ≤ v3 then
 if x0 = (0 : Int32) then
 bnd (m_X7_slices g) fun (r105 : Int32) =>
 some r105
 else if x0 = (1 : Int32) then
 if vin (1 : Int32) 1385 then
 some (g.1 1 (1 : Int32).toNatClampNeg)
 else none
 else if x0 = (2 : Int32) then
 some v2
 else if x0 = (3 : Int32) then
 bnd (m_X7_rowsIn g (61 : Int32)) fun (r121 : Int32) =>
 some r121
 else if x0 = (4 : Int32) then
 if vin (0 : Int32) 1385 then
 some (g.1 1 (0 : Int32).toNatClampNeg)
 else none
 else if x0 = (5 : Int32) then
 bnd (m_X7_strays g) fun (r133 : Int32) =>
 some r133
 else if x0 = (6 : Int32) then
 if vin (2 : Int32) 1385 then
 some (g.1 1 (2 : Int32).toNatClampNeg)
 else none
 else if x0 = (7 : Int32) then
 bnd (m_X7_gaps g) fun (r145 : Int32) =>
 some r145
 else if x0 = (8 : Int32) then
 bnd (m_X7_freeKeys g) fun (r150 : Int32) =>
 some r150
 else if x0 = (9 : Int32) then
 if vin (((3 : Int32) + x0) - (9 : Int32)) 1385 then
 some (g.1 1 (((3 : Int32) + x0) - (9 : Int32)).toNatClampNeg)
 else none
 else if x0 = (10 : Int32) then
 if vin (((3 : Int32) + x0) - (9 : Int32)) 1385 then
 some (g.1 1 (((3 : Int32) + x0) - (9 : Int32)).toNatClampNeg)
 else none
 else if x0 = (11 : Int32) then
 some (g.1 0 15)
 else if x0 = (12 : Int32) then
 some (g.1 0 16)
 else 
 some (-1002 : Int32)
 else
 bnd (m_X7_isInTable g v3) fun (r17 : Int32) =>
 if r17 = 0 then
 k4 ((v2 + (0 : Int32)), (v3 + (1 : Int32)))
 else
 k4 ((v2 + (1 : Int32)), (v3 + (1 : Int32)))
 else none
def b_X7_count_L4 (g : MG) (x0 : Int32) : ((Int32 × Int32) → Option Int32) → (Int32 × Int32) → Option Int32 := fun k x => m_X7_count_L4 k g x0 x.1 x.2
def m_X7_count (g : MG) (x0 : Int32) : Option Int32 :=
  lpo (b_X7_count_L4 g x0) fuelN ((0 : Int32), (0 : Int32))
def m_X7_unfit (g : MG) (x0 : Int32) : Option Int32 :=
  bnd (m_X7_isSlice g x0) fun (r2 : Int32) =>
 if r2 = 0 then
 some (-1001 : Int32)
 else
 bnd (m_X7_rowsIn g (61 : Int32)) fun (r11 : Int32) =>
 if vin ((1265 : Int32) + x0) 1385 then
 if vin ((1325 : Int32) + x0) 1385 then
 bnd (m_X7_rowsBetween g (61 : Int32) (g.1 1 ((1265 : Int32) + x0).toNatClampNeg) (g.1 1 ((1325 : Int32) + x0).toNatClampNeg)) fun (r37 : Int32) =>
 some (r11 - r37)
 else none
 else none
def m_X7_bestSplit_L39 (k39 : (Int32 × Int32 × Int32) → Option Int32) (g : MG) (x0 : Int32) (c4 : Int32) (v2 : Int32) (v3 : Int32) (v5 : Int32) : Option Int32 :=
  if vin ((1325 : Int32) + x0) 1385 then
 if (g.1 1 ((1325 : Int32) + x0).toNatClampNeg) ≤ v5 then
 some v2
 else
 bnd (m_X7_rowsBetween g x0 (0 : Int32) v5) fun (r62 : Int32) =>
 bnd (m_X7_abs g (c4 - ((2 : Int32) * r62))) fun (r67 : Int32) =>
 if v2 = (-1005 : Int32) then
 k39 (v5, r67, (v5 + (1 : Int32)))
 else
 if v3 ≤ r67 then
 k39 (v2, v3, (v5 + (1 : Int32)))
 else
 k39 (v5, r67, (v5 + (1 : Int32)))
 else none
def b_X7_bestSplit_L39 (g : MG) (x0 : Int32) (c4 : Int32) : ((Int32 × Int32 × Int32) → Option Int32) → (Int32 × Int32 × Int32) → Option Int32 := fun k x => m_X7_bestSplit_L39 k g x0 c4 x.1 x.2.1 x.2.2
def m_X7_bestSplit (g : MG) (x0 : Int32) : Option Int32 :=
  bnd (m_X7_isSlice g x0) fun (r2 : Int32) =>
 if r2 = 0 then
 some (-1001 : Int32)
 else
 bnd (m_X7_rowsIn g x0) fun (r20 : Int32) =>
 if vin ((1265 : Int32) + x0) 1385 then
 lpo (b_X7_bestSplit_L39 g x0 r20) fuelN ((-1005 : Int32), (0 : Int32), ((g.1 1 ((1265 : Int32) + x0).toNatClampNeg) + (1 : Int32)))
 else none
def m_X7_heaviest_L6 (k6 : (Int32 × Int32) → Option Int32) (g : MG) (v1 : Int32) (v2 : Int32) : Option Int32 :=
  if vin (1 : Int32) 1385 then
 if (g.1 1 (1 : Int32).toNatClampNeg) ≤ v2 then
 some v1
 else
 bnd (m_X7_isSlice g v2) fun (r18 : Int32) =>
 if r18 = 0 then
 k6 (v1, (v2 + (1 : Int32)))
 else
 if v1 = (-1005 : Int32) then
 k6 (v2, (v2 + (1 : Int32)))
 else
 bnd (m_X7_rowsIn g v2) fun (r33 : Int32) =>
 bnd (m_X7_rowsIn g v1) fun (r38 : Int32) =>
 if r33 ≤ r38 then
 k6 (v1, (v2 + (1 : Int32)))
 else
 k6 (v2, (v2 + (1 : Int32)))
 else none
def b_X7_heaviest_L6 (g : MG) : ((Int32 × Int32) → Option Int32) → (Int32 × Int32) → Option Int32 := fun k x => m_X7_heaviest_L6 k g x.1 x.2
def m_X7_heaviest (g : MG)  : Option Int32 :=
  lpo (b_X7_heaviest_L6 g) fuelN ((-1005 : Int32), (0 : Int32))

def m_X7_spared_L24 (k24 : (Int32 × Int32 × Int32) → Option ((Int32 × Int32 × Int32) × MG)) (g : MG) (v1 : Int32) (v2 : Int32) (v3 : Int32) : Option ((Int32 × Int32 × Int32) × MG) :=
  if vin (0 : Int32) 1385 then
 if (g.1 1 (0 : Int32).toNatClampNeg) ≤ v3 then
 if v1 = 0 then
 some ((1, 0, 0), g)
 else
 some ((2, v2, v1), g)
 else
 bnd (m_X7_isInTable g v3) fun (r36 : Int32) =>
 if r36 = 0 then
 k24 (v1, v2, (v3 + (1 : Int32)))
 else
 if vin ((805 : Int32) + v3) 1385 then
 if vin (g.1 1 ((805 : Int32) + v3).toNatClampNeg) 61 then
 k24 ((v1 + (1 : Int32)), (v2 + (g.1 11 (g.1 1 ((805 : Int32) + v3).toNatClampNeg).toNatClampNeg)), (v3 + (1 : Int32)))
 else none
 else none
 else none
def b_X7_spared_L24 (g : MG) : ((Int32 × Int32 × Int32) → Option ((Int32 × Int32 × Int32) × MG)) → (Int32 × Int32 × Int32) → Option ((Int32 × Int32 × Int32) × MG) := fun k x => m_X7_spared_L24 k g x.1 x.2.1 x.2.2
def m_X7_spared (g : MG)  : Option ((Int32 × Int32 × Int32) × MG) :=
  bnd2 (m_X7_read g) fun (r1 : Int32) (g1 : MG) =>
 if r1 = (-1005 : Int32) then
 bnd (m_X7_look g1) fun (g15 : MG) =>
 lpo (b_X7_spared_L24 g15) fuelN ((0 : Int32), (0 : Int32), (0 : Int32))
 else
 some ((0, 0, 0), g1)
def g_m0 : MG := (fun k => if k = 1 then upd (fun _ => 0) 2 1 else (fun _ => 0), fun _ => 0)
