/-! the methods as programs over the memory, by program out of the bytecode: none: an index outside its row, or no end within the rounds -/
def m_X0_at (g : MG) (k1 : Nat) (n : Nat) (x0 : Int32) : Option Int32 :=
  if x0 < 0 then
 some (0 : Int32)
 else
 if (nI n) ≤ x0 then
 some (0 : Int32)
 else
 if vin x0 n then
 some (g.1 k1 x0.toNatClampNeg)
 else none
def m_X0_write (g : MG) (k1 : Nat) (n : Nat) (x0 : Int32) (x1 : Int32) : Option MG :=
  if x0 < 0 then
 some g
 else
 if (nI n) ≤ x0 then
 some g
 else
 if vin x0 n then
 some (g_w g k1 x0.toNatClampNeg x1)
 else none
def m_X0_clear_L2 (k2 : (Int32 × MG) → Option MG) (k1 : Nat) (n : Nat) (v1 : Int32) (g : MG) : Option MG :=
  if (nI n) ≤ v1 then
 some g
 else
 if vin v1 n then
 k2 ((v1 + (1 : Int32)), (g_w g k1 v1.toNatClampNeg (0 : Int32)))
 else none
def b_X0_clear_L2 (k1 : Nat) (n : Nat) : ((Int32 × MG) → Option MG) → (Int32 × MG) → Option MG := fun k x => m_X0_clear_L2 k k1 n x.1 x.2
def m_X0_clear (g : MG) (k1 : Nat) (n : Nat) : Option MG :=
  lpo (b_X0_clear_L2 k1 n) fuelN ((0 : Int32), g)
def m_X0_copyFrom (g : MG) (k1 : Nat) (n : Nat) (k2 : Nat) (n2 : Nat) : Option MG :=
  if ¬ (if (nI n2) < (nI n) then (nI n2) else (nI n)) < 0 ∧ (if (nI n2) < (nI n) then (nI n2) else (nI n)).toNatClampNeg ≤ n2 ∧ (if (nI n2) < (nI n) then (nI n2) else (nI n)).toNatClampNeg ≤ n then
 some (g_c g k1 (va_cpy (g.1 k2) (g.1 k1) 0 0 (if (nI n2) < (nI n) then (nI n2) else (nI n)).toNatClampNeg))
 else none
def m_X1_putOldestLast_L2 (k2 : (Int32 × MG) → Option MG)  (v1 : Int32) (g : MG) : Option MG :=
  if (nI 4) ≤ v1 then
 some g
 else
 if vin (v1 - (1 : Int32)) 4 ∧ (g.2 (v1 - (1 : Int32)).toNatClampNeg) < 6 then
 if vin v1 4 ∧ (g.2 v1.toNatClampNeg) < 6 then
 if vin (v1 - (1 : Int32)) 4 then
 if vin v1 4 then
 k2 ((v1 + (1 : Int32)), (g_p (g_p g (v1 - (1 : Int32)).toNatClampNeg (g.2 v1.toNatClampNeg)) v1.toNatClampNeg (g.2 (v1 - (1 : Int32)).toNatClampNeg)))
 else none
 else none
 else none
 else none
def b_X1_putOldestLast_L2  : ((Int32 × MG) → Option MG) → (Int32 × MG) → Option MG := fun k x => m_X1_putOldestLast_L2 k  x.1 x.2
def m_X1_putOldestLast (g : MG)  : Option MG :=
  lpo (b_X1_putOldestLast_L2) fuelN ((1 : Int32), g)
def m_X1_stateAt (g : MG) (x0 : Int32) : Option (Option Nat) :=
  if x0 < 0 then
 some (none : Option Nat)
 else
 if (nI 4) ≤ x0 then
 some (none : Option Nat)
 else
 if vin x0 4 ∧ (g.2 x0.toNatClampNeg) < 6 then
 some (some (g.2 x0.toNatClampNeg))
 else none
def m_X3_copyFrom (g : MG) (t : Nat) (t2 : Nat) : Option MG :=
  bnd (m_X0_copyFrom g (24 + 15 * t) 400 (24 + 15 * t2) 400) fun (g8 : MG) =>
 bnd (m_X0_copyFrom g8 (26 + 15 * t) 400 (26 + 15 * t2) 400) fun (g19 : MG) =>
 bnd (m_X0_copyFrom g19 (28 + 15 * t) 400 (28 + 15 * t2) 400) fun (g30 : MG) =>
 some (g_w g30 (21 + 15 * t) 3 (g30.1 (21 + 15 * t2) 3))
def m_X4_copyFrom (g : MG) (t : Nat) (t2 : Nat) : Option MG :=
  bnd (m_X0_copyFrom g (30 + 15 * t) 12 (30 + 15 * t2) 12) fun (g8 : MG) =>
 bnd (m_X0_copyFrom g8 (32 + 15 * t) 12 (32 + 15 * t2) 12) fun (g19 : MG) =>
 bnd (m_X0_copyFrom g19 (34 + 15 * t) 12 (34 + 15 * t2) 12) fun (g30 : MG) =>
 some (g_w (g_w g30 (22 + 15 * t) 3 (g30.1 (22 + 15 * t2) 3)) (22 + 15 * t) 4 ((g_w g30 (22 + 15 * t) 3 (g30.1 (22 + 15 * t2) 3)).1 (22 + 15 * t2) 4))
def m_X5_copyFrom (g : MG) (t : Nat) (t2 : Nat) : Option MG :=
  bnd (m_X3_copyFrom g t t2) fun (g8 : MG) =>
 bnd (m_X4_copyFrom g8 t t2) fun (g19 : MG) =>
 if bz (g19.1 (20 + 15 * t2) 2) = true then
 some (g_w (g_w (g_w g19 (20 + 15 * t) 2 (g19.1 (20 + 15 * t2) 2)) (20 + 15 * t) 3 ((g_w g19 (20 + 15 * t) 2 (g19.1 (20 + 15 * t2) 2)).1 (20 + 15 * t2) 3)) (20 + 15 * t) 4 ((g_w (g_w g19 (20 + 15 * t) 2 (g19.1 (20 + 15 * t2) 2)) (20 + 15 * t) 3 ((g_w g19 (20 + 15 * t) 2 (g19.1 (20 + 15 * t2) 2)).1 (20 + 15 * t2) 3)).1 (20 + 15 * t2) 4))
 else none
def m_X1_record (g : MG) (t2 : Nat) : Option MG :=
  if (g.1 1 3) < (nI 4) then
 bnd (m_X1_stateAt g (g.1 1 3)) fun (r32 : Option Nat) =>
 optc r32 (some g) (fun (t32 : Nat) => if t32 < 6 then
 bnd (m_X5_copyFrom g t32 t2) fun (g42 : MG) =>
 some (g_w g42 1 3 ((g42.1 1 3) + (1 : Int32)))
 else none)
 else
 bnd (m_X1_putOldestLast g) fun (g13 : MG) =>
 bnd (m_X1_stateAt (g_w g13 1 3 ((nI 4) - (1 : Int32))) ((g_w g13 1 3 ((nI 4) - (1 : Int32))).1 1 3)) fun (r32 : Option Nat) =>
 optc r32 (some (g_w g13 1 3 ((nI 4) - (1 : Int32)))) (fun (t32 : Nat) => if t32 < 6 then
 bnd (m_X5_copyFrom (g_w g13 1 3 ((nI 4) - (1 : Int32))) t32 t2) fun (g42 : MG) =>
 some (g_w g42 1 3 ((g42.1 1 3) + (1 : Int32)))
 else none)
def m_X1_giveBack (g : MG) (t2 : Nat) : Option MG :=
  bnd (m_X1_stateAt g ((g.1 1 3) - (1 : Int32))) fun (r7 : Option Nat) =>
 optc r7 (some g) (fun (t7 : Nat) => if t7 < 6 then
 bnd (m_X5_copyFrom g t2 t7) fun (g17 : MG) =>
 some (g_w g17 1 3 ((g17.1 1 3) - (1 : Int32)))
 else none)
def m_X2_forget (g : MG)  : Option MG :=
  some (g_w (g_w (g_w (g_w (g_w (g_w g 3 0 (0 : Int32)) 3 1 (-1005 : Int32)) 3 2 (0 : Int32)) 3 3 (0 : Int32)) 3 4 (0 : Int32)) 3 7 (0 : Int32))
def m_X2_addToken (g : MG) (x0 : Int32) (x1 : Int32) : Option MG :=
  bnd (m_X0_write g 9 60 (g.1 3 7) x0) fun (g9 : MG) =>
 some (g_w (g_w g9 3 7 ((g9.1 3 7) + (1 : Int32))) 3 2 x1)
def m_X2_startsTest (g : MG) (x0 : Int32) : Option (Int32 × MG) :=
  if x0 = (33 : Int32) then
 if (g.1 3 4) < (5 : Int32) then
 bnd (m_X2_addToken (g_w g 3 4 ((g.1 3 4) + (1 : Int32))) x0 (0 : Int32)) fun (g80 : MG) =>
 some ((1 : Int32), g80)
 else
 some ((0 : Int32), g)
 else if x0 = (40 : Int32) then
 if (g.1 3 3) < (5 : Int32) then
 bnd (m_X2_addToken (g_w (g_w g 3 3 ((g.1 3 3) + (1 : Int32))) 3 4 (0 : Int32)) x0 (0 : Int32)) fun (g113 : MG) =>
 some ((1 : Int32), g113)
 else
 some ((0 : Int32), g)
 else if x0 = (107 : Int32) then
 bnd (m_X2_addToken (g_w g 3 4 (0 : Int32)) x0 (1 : Int32)) fun (g52 : MG) =>
 some ((1 : Int32), g52)
 else if x0 = (118 : Int32) then
 bnd (m_X2_addToken (g_w g 3 4 (0 : Int32)) x0 (1 : Int32)) fun (g52 : MG) =>
 some ((1 : Int32), g52)
 else 
 some ((0 : Int32), g)
def m_X2_isSign (g : MG) (x0 : Int32) : Option (Int32 × MG) :=
  if x0 = (60 : Int32) then
 bnd (m_X0_write g 11 60 ((g.1 3 7) - (1 : Int32)) x0) fun (g37 : MG) =>
 some ((1 : Int32), (g_w (g_w g37 3 5 (0 : Int32)) 3 2 (2 : Int32)))
 else
 if x0 = (62 : Int32) then
 bnd (m_X0_write g 11 60 ((g.1 3 7) - (1 : Int32)) x0) fun (g37 : MG) =>
 some ((1 : Int32), (g_w (g_w g37 3 5 (0 : Int32)) 3 2 (2 : Int32)))
 else
 if x0 = (61 : Int32) then
 bnd (m_X0_write g 11 60 ((g.1 3 7) - (1 : Int32)) x0) fun (g37 : MG) =>
 some ((1 : Int32), (g_w (g_w g37 3 5 (0 : Int32)) 3 2 (2 : Int32)))
 else
 if x0 = (35 : Int32) then
 bnd (m_X0_write g 11 60 ((g.1 3 7) - (1 : Int32)) x0) fun (g37 : MG) =>
 some ((1 : Int32), (g_w (g_w g37 3 5 (0 : Int32)) 3 2 (2 : Int32)))
 else
 some ((0 : Int32), g)
def m_X2_isMinus (g : MG) (x0 : Int32) : Option (Int32 × MG) :=
  if x0 = (45 : Int32) then
 some ((1 : Int32), (g_w (g_w g 3 5 (1 : Int32)) 3 2 (3 : Int32)))
 else
 some ((0 : Int32), g)
def m_X2_setDigits (g : MG) (x0 : Int32) : Option MG :=
  if ((g_w g 3 6 x0).1 3 5) = 0 then
 bnd (m_X0_write (g_w g 3 6 x0) 13 60 (((g_w g 3 6 x0).1 3 7) - (1 : Int32)) x0) fun (g28 : MG) =>
 some g28
 else
 bnd (m_X0_write (g_w g 3 6 x0) 13 60 (((g_w g 3 6 x0).1 3 7) - (1 : Int32)) (-x0)) fun (g28 : MG) =>
 some g28
def m_X2_isFirstDigit (g : MG) (x0 : Int32) : Option (Int32 × MG) :=
  if x0 < (48 : Int32) then
 some ((0 : Int32), g)
 else
 if x0 ≤ (57 : Int32) then
 bnd (m_X2_setDigits g (x0 - (48 : Int32))) fun (g19 : MG) =>
 some ((1 : Int32), (g_w g19 3 2 (4 : Int32)))
 else
 some ((0 : Int32), g)
def m_X2_isNextDigit (g : MG) (x0 : Int32) : Option (Int32 × MG) :=
  if x0 < (48 : Int32) then
 some ((0 : Int32), g)
 else
 if (57 : Int32) < x0 then
 some ((0 : Int32), g)
 else
 if (g.1 3 6) = 0 then
 some ((0 : Int32), g)
 else
 if (((g.1 3 6) * (10 : Int32)) + (x0 - (48 : Int32))) ≤ (999 : Int32) then
 bnd (m_X2_setDigits g (((g.1 3 6) * (10 : Int32)) + (x0 - (48 : Int32)))) fun (g45 : MG) =>
 some ((1 : Int32), g45)
 else
 some ((0 : Int32), g)
def m_X2_followsTest (g : MG) (x0 : Int32) : Option (Int32 × MG) :=
  if x0 = (38 : Int32) then
 bnd (m_X2_addToken g x0 (0 : Int32)) fun (g39 : MG) =>
 some ((1 : Int32), g39)
 else if x0 = (41 : Int32) then
 if (g.1 3 3) = 0 then
 some ((0 : Int32), g)
 else
 bnd (m_X2_addToken (g_w g 3 3 ((g.1 3 3) - (1 : Int32))) x0 (5 : Int32)) fun (g66 : MG) =>
 some ((1 : Int32), g66)
 else if x0 = (124 : Int32) then
 bnd (m_X2_addToken g x0 (0 : Int32)) fun (g39 : MG) =>
 some ((1 : Int32), g39)
 else 
 some ((0 : Int32), g)
def m_X2_isAllowed (g : MG) (x0 : Int32) : Option (Int32 × MG) :=
  if (g.1 3 2) = (0 : Int32) then
 bnd2 (m_X2_startsTest g x0) fun (r42 : Int32) (g42 : MG) =>
 if bz r42 = true then some (r42, g42) else none
 else if (g.1 3 2) = (1 : Int32) then
 bnd2 (m_X2_isSign g x0) fun (r48 : Int32) (g48 : MG) =>
 if bz r48 = true then some (r48, g48) else none
 else if (g.1 3 2) = (2 : Int32) then
 bnd2 (m_X2_isMinus g x0) fun (r54 : Int32) (g54 : MG) =>
 if r54 = 0 then
 bnd2 (m_X2_isFirstDigit g54 x0) fun (r62 : Int32) (g62 : MG) =>
 if r62 = 0 then
 some ((0 : Int32), g62)
 else
 some ((1 : Int32), g62)
 else
 some ((1 : Int32), g54)
 else if (g.1 3 2) = (3 : Int32) then
 bnd2 (m_X2_isFirstDigit g x0) fun (r76 : Int32) (g76 : MG) =>
 if bz r76 = true then some (r76, g76) else none
 else if (g.1 3 2) = (4 : Int32) then
 bnd2 (m_X2_isNextDigit g x0) fun (r82 : Int32) (g82 : MG) =>
 if r82 = 0 then
 bnd2 (m_X2_followsTest g82 x0) fun (r90 : Int32) (g90 : MG) =>
 if r90 = 0 then
 some ((0 : Int32), g90)
 else
 some ((1 : Int32), g90)
 else
 some ((1 : Int32), g82)
 else 
 bnd2 (m_X2_followsTest g x0) fun (r104 : Int32) (g104 : MG) =>
 if bz r104 = true then some (r104, g104) else none
def m_X2_read (g : MG) (x0 : Int32) : Option MG :=
  if (g.1 3 1) = (-1005 : Int32) then
 bnd2 (m_X2_isAllowed g x0) fun (r12 : Int32) (g12 : MG) =>
 if r12 = 0 then
 some (g_w (g_w g12 3 1 (g12.1 3 0)) 3 0 (((g_w g12 3 1 (g12.1 3 0)).1 3 0) + (1 : Int32)))
 else
 some (g_w g12 3 0 ((g12.1 3 0) + (1 : Int32)))
 else
 some (g_w g 3 0 ((g.1 3 0) + (1 : Int32)))
def m_X2_firstFault (g : MG)  : Option Int32 :=
  if (g.1 3 1) = (-1005 : Int32) then
 if (g.1 3 2) = (4 : Int32) then
 if (1 : Int32) = 0 then
 some (g.1 3 0)
 else
 if (g.1 3 3) = 0 then
 some (-1005 : Int32)
 else
 some (g.1 3 0)
 else
 if (g.1 3 2) = (5 : Int32) then
 if (1 : Int32) = 0 then
 some (g.1 3 0)
 else
 if (g.1 3 3) = 0 then
 some (-1005 : Int32)
 else
 some (g.1 3 0)
 else
 if (0 : Int32) = 0 then
 some (g.1 3 0)
 else
 if (g.1 3 3) = 0 then
 some (-1005 : Int32)
 else
 some (g.1 3 0)
 else
 some (g.1 3 1)
def m_X2_isFaulty (g : MG)  : Option Int32 :=
  bnd (m_X2_firstFault g) fun (r1 : Int32) =>
 if r1 = (-1005 : Int32) then
 some (0 : Int32)
 else
 some (1 : Int32)
def m_X2_startDepth (g : MG) (x0 : Int32) : Option MG :=
  bnd (m_X0_write g 15 6 x0 (0 : Int32)) fun (g6 : MG) =>
 bnd (m_X0_write g6 17 6 x0 (2 : Int32)) fun (g15 : MG) =>
 bnd (m_X0_write g15 19 6 x0 (0 : Int32)) fun (g24 : MG) =>
 some g24
def m_X2_truthOf (g : MG) (x0 : Int32) (x1 : Int32) : Option Int32 :=
  if x1 = 0 then
 if x0 = 0 then
 some (0 : Int32)
 else
 some (1 : Int32)
 else
 some (2 : Int32)
def m_X2_testTruth_J121 (x0 : Int32) (x1 : Int32) (x2 : Int32) (g : MG) (v4 : Int32) (w0 : Int32) : Option Int32 :=
  if x1 ≤ v4 then
 bnd (m_X2_truthOf g w0 (0 : Int32)) fun (r132 : Int32) =>
 some r132
 else
 bnd (m_X2_truthOf g w0 (1 : Int32)) fun (r132 : Int32) =>
 some r132
def m_X2_testTruth_J95 (x0 : Int32) (x1 : Int32) (x2 : Int32) (g : MG) (v4 : Int32) (w0 : Int32) : Option Int32 :=
  if v4 ≤ x2 then
 bnd (m_X2_truthOf g w0 (0 : Int32)) fun (r106 : Int32) =>
 some r106
 else
 bnd (m_X2_truthOf g w0 (1 : Int32)) fun (r106 : Int32) =>
 some r106
def m_X2_testTruth_J46 (x0 : Int32) (x1 : Int32) (x2 : Int32) (g : MG) (v4 : Int32) (v5 : Int32) (w0 : Int32) : Option Int32 :=
  bnd (m_X0_at g 11 60 x0) fun (r53 : Int32) =>
 if r53 = (60 : Int32) then
 if v4 ≤ x1 then
 m_X2_testTruth_J95 x0 x1 x2 g v4 (0 : Int32)
 else
 m_X2_testTruth_J95 x0 x1 x2 g v4 (1 : Int32)
 else if r53 = (61 : Int32) then
 if v5 = 0 then
 bnd (m_X2_truthOf g (1 : Int32) w0) fun (r148 : Int32) =>
 some r148
 else
 bnd (m_X2_truthOf g (0 : Int32) w0) fun (r148 : Int32) =>
 some r148
 else if r53 = (62 : Int32) then
 if x2 ≤ v4 then
 m_X2_testTruth_J121 x0 x1 x2 g v4 (0 : Int32)
 else
 m_X2_testTruth_J121 x0 x1 x2 g v4 (1 : Int32)
 else 
 if w0 = 0 then
 bnd (m_X2_truthOf g (1 : Int32) v5) fun (r164 : Int32) =>
 some r164
 else
 bnd (m_X2_truthOf g (0 : Int32) v5) fun (r164 : Int32) =>
 some r164
def m_X2_testTruth_J27 (x0 : Int32) (x1 : Int32) (x2 : Int32) (g : MG) (v4 : Int32) (w0 : Int32) : Option Int32 :=
  if v4 = x1 then
 if v4 = x2 then
 m_X2_testTruth_J46 x0 x1 x2 g v4 w0 (1 : Int32)
 else
 m_X2_testTruth_J46 x0 x1 x2 g v4 w0 (0 : Int32)
 else
 m_X2_testTruth_J46 x0 x1 x2 g v4 w0 (0 : Int32)
def m_X2_testTruth (g : MG) (x0 : Int32) (x1 : Int32) (x2 : Int32) : Option Int32 :=
  bnd (m_X0_at g 13 60 x0) fun (r5 : Int32) =>
 if r5 < x1 then
 m_X2_testTruth_J27 x0 x1 x2 g r5 (1 : Int32)
 else
 if r5 ≤ x2 then
 m_X2_testTruth_J27 x0 x1 x2 g r5 (0 : Int32)
 else
 m_X2_testTruth_J27 x0 x1 x2 g r5 (1 : Int32)
def m_X2_addTruth (g : MG) (x0 : Int32) (x1 : Int32) : Option MG :=
  bnd (m_X0_at g 19 6 x0) fun (r5 : Int32) =>
 if r5 = (1 : Int32) then
 bnd (m_X0_at g 17 6 x0) fun (r30 : Int32) =>
 bnd (m_X0_write g 17 6 x0 (if ((2 : Int32) - x1) < r30 then ((2 : Int32) - x1) else r30)) fun (g37 : MG) =>
 bnd (m_X0_write g37 19 6 x0 (0 : Int32)) fun (g46 : MG) =>
 some g46
 else
 bnd (m_X0_at g 17 6 x0) fun (r30 : Int32) =>
 bnd (m_X0_write g 17 6 x0 (if x1 < r30 then x1 else r30)) fun (g37 : MG) =>
 bnd (m_X0_write g37 19 6 x0 (0 : Int32)) fun (g46 : MG) =>
 some g46
def m_X2_endPart (g : MG) (x0 : Int32) : Option MG :=
  bnd (m_X0_at g 15 6 x0) fun (r10 : Int32) =>
 bnd (m_X0_at g 17 6 x0) fun (r18 : Int32) =>
 bnd (m_X0_write g 15 6 x0 (if r10 < r18 then r18 else r10)) fun (g24 : MG) =>
 bnd (m_X0_write g24 17 6 x0 (2 : Int32)) fun (g33 : MG) =>
 some g33
def m_X2_truth_L12 (k12 : (Int32 × Int32 × MG) → Option (Int32 × MG)) (x0 : Int32) (x1 : Int32) (x2 : Int32) (x3 : Int32) (v5 : Int32) (v6 : Int32) (g : MG) : Option (Int32 × MG) :=
  if (g.1 3 7) ≤ v6 then
 bnd (m_X2_endPart g v5) fun (g214 : MG) =>
 bnd (m_X0_at g214 15 6 v5) fun (r223 : Int32) =>
 some (r223, g214)
 else
 bnd (m_X0_at g 9 60 v6) fun (r27 : Int32) =>
 if r27 = (33 : Int32) then
 bnd (m_X0_at g 19 6 v5) fun (r145 : Int32) =>
 bnd (m_X0_write g 19 6 v5 ((1 : Int32) - r145)) fun (g149 : MG) =>
 k12 (v5, (v6 + (1 : Int32)), g149)
 else if r27 = (40 : Int32) then
 bnd (m_X2_startDepth g (v5 + (1 : Int32))) fun (g170 : MG) =>
 k12 ((v5 + (1 : Int32)), (v6 + (1 : Int32)), g170)
 else if r27 = (41 : Int32) then
 bnd (m_X2_endPart g v5) fun (g179 : MG) =>
 bnd (m_X0_at g179 15 6 ((v5 + (-1 : Int32)) + (1 : Int32))) fun (r196 : Int32) =>
 bnd (m_X2_addTruth g179 (v5 + (-1 : Int32)) r196) fun (g199 : MG) =>
 k12 ((v5 + (-1 : Int32)), (v6 + (1 : Int32)), g199)
 else if r27 = (107 : Int32) then
 bnd (m_X2_testTruth g v6 x0 x1) fun (r96 : Int32) =>
 bnd (m_X2_addTruth g v5 r96) fun (g99 : MG) =>
 k12 (v5, (v6 + (1 : Int32)), g99)
 else if r27 = (118 : Int32) then
 if x2 = 0 then
 bnd (m_X2_addTruth g v5 (1 : Int32)) fun (g126 : MG) =>
 k12 (v5, (v6 + (1 : Int32)), g126)
 else
 bnd (m_X2_testTruth g v6 x3 x3) fun (r119 : Int32) =>
 bnd (m_X2_addTruth g v5 r119) fun (g126 : MG) =>
 k12 (v5, (v6 + (1 : Int32)), g126)
 else if r27 = (124 : Int32) then
 bnd (m_X2_endPart g v5) fun (g158 : MG) =>
 k12 (v5, (v6 + (1 : Int32)), g158)
 else 
 k12 (v5, (v6 + (1 : Int32)), g)
def b_X2_truth_L12 (x0 : Int32) (x1 : Int32) (x2 : Int32) (x3 : Int32) : ((Int32 × Int32 × MG) → Option (Int32 × MG)) → (Int32 × Int32 × MG) → Option (Int32 × MG) := fun k x => m_X2_truth_L12 k x0 x1 x2 x3 x.1 x.2.1 x.2.2
def m_X2_truth (g : MG) (x0 : Int32) (x1 : Int32) (x2 : Int32) (x3 : Int32) : Option (Int32 × MG) :=
  bnd (m_X2_startDepth g (0 : Int32)) fun (g6 : MG) =>
 lpo (b_X2_truth_L12 x0 x1 x2 x3) fuelN ((0 : Int32), (0 : Int32), g6)
def m_X2_keyMayHold (g : MG) (x0 : Int32) (x1 : Int32) (x2 : Int32) : Option (Int32 × MG) :=
  if x0 < x1 then
 some ((0 : Int32), g)
 else
 if x2 < x0 then
 some ((0 : Int32), g)
 else
 bnd2 (m_X2_truth g x0 x0 (0 : Int32) (0 : Int32)) fun (r15 : Int32) (g15 : MG) =>
 if r15 = 0 then
 some ((0 : Int32), g15)
 else
 some ((1 : Int32), g15)
def m_X2_someKeyMayHold_L14 (k14 : (Int32 × MG) → Option (Int32 × MG)) (x0 : Int32) (x1 : Int32) (v3 : Int32) (g : MG) : Option (Int32 × MG) :=
  if (g.1 3 7) ≤ v3 then
 some ((0 : Int32), g)
 else
 bnd (m_X0_at g 13 60 v3) fun (r27 : Int32) =>
 bnd (m_X0_at g 9 60 v3) fun (r37 : Int32) =>
 if r37 = (107 : Int32) then
 bnd2 (m_X2_keyMayHold g r27 x0 x1) fun (r50 : Int32) (g50 : MG) =>
 if r50 = 0 then
 bnd2 (m_X2_keyMayHold g50 (r27 + (1 : Int32)) x0 x1) fun (r63 : Int32) (g63 : MG) =>
 if r63 = 0 then
 k14 ((v3 + (1 : Int32)), g63)
 else
 some ((1 : Int32), g63)
 else
 some ((1 : Int32), g50)
 else
 k14 ((v3 + (1 : Int32)), g)
def b_X2_someKeyMayHold_L14 (x0 : Int32) (x1 : Int32) : ((Int32 × MG) → Option (Int32 × MG)) → (Int32 × MG) → Option (Int32 × MG) := fun k x => m_X2_someKeyMayHold_L14 k x0 x1 x.1 x.2
def m_X2_someKeyMayHold (g : MG) (x0 : Int32) (x1 : Int32) : Option (Int32 × MG) :=
  bnd2 (m_X2_keyMayHold g x0 x0 x1) fun (r4 : Int32) (g4 : MG) =>
 if r4 = 0 then
 lpo (b_X2_someKeyMayHold_L14 x0 x1) fuelN ((0 : Int32), g4)
 else
 some ((1 : Int32), g4)
def m_X3_placeOf (g : MG) (t : Nat) (x0 : Int32) : Option Int32 :=
  if x0 < 0 then
 some (-1 : Int32)
 else
 if (g.1 (21 + 15 * t) 3) ≤ x0 then
 some (-1 : Int32)
 else
 bnd (m_X0_at g (28 + 15 * t) 400 x0) fun (r17 : Int32) =>
 some r17
def m_X3_has (g : MG) (t : Nat) (x0 : Int32) : Option Int32 :=
  bnd (m_X3_placeOf g t x0) fun (r2 : Int32) =>
 if r2 = (-1 : Int32) then
 some (0 : Int32)
 else
 some (1 : Int32)
def m_X3_keyOf (g : MG) (t : Nat) (x0 : Int32) : Option Int32 :=
  bnd (m_X0_at g (24 + 15 * t) 400 x0) fun (r5 : Int32) =>
 some r5
def m_X3_valueOf (g : MG) (t : Nat) (x0 : Int32) : Option Int32 :=
  bnd (m_X0_at g (26 + 15 * t) 400 x0) fun (r5 : Int32) =>
 some r5
def m_X3_isInTable (g : MG) (t : Nat) (x0 : Int32) : Option Int32 :=
  bnd (m_X3_placeOf g t x0) fun (r2 : Int32) =>
 if r2 = (-1 : Int32) then
 some (0 : Int32)
 else
 if r2 = (61 : Int32) then
 some (0 : Int32)
 else
 some (1 : Int32)
def m_X3_append (g : MG) (t : Nat) (x0 : Int32) (x1 : Int32) (x2 : Int32) : Option (Int32 × MG) :=
  bnd (m_X0_write g (24 + 15 * t) 400 (g.1 (21 + 15 * t) 3) x0) fun (g13 : MG) =>
 bnd (m_X0_write g13 (26 + 15 * t) 400 (g.1 (21 + 15 * t) 3) x1) fun (g23 : MG) =>
 bnd (m_X0_write g23 (28 + 15 * t) 400 (g.1 (21 + 15 * t) 3) x2) fun (g33 : MG) =>
 some ((g.1 (21 + 15 * t) 3), (g_w g33 (21 + 15 * t) 3 ((g33.1 (21 + 15 * t) 3) + (1 : Int32))))
def m_X3_changeKey (g : MG) (t : Nat) (x0 : Int32) (x1 : Int32) : Option MG :=
  bnd (m_X0_write g (24 + 15 * t) 400 x0 x1) fun (g6 : MG) =>
 some g6
def m_X3_move (g : MG) (t : Nat) (x0 : Int32) (x1 : Int32) : Option MG :=
  bnd (m_X0_write g (28 + 15 * t) 400 x0 x1) fun (g6 : MG) =>
 some g6
def m_X3_liesWithKey (g : MG) (t : Nat) (x0 : Int32) (x1 : Int32) (x2 : Int32) (x3 : Int32) : Option Int32 :=
  bnd (m_X3_placeOf g t x0) fun (r2 : Int32) =>
 if r2 = x1 then
 bnd (m_X3_keyOf g t x0) fun (r11 : Int32) =>
 if r11 < x2 then
 some (0 : Int32)
 else
 bnd (m_X3_keyOf g t x0) fun (r20 : Int32) =>
 if x3 ≤ r20 then
 some (0 : Int32)
 else
 some (1 : Int32)
 else
 some (0 : Int32)
def m_X3_moveKeys_L3 (k3 : (Int32 × MG) → Option MG) (t : Nat) (x0 : Int32) (x1 : Int32) (x2 : Int32) (x3 : Int32) (v5 : Int32) (g : MG) : Option MG :=
  if (g.1 (21 + 15 * t) 3) ≤ v5 then
 some g
 else
 bnd (m_X3_liesWithKey g t v5 x0 x2 x3) fun (r19 : Int32) =>
 if r19 = 0 then
 k3 ((v5 + (1 : Int32)), g)
 else
 bnd (m_X3_move g t v5 x1) fun (g29 : MG) =>
 k3 ((v5 + (1 : Int32)), g29)
def b_X3_moveKeys_L3 (t : Nat) (x0 : Int32) (x1 : Int32) (x2 : Int32) (x3 : Int32) : ((Int32 × MG) → Option MG) → (Int32 × MG) → Option MG := fun k x => m_X3_moveKeys_L3 k t x0 x1 x2 x3 x.1 x.2
def m_X3_moveKeys (g : MG) (t : Nat) (x0 : Int32) (x1 : Int32) (x2 : Int32) (x3 : Int32) : Option MG :=
  lpo (b_X3_moveKeys_L3 t x0 x1 x2 x3) fuelN ((0 : Int32), g)
def m_X3_moveAll (g : MG) (t : Nat) (x0 : Int32) (x1 : Int32) : Option MG :=
  bnd (m_X3_moveKeys g t x0 x1 (0 : Int32) (1000 : Int32)) fun (g7 : MG) =>
 some g7
def m_X3_exchange_L2 (k2 : (Int32 × MG) → Option MG) (t : Nat) (x0 : Int32) (x1 : Int32) (v3 : Int32) (g : MG) : Option MG :=
  if (g.1 (21 + 15 * t) 3) ≤ v3 then
 some g
 else
 bnd (m_X3_placeOf g t v3) fun (r12 : Int32) =>
 if r12 = x0 then
 bnd (m_X3_move g t v3 x1) fun (g22 : MG) =>
 k2 ((v3 + (1 : Int32)), g22)
 else
 bnd (m_X3_placeOf g t v3) fun (r30 : Int32) =>
 if r30 = x1 then
 bnd (m_X3_move g t v3 x0) fun (g40 : MG) =>
 k2 ((v3 + (1 : Int32)), g40)
 else
 k2 ((v3 + (1 : Int32)), g)
def b_X3_exchange_L2 (t : Nat) (x0 : Int32) (x1 : Int32) : ((Int32 × MG) → Option MG) → (Int32 × MG) → Option MG := fun k x => m_X3_exchange_L2 k t x0 x1 x.1 x.2
def m_X3_exchange (g : MG) (t : Nat) (x0 : Int32) (x1 : Int32) : Option MG :=
  lpo (b_X3_exchange_L2 t x0 x1) fuelN ((0 : Int32), g)
def m_X3_amountInTable_L4 (k4 : (Int32 × Int32) → Option Int32) (g : MG) (t : Nat) (v1 : Int32) (v2 : Int32) : Option Int32 :=
  if (g.1 (21 + 15 * t) 3) ≤ v2 then
 some v1
 else
 bnd (m_X3_isInTable g t v2) fun (r14 : Int32) =>
 if r14 = 0 then
 k4 (v1, (v2 + (1 : Int32)))
 else
 k4 ((v1 + (1 : Int32)), (v2 + (1 : Int32)))
def b_X3_amountInTable_L4 (g : MG) (t : Nat) : ((Int32 × Int32) → Option Int32) → (Int32 × Int32) → Option Int32 := fun k x => m_X3_amountInTable_L4 k g t x.1 x.2
def m_X3_amountInTable (g : MG) (t : Nat) : Option Int32 :=
  lpo (b_X3_amountInTable_L4 g t) fuelN ((0 : Int32), (0 : Int32))
def m_X3_amountWithKeys_L6 (k6 : (Int32 × Int32) → Option Int32) (g : MG) (t : Nat) (x0 : Int32) (x1 : Int32) (x2 : Int32) (v4 : Int32) (v5 : Int32) : Option Int32 :=
  if (g.1 (21 + 15 * t) 3) ≤ v5 then
 some v4
 else
 bnd (m_X3_liesWithKey g t v5 x0 x1 x2) fun (r21 : Int32) =>
 if r21 = 0 then
 k6 (v4, (v5 + (1 : Int32)))
 else
 k6 ((v4 + (1 : Int32)), (v5 + (1 : Int32)))
def b_X3_amountWithKeys_L6 (g : MG) (t : Nat) (x0 : Int32) (x1 : Int32) (x2 : Int32) : ((Int32 × Int32) → Option Int32) → (Int32 × Int32) → Option Int32 := fun k x => m_X3_amountWithKeys_L6 k g t x0 x1 x2 x.1 x.2
def m_X3_amountWithKeys (g : MG) (t : Nat) (x0 : Int32) (x1 : Int32) (x2 : Int32) : Option Int32 :=
  lpo (b_X3_amountWithKeys_L6 g t x0 x1 x2) fuelN ((0 : Int32), (0 : Int32))
def m_X3_amountAt (g : MG) (t : Nat) (x0 : Int32) : Option Int32 :=
  bnd (m_X3_amountWithKeys g t x0 (0 : Int32) (1000 : Int32)) fun (r6 : Int32) =>
 some r6
def m_X3_sumAt_L4 (k4 : (Int32 × Int32) → Option Int32) (g : MG) (t : Nat) (x0 : Int32) (v2 : Int32) (v3 : Int32) : Option Int32 :=
  if (g.1 (21 + 15 * t) 3) ≤ v3 then
 some v2
 else
 bnd (m_X3_placeOf g t v3) fun (r14 : Int32) =>
 if r14 = x0 then
 bnd (m_X3_valueOf g t v3) fun (r24 : Int32) =>
 k4 ((v2 + r24), (v3 + (1 : Int32)))
 else
 k4 (v2, (v3 + (1 : Int32)))
def b_X3_sumAt_L4 (g : MG) (t : Nat) (x0 : Int32) : ((Int32 × Int32) → Option Int32) → (Int32 × Int32) → Option Int32 := fun k x => m_X3_sumAt_L4 k g t x0 x.1 x.2
def m_X3_sumAt (g : MG) (t : Nat) (x0 : Int32) : Option Int32 :=
  lpo (b_X3_sumAt_L4 g t x0) fuelN ((0 : Int32), (0 : Int32))
def m_X3_amountAhead_L12 (k12 : (Int32 × Int32) → Option Int32) (g : MG) (t : Nat) (x0 : Int32) (x1 : Int32) (c3 : Int32) (v4 : Int32) (v5 : Int32) : Option Int32 :=
  if (g.1 (21 + 15 * t) 3) ≤ v5 then
 some v4
 else
 bnd (m_X3_keyOf g t v5) fun (r24 : Int32) =>
 if r24 < c3 then
 if (1 : Int32) = 0 then
 k12 (v4, (v5 + (1 : Int32)))
 else
 bnd (m_X3_placeOf g t v5) fun (r62 : Int32) =>
 if r62 = x1 then
 k12 ((v4 + (1 : Int32)), (v5 + (1 : Int32)))
 else
 k12 (v4, (v5 + (1 : Int32)))
 else
 bnd (m_X3_keyOf g t v5) fun (r34 : Int32) =>
 if r34 = c3 then
 if x0 ≤ v5 then
 if (0 : Int32) = 0 then
 k12 (v4, (v5 + (1 : Int32)))
 else
 bnd (m_X3_placeOf g t v5) fun (r62 : Int32) =>
 if r62 = x1 then
 k12 ((v4 + (1 : Int32)), (v5 + (1 : Int32)))
 else
 k12 (v4, (v5 + (1 : Int32)))
 else
 if (1 : Int32) = 0 then
 k12 (v4, (v5 + (1 : Int32)))
 else
 bnd (m_X3_placeOf g t v5) fun (r62 : Int32) =>
 if r62 = x1 then
 k12 ((v4 + (1 : Int32)), (v5 + (1 : Int32)))
 else
 k12 (v4, (v5 + (1 : Int32)))
 else
 if (0 : Int32) = 0 then
 k12 (v4, (v5 + (1 : Int32)))
 else
 bnd (m_X3_placeOf g t v5) fun (r62 : Int32) =>
 if r62 = x1 then
 k12 ((v4 + (1 : Int32)), (v5 + (1 : Int32)))
 else
 k12 (v4, (v5 + (1 : Int32)))
def b_X3_amountAhead_L12 (g : MG) (t : Nat) (x0 : Int32) (x1 : Int32) (c3 : Int32) : ((Int32 × Int32) → Option Int32) → (Int32 × Int32) → Option Int32 := fun k x => m_X3_amountAhead_L12 k g t x0 x1 c3 x.1 x.2
def m_X3_amountAhead (g : MG) (t : Nat) (x0 : Int32) (x1 : Int32) : Option Int32 :=
  bnd (m_X3_keyOf g t x0) fun (r2 : Int32) =>
 lpo (b_X3_amountAhead_L12 g t x0 x1 r2) fuelN ((0 : Int32), (0 : Int32))
def m_X3_ranked_L2 (k2 : Int32 → Option Int32) (g : MG) (t : Nat) (x0 : Int32) (x1 : Int32) (v3 : Int32) : Option Int32 :=
  if (g.1 (21 + 15 * t) 3) ≤ v3 then
 some (-1005 : Int32)
 else
 bnd (m_X3_placeOf g t v3) fun (r12 : Int32) =>
 if r12 = x0 then
 bnd (m_X3_amountAhead g t v3 x0) fun (r22 : Int32) =>
 if r22 = x1 then
 some v3
 else
 k2 (v3 + (1 : Int32))
 else
 k2 (v3 + (1 : Int32))
def b_X3_ranked_L2 (g : MG) (t : Nat) (x0 : Int32) (x1 : Int32) : (Int32 → Option Int32) → Int32 → Option Int32 := fun k x => m_X3_ranked_L2 k g t x0 x1 x
def m_X3_ranked (g : MG) (t : Nat) (x0 : Int32) (x1 : Int32) : Option Int32 :=
  lpo (b_X3_ranked_L2 g t x0 x1) fuelN (0 : Int32)
def m_X4_isFull (g : MG) (t : Nat) : Option Int32 :=
  if (12 : Int32) ≤ (g.1 (22 + 15 * t) 3) then
 some (1 : Int32)
 else
 if (g.1 (22 + 15 * t) 4) < (60 : Int32) then
 some (0 : Int32)
 else
 some (1 : Int32)
def m_X4_numberAt (g : MG) (t : Nat) (x0 : Int32) : Option Int32 :=
  bnd (m_X0_at g (30 + 15 * t) 12 x0) fun (r5 : Int32) =>
 some r5
def m_X4_positionOf_L2 (k2 : Int32 → Option Int32) (g : MG) (t : Nat) (x0 : Int32) (v2 : Int32) : Option Int32 :=
  if (g.1 (22 + 15 * t) 3) ≤ v2 then
 some (-1005 : Int32)
 else
 bnd (m_X4_numberAt g t v2) fun (r12 : Int32) =>
 if r12 = x0 then
 some v2
 else
 k2 (v2 + (1 : Int32))
def b_X4_positionOf_L2 (g : MG) (t : Nat) (x0 : Int32) : (Int32 → Option Int32) → Int32 → Option Int32 := fun k x => m_X4_positionOf_L2 k g t x0 x
def m_X4_positionOf (g : MG) (t : Nat) (x0 : Int32) : Option Int32 :=
  lpo (b_X4_positionOf_L2 g t x0) fuelN (0 : Int32)
def m_X4_has (g : MG) (t : Nat) (x0 : Int32) : Option Int32 :=
  bnd (m_X4_positionOf g t x0) fun (r2 : Int32) =>
 if r2 = (-1005 : Int32) then
 some (0 : Int32)
 else
 some (1 : Int32)
def m_X4_lowAt (g : MG) (t : Nat) (x0 : Int32) : Option Int32 :=
  bnd (m_X0_at g (32 + 15 * t) 12 x0) fun (r5 : Int32) =>
 some r5
def m_X4_highAt (g : MG) (t : Nat) (x0 : Int32) : Option Int32 :=
  bnd (m_X0_at g (34 + 15 * t) 12 x0) fun (r5 : Int32) =>
 some r5
def m_X4_having_L2 (k2 : Int32 → Option Int32) (g : MG) (t : Nat) (x0 : Int32) (v2 : Int32) : Option Int32 :=
  if (g.1 (22 + 15 * t) 3) ≤ v2 then
 some (-1005 : Int32)
 else
 bnd (m_X4_lowAt g t v2) fun (r13 : Int32) =>
 if x0 < r13 then
 k2 (v2 + (1 : Int32))
 else
 bnd (m_X4_highAt g t v2) fun (r22 : Int32) =>
 if r22 ≤ x0 then
 k2 (v2 + (1 : Int32))
 else
 bnd (m_X4_numberAt g t v2) fun (r30 : Int32) =>
 some r30
def b_X4_having_L2 (g : MG) (t : Nat) (x0 : Int32) : (Int32 → Option Int32) → Int32 → Option Int32 := fun k x => m_X4_having_L2 k g t x0 x
def m_X4_having (g : MG) (t : Nat) (x0 : Int32) : Option Int32 :=
  lpo (b_X4_having_L2 g t x0) fuelN (0 : Int32)
def m_X4_overlap_L2 (k2 : Int32 → Option Int32) (g : MG) (t : Nat) (x0 : Int32) (x1 : Int32) (v3 : Int32) : Option Int32 :=
  if (g.1 (22 + 15 * t) 3) ≤ v3 then
 some (0 : Int32)
 else
 bnd (m_X4_highAt g t v3) fun (r13 : Int32) =>
 if r13 ≤ x0 then
 k2 (v3 + (1 : Int32))
 else
 bnd (m_X4_lowAt g t v3) fun (r21 : Int32) =>
 if x1 ≤ r21 then
 k2 (v3 + (1 : Int32))
 else
 some (1 : Int32)
def b_X4_overlap_L2 (g : MG) (t : Nat) (x0 : Int32) (x1 : Int32) : (Int32 → Option Int32) → Int32 → Option Int32 := fun k x => m_X4_overlap_L2 k g t x0 x1 x
def m_X4_overlap (g : MG) (t : Nat) (x0 : Int32) (x1 : Int32) : Option Int32 :=
  lpo (b_X4_overlap_L2 g t x0 x1) fuelN (0 : Int32)
def m_X4_areBeside (g : MG) (t : Nat) (x0 : Int32) (x1 : Int32) : Option Int32 :=
  bnd (m_X4_highAt g t x0) fun (r2 : Int32) =>
 bnd (m_X4_lowAt g t x1) fun (r7 : Int32) =>
 if r2 = r7 then
 some (1 : Int32)
 else
 bnd (m_X4_highAt g t x1) fun (r15 : Int32) =>
 bnd (m_X4_lowAt g t x0) fun (r20 : Int32) =>
 if r15 = r20 then
 some (1 : Int32)
 else
 some (0 : Int32)
def m_X4_changeBounds (g : MG) (t : Nat) (x0 : Int32) (x1 : Int32) (x2 : Int32) : Option MG :=
  bnd (m_X0_write g (32 + 15 * t) 12 x0 x1) fun (g6 : MG) =>
 bnd (m_X0_write g6 (34 + 15 * t) 12 x0 x2) fun (g15 : MG) =>
 some g15
def m_X4_copyEntry (g : MG) (t : Nat) (x0 : Int32) (x1 : Int32) : Option MG :=
  bnd (m_X4_numberAt g t x0) fun (r7 : Int32) =>
 bnd (m_X0_write g (30 + 15 * t) 12 x1 r7) fun (g10 : MG) =>
 bnd (m_X4_lowAt g10 t x0) fun (r17 : Int32) =>
 bnd (m_X4_highAt g10 t x0) fun (r22 : Int32) =>
 bnd (m_X4_changeBounds g10 t x1 r17 r22) fun (g25 : MG) =>
 some g25
def m_X4_append_L5 (k5 : (Int32 × MG) → Option (Int32 × MG)) (t : Nat) (x0 : Int32) (x1 : Int32) (v3 : Int32) (g : MG) : Option (Int32 × MG) :=
  if v3 ≤ 0 then
 bnd (m_X0_write g (30 + 15 * t) 12 v3 (g.1 (22 + 15 * t) 4)) fun (g43 : MG) =>
 bnd (m_X4_changeBounds g43 t v3 x0 x1) fun (g50 : MG) =>
 some ((((g_w (g_w g50 (22 + 15 * t) 3 ((g50.1 (22 + 15 * t) 3) + (1 : Int32))) (22 + 15 * t) 4 (((g_w g50 (22 + 15 * t) 3 ((g50.1 (22 + 15 * t) 3) + (1 : Int32))).1 (22 + 15 * t) 4) + (1 : Int32))).1 (22 + 15 * t) 4) - (1 : Int32)), (g_w (g_w g50 (22 + 15 * t) 3 ((g50.1 (22 + 15 * t) 3) + (1 : Int32))) (22 + 15 * t) 4 (((g_w g50 (22 + 15 * t) 3 ((g50.1 (22 + 15 * t) 3) + (1 : Int32))).1 (22 + 15 * t) 4) + (1 : Int32))))
 else
 bnd (m_X4_lowAt g t (v3 - (1 : Int32))) fun (r13 : Int32) =>
 if r13 ≤ x0 then
 bnd (m_X0_write g (30 + 15 * t) 12 v3 (g.1 (22 + 15 * t) 4)) fun (g43 : MG) =>
 bnd (m_X4_changeBounds g43 t v3 x0 x1) fun (g50 : MG) =>
 some ((((g_w (g_w g50 (22 + 15 * t) 3 ((g50.1 (22 + 15 * t) 3) + (1 : Int32))) (22 + 15 * t) 4 (((g_w g50 (22 + 15 * t) 3 ((g50.1 (22 + 15 * t) 3) + (1 : Int32))).1 (22 + 15 * t) 4) + (1 : Int32))).1 (22 + 15 * t) 4) - (1 : Int32)), (g_w (g_w g50 (22 + 15 * t) 3 ((g50.1 (22 + 15 * t) 3) + (1 : Int32))) (22 + 15 * t) 4 (((g_w g50 (22 + 15 * t) 3 ((g50.1 (22 + 15 * t) 3) + (1 : Int32))).1 (22 + 15 * t) 4) + (1 : Int32))))
 else
 bnd (m_X4_copyEntry g t (v3 - (1 : Int32)) v3) fun (g25 : MG) =>
 k5 ((v3 + (-1 : Int32)), g25)
def b_X4_append_L5 (t : Nat) (x0 : Int32) (x1 : Int32) : ((Int32 × MG) → Option (Int32 × MG)) → (Int32 × MG) → Option (Int32 × MG) := fun k x => m_X4_append_L5 k t x0 x1 x.1 x.2
def m_X4_append (g : MG) (t : Nat) (x0 : Int32) (x1 : Int32) : Option (Int32 × MG) :=
  lpo (b_X4_append_L5 t x0 x1) fuelN ((g.1 (22 + 15 * t) 3), g)
def m_X4_remove_L18 (k18 : (Int32 × MG) → Option MG) (t : Nat) (x0 : Int32) (v3 : Int32) (g : MG) : Option MG :=
  if (g.1 (22 + 15 * t) 3) ≤ v3 then
 some (g_w g (22 + 15 * t) 3 ((g.1 (22 + 15 * t) 3) - (1 : Int32)))
 else
 bnd (m_X4_copyEntry g t v3 (v3 - (1 : Int32))) fun (g31 : MG) =>
 k18 ((v3 + (1 : Int32)), g31)
def b_X4_remove_L18 (t : Nat) (x0 : Int32) : ((Int32 × MG) → Option MG) → (Int32 × MG) → Option MG := fun k x => m_X4_remove_L18 k t x0 x.1 x.2
def m_X4_remove (g : MG) (t : Nat) (x0 : Int32) : Option MG :=
  bnd (m_X4_positionOf g t x0) fun (r2 : Int32) =>
 if r2 = (-1005 : Int32) then
 some g
 else
 lpo (b_X4_remove_L18 t x0) fuelN ((r2 + (1 : Int32)), g)
def m_X4_unite (g : MG) (t : Nat) (x0 : Int32) (x1 : Int32) : Option MG :=
  bnd (m_X4_lowAt g t x0) fun (r2 : Int32) =>
 bnd (m_X4_lowAt g t x1) fun (r7 : Int32) =>
 bnd (m_X4_highAt g t x0) fun (r16 : Int32) =>
 bnd (m_X4_highAt g t x1) fun (r21 : Int32) =>
 bnd (m_X4_changeBounds g t x1 (if r7 < r2 then r7 else r2) (if r16 < r21 then r21 else r16)) fun (g34 : MG) =>
 bnd (m_X4_numberAt g34 t x0) fun (r40 : Int32) =>
 bnd (m_X4_remove g34 t r40) fun (g43 : MG) =>
 some g43
def m_X4_gapLow (g : MG) (t : Nat) (x0 : Int32) : Option Int32 :=
  if x0 = 0 then
 some (0 : Int32)
 else
 bnd (m_X4_highAt g t (x0 - (1 : Int32))) fun (r12 : Int32) =>
 some r12
def m_X4_gapHigh (g : MG) (t : Nat) (x0 : Int32) : Option Int32 :=
  if x0 = (g.1 (22 + 15 * t) 3) then
 some (1000 : Int32)
 else
 bnd (m_X4_lowAt g t x0) fun (r16 : Int32) =>
 some r16
def m_X4_gapRanked_L4 (k4 : (Int32 × Int32) → Option Int32) (g : MG) (t : Nat) (x0 : Int32) (v2 : Int32) (v3 : Int32) : Option Int32 :=
  if (g.1 (22 + 15 * t) 3) < v3 then
 some (-1005 : Int32)
 else
 bnd (m_X4_gapLow g t v3) fun (r14 : Int32) =>
 bnd (m_X4_gapHigh g t v3) fun (r19 : Int32) =>
 if r19 ≤ r14 then
 k4 (v2, (v3 + (1 : Int32)))
 else
 if v2 = x0 then
 some v3
 else
 k4 ((v2 + (1 : Int32)), (v3 + (1 : Int32)))
def b_X4_gapRanked_L4 (g : MG) (t : Nat) (x0 : Int32) : ((Int32 × Int32) → Option Int32) → (Int32 × Int32) → Option Int32 := fun k x => m_X4_gapRanked_L4 k g t x0 x.1 x.2
def m_X4_gapRanked (g : MG) (t : Nat) (x0 : Int32) : Option Int32 :=
  lpo (b_X4_gapRanked_L4 g t x0) fuelN ((0 : Int32), (0 : Int32))
def m_X4_gaps_L4 (k4 : (Int32 × Int32) → Option Int32) (g : MG) (t : Nat) (v1 : Int32) (v2 : Int32) : Option Int32 :=
  if (g.1 (22 + 15 * t) 3) < v2 then
 some v1
 else
 bnd (m_X4_gapLow g t v2) fun (r14 : Int32) =>
 bnd (m_X4_gapHigh g t v2) fun (r19 : Int32) =>
 if r19 ≤ r14 then
 k4 (v1, (v2 + (1 : Int32)))
 else
 k4 ((v1 + (1 : Int32)), (v2 + (1 : Int32)))
def b_X4_gaps_L4 (g : MG) (t : Nat) : ((Int32 × Int32) → Option Int32) → (Int32 × Int32) → Option Int32 := fun k x => m_X4_gaps_L4 k g t x.1 x.2
def m_X4_gaps (g : MG) (t : Nat) : Option Int32 :=
  lpo (b_X4_gaps_L4 g t) fuelN ((0 : Int32), (0 : Int32))
def m_X4_freeKeys_L4 (k4 : (Int32 × Int32) → Option Int32) (g : MG) (t : Nat) (v1 : Int32) (v2 : Int32) : Option Int32 :=
  if (g.1 (22 + 15 * t) 3) < v2 then
 some v1
 else
 bnd (m_X4_gapHigh g t v2) fun (r15 : Int32) =>
 bnd (m_X4_gapLow g t v2) fun (r20 : Int32) =>
 k4 ((v1 + (r15 - r20)), (v2 + (1 : Int32)))
def b_X4_freeKeys_L4 (g : MG) (t : Nat) : ((Int32 × Int32) → Option Int32) → (Int32 × Int32) → Option Int32 := fun k x => m_X4_freeKeys_L4 k g t x.1 x.2
def m_X4_freeKeys (g : MG) (t : Nat) : Option Int32 :=
  lpo (b_X4_freeKeys_L4 g t) fuelN ((0 : Int32), (0 : Int32))
def m_X5_home (g : MG) (t : Nat) (x0 : Int32) : Option Int32 :=
  bnd (m_X4_having g t x0) fun (r5 : Int32) =>
 if r5 = (-1005 : Int32) then
 if (g.1 (20 + 15 * t) 2) = 0 then
 some r5
 else
 some (60 : Int32)
 else
 some r5
def m_X5_isStray (g : MG) (t : Nat) (x0 : Int32) : Option Int32 :=
  bnd (m_X3_isInTable g t x0) fun (r5 : Int32) =>
 if r5 = 0 then
 some (0 : Int32)
 else
 bnd (m_X3_keyOf g t x0) fun (r17 : Int32) =>
 bnd (m_X5_home g t r17) fun (r20 : Int32) =>
 bnd (m_X3_placeOf g t x0) fun (r28 : Int32) =>
 if r20 = r28 then
 some (0 : Int32)
 else
 some (1 : Int32)
def m_X5_strays_L4 (k4 : (Int32 × Int32) → Option Int32) (g : MG) (t : Nat) (v1 : Int32) (v2 : Int32) : Option Int32 :=
  if (g.1 (21 + 15 * t) 3) ≤ v2 then
 some v1
 else
 bnd (m_X5_isStray g t v2) fun (r17 : Int32) =>
 if r17 = 0 then
 k4 (v1, (v2 + (1 : Int32)))
 else
 k4 ((v1 + (1 : Int32)), (v2 + (1 : Int32)))
def b_X5_strays_L4 (g : MG) (t : Nat) : ((Int32 × Int32) → Option Int32) → (Int32 × Int32) → Option Int32 := fun k x => m_X5_strays_L4 k g t x.1 x.2
def m_X5_strays (g : MG) (t : Nat) : Option Int32 :=
  lpo (b_X5_strays_L4 g t) fuelN ((0 : Int32), (0 : Int32))
def m_X5_straysAt_L4 (k4 : (Int32 × Int32) → Option Int32) (g : MG) (t : Nat) (x0 : Int32) (v2 : Int32) (v3 : Int32) : Option Int32 :=
  if (g.1 (21 + 15 * t) 3) ≤ v3 then
 some v2
 else
 bnd (m_X3_placeOf g t v3) fun (r20 : Int32) =>
 if r20 = x0 then
 bnd (m_X5_isStray g t v3) fun (r29 : Int32) =>
 if r29 = 0 then
 k4 (v2, (v3 + (1 : Int32)))
 else
 k4 ((v2 + (1 : Int32)), (v3 + (1 : Int32)))
 else
 k4 (v2, (v3 + (1 : Int32)))
def b_X5_straysAt_L4 (g : MG) (t : Nat) (x0 : Int32) : ((Int32 × Int32) → Option Int32) → (Int32 × Int32) → Option Int32 := fun k x => m_X5_straysAt_L4 k g t x0 x.1 x.2
def m_X5_straysAt (g : MG) (t : Nat) (x0 : Int32) : Option Int32 :=
  lpo (b_X5_straysAt_L4 g t x0) fuelN ((0 : Int32), (0 : Int32))
def m_X5_strayIsHomeless_L2 (k2 : Int32 → Option Int32) (g : MG) (t : Nat) (v1 : Int32) : Option Int32 :=
  if (g.1 (21 + 15 * t) 3) ≤ v1 then
 some (0 : Int32)
 else
 bnd (m_X5_isStray g t v1) fun (r15 : Int32) =>
 if r15 = 0 then
 k2 (v1 + (1 : Int32))
 else
 bnd (m_X3_keyOf g t v1) fun (r27 : Int32) =>
 bnd (m_X5_home g t r27) fun (r30 : Int32) =>
 if r30 = (-1005 : Int32) then
 some (1 : Int32)
 else
 k2 (v1 + (1 : Int32))
def b_X5_strayIsHomeless_L2 (g : MG) (t : Nat) : (Int32 → Option Int32) → Int32 → Option Int32 := fun k x => m_X5_strayIsHomeless_L2 k g t x
def m_X5_strayIsHomeless (g : MG) (t : Nat) : Option Int32 :=
  lpo (b_X5_strayIsHomeless_L2 g t) fuelN (0 : Int32)
def m_X5_moveStrays_L2 (k2 : (Int32 × MG) → Option MG) (t : Nat) (v1 : Int32) (g : MG) : Option MG :=
  if (g.1 (21 + 15 * t) 3) ≤ v1 then
 some g
 else
 bnd (m_X5_isStray g t v1) fun (r15 : Int32) =>
 if r15 = 0 then
 k2 ((v1 + (1 : Int32)), g)
 else
 bnd (m_X3_keyOf g t v1) fun (r32 : Int32) =>
 bnd (m_X5_home g t r32) fun (r35 : Int32) =>
 bnd (m_X3_move g t v1 r35) fun (g38 : MG) =>
 k2 ((v1 + (1 : Int32)), g38)
def b_X5_moveStrays_L2 (t : Nat) : ((Int32 × MG) → Option MG) → (Int32 × MG) → Option MG := fun k x => m_X5_moveStrays_L2 k t x.1 x.2
def m_X5_moveStrays (g : MG) (t : Nat) : Option MG :=
  lpo (b_X5_moveStrays_L2 t) fuelN ((0 : Int32), g)
def m_X5_unfitRows (g : MG) (t : Nat) (x0 : Int32) (x1 : Int32) : Option Int32 :=
  bnd (m_X3_amountAt g t (61 : Int32)) fun (r6 : Int32) =>
 bnd (m_X3_amountWithKeys g t (61 : Int32) x0 x1) fun (r17 : Int32) =>
 some (r6 - r17)
def m_X6_isKey (g : MG) (x0 : Int32) : Option Int32 :=
  if x0 < 0 then
 some (0 : Int32)
 else
 if (1000 : Int32) ≤ x0 then
 some (0 : Int32)
 else
 some (1 : Int32)
def m_X6_isValue (g : MG) (x0 : Int32) : Option Int32 :=
  if x0 < (-999 : Int32) then
 some (0 : Int32)
 else
 if (999 : Int32) < x0 then
 some (0 : Int32)
 else
 some (1 : Int32)
def m_X6_put (g : MG) (x0 : Int32) (x1 : Int32) : Option (Int32 × MG) :=
  bnd (m_X6_isKey g x0) fun (r1 : Int32) =>
 if r1 = 0 then
 some ((-1002 : Int32), g)
 else
 bnd (m_X6_isValue g x1) fun (r8 : Int32) =>
 if r8 = 0 then
 some ((-1002 : Int32), g)
 else
 bnd (m_X5_home g 0 x0) fun (r23 : Int32) =>
 if r23 = (-1005 : Int32) then
 some ((-1004 : Int32), g)
 else
 bnd (m_X3_amountAt g 0 r23) fun (r46 : Int32) =>
 if (30 : Int32) ≤ r46 then
 some ((-1003 : Int32), g)
 else
 if (g.1 (21 + 15 * 0) 3) < (400 : Int32) then
 bnd (m_X1_record g 0) fun (g82 : MG) =>
 bnd2 (m_X3_append g82 0 x0 x1 r23) fun (r95 : Int32) (g95 : MG) =>
 some (r95, g95)
 else
 some ((-1003 : Int32), g)
def m_X6_stage (g : MG) (x0 : Int32) (x1 : Int32) : Option (Int32 × MG) :=
  bnd (m_X6_isKey g x0) fun (r1 : Int32) =>
 if r1 = 0 then
 some ((-1002 : Int32), g)
 else
 bnd (m_X6_isValue g x1) fun (r8 : Int32) =>
 if r8 = 0 then
 some ((-1002 : Int32), g)
 else
 bnd (m_X3_amountAt g 0 (61 : Int32)) fun (r27 : Int32) =>
 if (20 : Int32) ≤ r27 then
 some ((-1003 : Int32), g)
 else
 if (g.1 (21 + 15 * 0) 3) < (400 : Int32) then
 bnd (m_X1_record g 0) fun (g63 : MG) =>
 bnd2 (m_X3_append g63 0 x0 x1 (61 : Int32)) fun (r77 : Int32) (g77 : MG) =>
 some (r77, g77)
 else
 some ((-1003 : Int32), g)
def m_X6_take (g : MG) (x0 : Int32) : Option (Int32 × MG) :=
  bnd (m_X3_has g 0 x0) fun (r8 : Int32) =>
 if r8 = 0 then
 some ((-1001 : Int32), g)
 else
 bnd (m_X1_record g 0) fun (g26 : MG) =>
 bnd (m_X3_move g26 0 x0 (-1 : Int32)) fun (g38 : MG) =>
 bnd (m_X3_keyOf g38 0 x0) fun (r49 : Int32) =>
 some (r49, g38)
def m_X6_rekey (g : MG) (x0 : Int32) (x1 : Int32) : Option (Int32 × MG) :=
  bnd (m_X3_has g 0 x0) fun (r8 : Int32) =>
 if r8 = 0 then
 some ((-1001 : Int32), g)
 else
 bnd (m_X6_isKey g x1) fun (r19 : Int32) =>
 if r19 = 0 then
 some ((-1002 : Int32), g)
 else
 bnd (m_X3_keyOf g 0 x0) fun (r37 : Int32) =>
 if r37 = x1 then
 some ((-1005 : Int32), g)
 else
 bnd (m_X3_placeOf g 0 x0) fun (r58 : Int32) =>
 if r58 = (61 : Int32) then
 if (61 : Int32) = (-1005 : Int32) then
 some ((-1004 : Int32), g)
 else
 if (61 : Int32) = r58 then
 bnd (m_X1_record g 0) fun (g133 : MG) =>
 bnd (m_X3_changeKey g133 0 x0 x1) fun (g145 : MG) =>
 bnd (m_X3_move g145 0 x0 (61 : Int32)) fun (g158 : MG) =>
 some (r37, g158)
 else
 bnd (m_X3_amountAt g 0 (61 : Int32)) fun (r113 : Int32) =>
 if r113 < (30 : Int32) then
 bnd (m_X1_record g 0) fun (g133 : MG) =>
 bnd (m_X3_changeKey g133 0 x0 x1) fun (g145 : MG) =>
 bnd (m_X3_move g145 0 x0 (61 : Int32)) fun (g158 : MG) =>
 some (r37, g158)
 else
 some ((-1003 : Int32), g)
 else
 bnd (m_X5_home g 0 x1) fun (r80 : Int32) =>
 if r80 = (-1005 : Int32) then
 some ((-1004 : Int32), g)
 else
 if r80 = r58 then
 bnd (m_X1_record g 0) fun (g133 : MG) =>
 bnd (m_X3_changeKey g133 0 x0 x1) fun (g145 : MG) =>
 bnd (m_X3_move g145 0 x0 r80) fun (g158 : MG) =>
 some (r37, g158)
 else
 bnd (m_X3_amountAt g 0 r80) fun (r113 : Int32) =>
 if r113 < (30 : Int32) then
 bnd (m_X1_record g 0) fun (g133 : MG) =>
 bnd (m_X3_changeKey g133 0 x0 x1) fun (g145 : MG) =>
 bnd (m_X3_move g145 0 x0 r80) fun (g158 : MG) =>
 some (r37, g158)
 else
 some ((-1003 : Int32), g)
def m_X6_areBounds (g : MG) (x0 : Int32) (x1 : Int32) : Option Int32 :=
  bnd (m_X6_isKey g x0) fun (r1 : Int32) =>
 if r1 = 0 then
 some (0 : Int32)
 else
 if x1 ≤ x0 then
 some (0 : Int32)
 else
 if (1000 : Int32) < x1 then
 some (0 : Int32)
 else
 some (1 : Int32)
def m_X6_addSlice (g : MG) (x0 : Int32) (x1 : Int32) : Option (Int32 × MG) :=
  bnd (m_X6_areBounds g x0 x1) fun (r2 : Int32) =>
 if r2 = 0 then
 some ((-1002 : Int32), g)
 else
 bnd (m_X3_amountWithKeys g 0 (60 : Int32) x0 x1) fun (r23 : Int32) =>
 if r23 ≤ 0 then
 bnd (m_X4_overlap g 0 x0 x1) fun (r44 : Int32) =>
 if r44 = 0 then
 if (0 : Int32) = 0 then
 bnd (m_X4_isFull g 0) fun (r75 : Int32) =>
 if r75 = 0 then
 bnd (m_X1_record g 0) fun (g93 : MG) =>
 bnd2 (m_X4_append g93 0 x0 x1) fun (r105 : Int32) (g105 : MG) =>
 bnd (m_X3_moveKeys g105 0 (60 : Int32) r105 x0 x1) fun (g123 : MG) =>
 some (r105, g123)
 else
 some ((-1003 : Int32), g)
 else
 if (g.1 (20 + 15 * 0) 4) = 0 then
 some ((-1004 : Int32), g)
 else
 bnd (m_X4_isFull g 0) fun (r75 : Int32) =>
 if r75 = 0 then
 bnd (m_X1_record g 0) fun (g93 : MG) =>
 bnd2 (m_X4_append g93 0 x0 x1) fun (r105 : Int32) (g105 : MG) =>
 bnd (m_X3_moveKeys g105 0 (60 : Int32) r105 x0 x1) fun (g123 : MG) =>
 some (r105, g123)
 else
 some ((-1003 : Int32), g)
 else
 some ((-1004 : Int32), g)
 else
 bnd (m_X4_overlap g 0 x0 x1) fun (r44 : Int32) =>
 if r44 = 0 then
 if (1 : Int32) = 0 then
 bnd (m_X4_isFull g 0) fun (r75 : Int32) =>
 if r75 = 0 then
 bnd (m_X1_record g 0) fun (g93 : MG) =>
 bnd2 (m_X4_append g93 0 x0 x1) fun (r105 : Int32) (g105 : MG) =>
 bnd (m_X3_moveKeys g105 0 (60 : Int32) r105 x0 x1) fun (g123 : MG) =>
 some (r105, g123)
 else
 some ((-1003 : Int32), g)
 else
 if (g.1 (20 + 15 * 0) 4) = 0 then
 some ((-1004 : Int32), g)
 else
 bnd (m_X4_isFull g 0) fun (r75 : Int32) =>
 if r75 = 0 then
 bnd (m_X1_record g 0) fun (g93 : MG) =>
 bnd2 (m_X4_append g93 0 x0 x1) fun (r105 : Int32) (g105 : MG) =>
 bnd (m_X3_moveKeys g105 0 (60 : Int32) r105 x0 x1) fun (g123 : MG) =>
 some (r105, g123)
 else
 some ((-1003 : Int32), g)
 else
 some ((-1004 : Int32), g)
def m_X6_dropSlice (g : MG) (x0 : Int32) : Option (Int32 × MG) :=
  bnd (m_X4_has g 0 x0) fun (r8 : Int32) =>
 if r8 = 0 then
 some ((-1001 : Int32), g)
 else
 bnd (m_X3_amountAt g 0 x0) fun (r26 : Int32) =>
 bnd (m_X1_record g 0) fun (g38 : MG) =>
 bnd (m_X3_moveAll g38 0 x0 (-1 : Int32)) fun (g50 : MG) =>
 bnd (m_X4_remove g50 0 x0) fun (g61 : MG) =>
 some (r26, g61)
def m_X6_detach (g : MG) (x0 : Int32) : Option (Int32 × MG) :=
  bnd (m_X4_has g 0 x0) fun (r8 : Int32) =>
 if r8 = 0 then
 some ((-1001 : Int32), g)
 else
 bnd (m_X3_amountAt g 0 (61 : Int32)) fun (r27 : Int32) =>
 if r27 ≤ 0 then
 bnd (m_X3_amountAt g 0 x0) fun (r45 : Int32) =>
 if r45 ≤ (20 : Int32) then
 bnd (m_X1_record g 0) fun (g67 : MG) =>
 bnd (m_X3_moveAll g67 0 x0 (61 : Int32)) fun (g80 : MG) =>
 bnd (m_X4_remove g80 0 x0) fun (g91 : MG) =>
 some (r45, g91)
 else
 some ((-1003 : Int32), g)
 else
 some ((-1004 : Int32), g)
def m_X6_attach (g : MG) (x0 : Int32) (x1 : Int32) : Option (Int32 × MG) :=
  bnd (m_X6_areBounds g x0 x1) fun (r2 : Int32) =>
 if r2 = 0 then
 some ((-1002 : Int32), g)
 else
 bnd (m_X4_overlap g 0 x0 x1) fun (r21 : Int32) =>
 if r21 = 0 then
 bnd (m_X5_unfitRows g 0 x0 x1) fun (r33 : Int32) =>
 if 0 < r33 then
 some ((-1004 : Int32), g)
 else
 bnd (m_X3_amountWithKeys g 0 (60 : Int32) x0 x1) fun (r50 : Int32) =>
 if r50 ≤ 0 then
 bnd (m_X4_isFull g 0) fun (r67 : Int32) =>
 if r67 = 0 then
 bnd (m_X1_record g 0) fun (g85 : MG) =>
 bnd2 (m_X4_append g85 0 x0 x1) fun (r97 : Int32) (g97 : MG) =>
 bnd (m_X3_moveAll g97 0 (61 : Int32) r97) fun (g111 : MG) =>
 some (r97, g111)
 else
 some ((-1003 : Int32), g)
 else
 some ((-1004 : Int32), g)
 else
 some ((-1004 : Int32), g)
def m_X6_swap (g : MG) (x0 : Int32) (x1 : Int32) : Option (Int32 × MG) :=
  bnd (m_X4_positionOf g 0 x0) fun (r8 : Int32) =>
 if r8 = (-1005 : Int32) then
 some ((-1001 : Int32), g)
 else
 if x1 = 0 then
 bnd (m_X3_amountAt g 0 x0) fun (r71 : Int32) =>
 if r71 ≤ (20 : Int32) then
 bnd (m_X1_record g 0) fun (g91 : MG) =>
 bnd (m_X3_exchange g91 0 x0 (61 : Int32)) fun (g104 : MG) =>
 bnd (m_X3_amountAt g104 0 x0) fun (r115 : Int32) =>
 some (r115, g104)
 else
 some ((-1003 : Int32), g)
 else
 bnd (m_X4_lowAt g 0 r8) fun (r39 : Int32) =>
 bnd (m_X4_highAt g 0 r8) fun (r50 : Int32) =>
 bnd (m_X5_unfitRows g 0 r39 r50) fun (r53 : Int32) =>
 if r53 ≤ 0 then
 bnd (m_X3_amountAt g 0 x0) fun (r71 : Int32) =>
 if r71 ≤ (20 : Int32) then
 bnd (m_X1_record g 0) fun (g91 : MG) =>
 bnd (m_X3_exchange g91 0 x0 (61 : Int32)) fun (g104 : MG) =>
 bnd (m_X3_amountAt g104 0 x0) fun (r115 : Int32) =>
 some (r115, g104)
 else
 some ((-1003 : Int32), g)
 else
 some ((-1004 : Int32), g)
def m_X6_split (g : MG) (x0 : Int32) (x1 : Int32) : Option (Int32 × MG) :=
  bnd (m_X4_positionOf g 0 x0) fun (r8 : Int32) =>
 if r8 = (-1005 : Int32) then
 some ((-1001 : Int32), g)
 else
 bnd (m_X4_lowAt g 0 r8) fun (r31 : Int32) =>
 bnd (m_X4_highAt g 0 r8) fun (r44 : Int32) =>
 if x1 ≤ r31 then
 some ((-1002 : Int32), g)
 else
 if x1 < r44 then
 bnd (m_X4_isFull g 0) fun (r72 : Int32) =>
 if r72 = 0 then
 bnd (m_X1_record g 0) fun (g90 : MG) =>
 bnd (m_X4_changeBounds g90 0 r8 r31 x1) fun (g104 : MG) =>
 bnd2 (m_X4_append g104 0 x1 r44) fun (r117 : Int32) (g117 : MG) =>
 bnd (m_X3_moveKeys g117 0 x0 r117 x1 r44) fun (g135 : MG) =>
 some (r117, g135)
 else
 some ((-1003 : Int32), g)
 else
 some ((-1002 : Int32), g)
def m_X6_merge (g : MG) (x0 : Int32) (x1 : Int32) : Option (Int32 × MG) :=
  bnd (m_X4_positionOf g 0 x0) fun (r8 : Int32) =>
 bnd (m_X4_positionOf g 0 x1) fun (r20 : Int32) =>
 if r8 = (-1005 : Int32) then
 some ((-1001 : Int32), g)
 else
 if r20 = (-1005 : Int32) then
 some ((-1001 : Int32), g)
 else
 bnd (m_X4_areBeside g 0 r8 r20) fun (r54 : Int32) =>
 if r54 = 0 then
 some ((-1004 : Int32), g)
 else
 bnd (m_X3_amountAt g 0 x0) fun (r72 : Int32) =>
 bnd (m_X3_amountAt g 0 x1) fun (r83 : Int32) =>
 if (r72 + r83) ≤ (30 : Int32) then
 bnd (m_X1_record g 0) fun (g108 : MG) =>
 bnd (m_X3_moveAll g108 0 x0 x1) fun (g120 : MG) =>
 bnd (m_X4_unite g120 0 r8 r20) fun (g133 : MG) =>
 some ((r72 + r83), g133)
 else
 some ((-1003 : Int32), g)
def m_X6_useDefault (g : MG) (x0 : Int32) : Option (Int32 × MG) :=
  if (g.1 (20 + 15 * 0) 2) = x0 then
 some ((-1005 : Int32), g)
 else
 if x0 = 0 then
 bnd (m_X3_amountAt g 0 (60 : Int32)) fun (r28 : Int32) =>
 if r28 ≤ 0 then
 bnd (m_X1_record g 0) fun (g46 : MG) =>
 if bz x0 = true then
 bnd (m_X4_freeKeys (g_w g46 (20 + 15 * 0) 2 x0) 0) fun (r64 : Int32) =>
 some (r64, (g_w g46 (20 + 15 * 0) 2 x0))
 else none
 else
 some ((-1004 : Int32), g)
 else
 bnd (m_X1_record g 0) fun (g46 : MG) =>
 if bz x0 = true then
 bnd (m_X4_freeKeys (g_w g46 (20 + 15 * 0) 2 x0) 0) fun (r64 : Int32) =>
 some (r64, (g_w g46 (20 + 15 * 0) 2 x0))
 else none
def m_X6_straysFit_L61 (k61 : (Int32 × MG) → Option (Int32 × MG))  (v1 : Int32) (g : MG) : Option (Int32 × MG) :=
  if (g.1 (21 + 15 * 0) 3) ≤ v1 then
 some ((1 : Int32), g)
 else
 bnd (m_X5_isStray g 0 v1) fun (r80 : Int32) =>
 if r80 = 0 then
 k61 ((v1 + (1 : Int32)), g)
 else
 bnd (m_X3_placeOf g 0 v1) fun (r94 : Int32) =>
 bnd (m_X3_keyOf g 0 v1) fun (r110 : Int32) =>
 bnd (m_X5_home g 0 r110) fun (r113 : Int32) =>
 bnd (m_X0_at g 7 62 r113) fun (r122 : Int32) =>
 if r122 < (30 : Int32) then
 bnd (m_X0_at g 7 62 r94) fun (r142 : Int32) =>
 bnd (m_X0_write g 7 62 r94 (r142 - (1 : Int32))) fun (g147 : MG) =>
 bnd (m_X0_at g147 7 62 r113) fun (r160 : Int32) =>
 bnd (m_X0_write g147 7 62 r113 (r160 + (1 : Int32))) fun (g165 : MG) =>
 k61 ((v1 + (1 : Int32)), g165)
 else
 some ((0 : Int32), g)
def b_X6_straysFit_L61  : ((Int32 × MG) → Option (Int32 × MG)) → (Int32 × MG) → Option (Int32 × MG) := fun k x => m_X6_straysFit_L61 k  x.1 x.2
def m_X6_straysFit_L9 (k9 : (Int32 × MG) → Option (Int32 × MG))  (v1 : Int32) (g : MG) : Option (Int32 × MG) :=
  if (g.1 (21 + 15 * 0) 3) ≤ v1 then
 lpo (b_X6_straysFit_L61) fuelN ((0 : Int32), g)
 else
 bnd (m_X3_placeOf g 0 v1) fun (r31 : Int32) =>
 bnd (m_X0_at g 7 62 r31) fun (r45 : Int32) =>
 bnd (m_X0_write g 7 62 r31 (r45 + (1 : Int32))) fun (g50 : MG) =>
 k9 ((v1 + (1 : Int32)), g50)
def b_X6_straysFit_L9  : ((Int32 × MG) → Option (Int32 × MG)) → (Int32 × MG) → Option (Int32 × MG) := fun k x => m_X6_straysFit_L9 k  x.1 x.2
def m_X6_straysFit (g : MG)  : Option (Int32 × MG) :=
  bnd (m_X0_clear g 7 62) fun (g4 : MG) =>
 lpo (b_X6_straysFit_L9) fuelN ((0 : Int32), g4)
def m_X6_mend (g : MG)  : Option (Int32 × MG) :=
  bnd (m_X5_strays g 0) fun (r4 : Int32) =>
 if r4 = 0 then
 some ((-1005 : Int32), g)
 else
 bnd (m_X5_strayIsHomeless g 0) fun (r20 : Int32) =>
 if r20 = 0 then
 bnd2 (m_X6_straysFit g) fun (r31 : Int32) (g31 : MG) =>
 if r31 = 0 then
 some ((-1003 : Int32), g31)
 else
 bnd (m_X1_record g31 0) fun (g49 : MG) =>
 bnd (m_X5_moveStrays g49 0) fun (g56 : MG) =>
 some (r4, g56)
 else
 some ((-1004 : Int32), g)
def m_X6_set (g : MG) (x0 : Int32) (x1 : Int32) : Option (Int32 × MG) :=
  if x0 < 0 then
 some ((-1002 : Int32), g)
 else
 if (1 : Int32) < x0 then
 some ((-1002 : Int32), g)
 else
 if x1 < 0 then
 some ((-1002 : Int32), g)
 else
 if x0 = 0 then
 if x1 ≤ (2 : Int32) then
 if x0 = 0 then
 if (g.1 (20 + 15 * 0) 3) = x1 then
 some ((-1005 : Int32), g)
 else
 bnd (m_X1_record g 0) fun (g69 : MG) =>
 if x0 = 0 then
 some ((g.1 (20 + 15 * 0) 3), (g_w g69 (20 + 15 * 0) 3 x1))
 else
 some ((g.1 (20 + 15 * 0) 3), (g_w g69 (20 + 15 * 0) 4 x1))
 else
 if (g.1 (20 + 15 * 0) 4) = x1 then
 some ((-1005 : Int32), g)
 else
 bnd (m_X1_record g 0) fun (g69 : MG) =>
 if x0 = 0 then
 some ((g.1 (20 + 15 * 0) 4), (g_w g69 (20 + 15 * 0) 3 x1))
 else
 some ((g.1 (20 + 15 * 0) 4), (g_w g69 (20 + 15 * 0) 4 x1))
 else
 some ((-1002 : Int32), g)
 else
 if x1 ≤ (1 : Int32) then
 if x0 = 0 then
 if (g.1 (20 + 15 * 0) 3) = x1 then
 some ((-1005 : Int32), g)
 else
 bnd (m_X1_record g 0) fun (g69 : MG) =>
 if x0 = 0 then
 some ((g.1 (20 + 15 * 0) 3), (g_w g69 (20 + 15 * 0) 3 x1))
 else
 some ((g.1 (20 + 15 * 0) 3), (g_w g69 (20 + 15 * 0) 4 x1))
 else
 if (g.1 (20 + 15 * 0) 4) = x1 then
 some ((-1005 : Int32), g)
 else
 bnd (m_X1_record g 0) fun (g69 : MG) =>
 if x0 = 0 then
 some ((g.1 (20 + 15 * 0) 4), (g_w g69 (20 + 15 * 0) 3 x1))
 else
 some ((g.1 (20 + 15 * 0) 4), (g_w g69 (20 + 15 * 0) 4 x1))
 else
 some ((-1002 : Int32), g)
def m_X6_type (g : MG) (x0 : Int32) : Option (Int32 × MG) :=
  if (g.1 3 0) < (60 : Int32) then
 bnd (m_X2_read g x0) fun (g21 : MG) =>
 some ((g21.1 3 0), g21)
 else
 some ((-1003 : Int32), g)
def m_X6_clearText (g : MG)  : Option (Int32 × MG) :=
  bnd (m_X2_forget g) fun (g12 : MG) =>
 some ((g.1 3 0), g12)
def m_X6_undo (g : MG)  : Option (Int32 × MG) :=
  if (g.1 1 3) = 0 then
 some ((-1005 : Int32), g)
 else
 bnd (m_X1_giveBack g 0) fun (g22 : MG) =>
 some ((g22.1 1 3), g22)
def m_X6_row (g : MG) (x0 : Int32) (x1 : Int32) : Option Int32 :=
  bnd (m_X3_has g 0 x0) fun (r8 : Int32) =>
 if r8 = 0 then
 some (-1001 : Int32)
 else
 if x1 = (0 : Int32) then
 bnd (m_X3_keyOf g 0 x0) fun (r60 : Int32) =>
 some r60
 else if x1 = (1 : Int32) then
 bnd (m_X3_valueOf g 0 x0) fun (r72 : Int32) =>
 some r72
 else if x1 = (2 : Int32) then
 bnd (m_X3_placeOf g 0 x0) fun (r84 : Int32) =>
 some r84
 else if x1 = (3 : Int32) then
 bnd (m_X3_keyOf g 0 x0) fun (r100 : Int32) =>
 bnd (m_X5_home g 0 r100) fun (r103 : Int32) =>
 some r103
 else if x1 = (4 : Int32) then
 bnd (m_X5_isStray g 0 x0) fun (r112 : Int32) =>
 if r112 = 0 then
 some (0 : Int32)
 else
 some (1 : Int32)
 else 
 some (-1002 : Int32)
def m_X6_isPlace (g : MG) (x0 : Int32) : Option Int32 :=
  if x0 = (60 : Int32) then
 some (1 : Int32)
 else
 if x0 = (61 : Int32) then
 some (1 : Int32)
 else
 bnd (m_X4_has g 0 x0) fun (r20 : Int32) =>
 if r20 = 0 then
 some (0 : Int32)
 else
 some (1 : Int32)
def m_X6_keyOfRanked (g : MG) (x0 : Int32) (x1 : Int32) : Option Int32 :=
  bnd (m_X3_ranked g 0 x0 x1) fun (r9 : Int32) =>
 if r9 = (-1005 : Int32) then
 some (-1005 : Int32)
 else
 bnd (m_X3_keyOf g 0 r9) fun (r34 : Int32) =>
 some r34
def m_X6_slice (g : MG) (x0 : Int32) (x1 : Int32) : Option Int32 :=
  bnd (m_X6_isPlace g x0) fun (r2 : Int32) =>
 if r2 = 0 then
 some (-1001 : Int32)
 else
 bnd (m_X4_positionOf g 0 x0) fun (r20 : Int32) =>
 if x1 = (0 : Int32) then
 if r20 = (-1005 : Int32) then
 some (-1005 : Int32)
 else
 bnd (m_X4_lowAt g 0 r20) fun (r89 : Int32) =>
 some r89
 else if x1 = (1 : Int32) then
 if r20 = (-1005 : Int32) then
 some (-1005 : Int32)
 else
 bnd (m_X4_highAt g 0 r20) fun (r114 : Int32) =>
 some r114
 else if x1 = (2 : Int32) then
 bnd (m_X3_amountAt g 0 x0) fun (r126 : Int32) =>
 some r126
 else if x1 = (3 : Int32) then
 bnd (m_X6_keyOfRanked g x0 (0 : Int32)) fun (r133 : Int32) =>
 some r133
 else if x1 = (4 : Int32) then
 bnd (m_X3_amountAt g 0 x0) fun (r147 : Int32) =>
 bnd (m_X6_keyOfRanked g x0 (r147 - (1 : Int32))) fun (r152 : Int32) =>
 some r152
 else if x1 = (5 : Int32) then
 bnd (m_X3_sumAt g 0 x0) fun (r164 : Int32) =>
 some r164
 else if x1 = (6 : Int32) then
 bnd (m_X5_straysAt g 0 x0) fun (r173 : Int32) =>
 some r173
 else 
 some (-1002 : Int32)
def m_X6_ordered (g : MG) (x0 : Int32) : Option Int32 :=
  if 0 ≤ x0 then
 if (g.1 (22 + 15 * 0) 3) ≤ x0 then
 some (-1005 : Int32)
 else
 bnd (m_X4_numberAt g 0 x0) fun (r30 : Int32) =>
 some r30
 else
 some (-1002 : Int32)
def m_X6_lies (g : MG) (x0 : Int32) (x1 : Int32) : Option Int32 :=
  bnd (m_X6_isPlace g x0) fun (r2 : Int32) =>
 if r2 = 0 then
 some (-1001 : Int32)
 else
 if 0 ≤ x1 then
 bnd (m_X3_ranked g 0 x0 x1) fun (r29 : Int32) =>
 some r29
 else
 some (-1002 : Int32)
def m_X6_belongs (g : MG) (x0 : Int32) : Option Int32 :=
  bnd (m_X6_isKey g x0) fun (r1 : Int32) =>
 if r1 = 0 then
 some (-1002 : Int32)
 else
 bnd (m_X5_home g 0 x0) fun (r12 : Int32) =>
 some r12
def m_X6_gap (g : MG) (x0 : Int32) (x1 : Int32) : Option Int32 :=
  if x0 < 0 then
 some (-1002 : Int32)
 else
 if x1 < 0 then
 some (-1002 : Int32)
 else
 if x1 ≤ (1 : Int32) then
 bnd (m_X4_gapRanked g 0 x0) fun (r25 : Int32) =>
 if r25 = (-1005 : Int32) then
 some (-1005 : Int32)
 else
 if x1 = 0 then
 bnd (m_X4_gapLow g 0 r25) fun (r52 : Int32) =>
 some r52
 else
 bnd (m_X4_gapHigh g 0 r25) fun (r66 : Int32) =>
 some (r66 - (1 : Int32))
 else
 some (-1002 : Int32)
def m_X6_stray_L12 (k12 : (Int32 × Int32) → Option Int32) (g : MG) (x0 : Int32) (v2 : Int32) (v3 : Int32) : Option Int32 :=
  if (g.1 (21 + 15 * 0) 3) ≤ v3 then
 some (-1005 : Int32)
 else
 bnd (m_X5_isStray g 0 v3) fun (r31 : Int32) =>
 if r31 = 0 then
 k12 (v2, (v3 + (1 : Int32)))
 else
 if v2 = x0 then
 some v3
 else
 k12 ((v2 + (1 : Int32)), (v3 + (1 : Int32)))
def b_X6_stray_L12 (g : MG) (x0 : Int32) : ((Int32 × Int32) → Option Int32) → (Int32 × Int32) → Option Int32 := fun k x => m_X6_stray_L12 k g x0 x.1 x.2
def m_X6_stray (g : MG) (x0 : Int32) : Option Int32 :=
  if 0 ≤ x0 then
 lpo (b_X6_stray_L12 g x0) fuelN ((0 : Int32), (0 : Int32))
 else
 some (-1002 : Int32)
def m_X6_count (g : MG) (x0 : Int32) : Option Int32 :=
  if x0 = (0 : Int32) then
 some (g.1 (22 + 15 * 0) 3)
 else if x0 = (1 : Int32) then
 some (g.1 (22 + 15 * 0) 4)
 else if x0 = (2 : Int32) then
 bnd (m_X3_amountInTable g 0) fun (r97 : Int32) =>
 some r97
 else if x0 = (3 : Int32) then
 bnd (m_X3_amountAt g 0 (61 : Int32)) fun (r110 : Int32) =>
 some r110
 else if x0 = (4 : Int32) then
 some (g.1 (21 + 15 * 0) 3)
 else if x0 = (5 : Int32) then
 bnd (m_X5_strays g 0) fun (r129 : Int32) =>
 some r129
 else if x0 = (6 : Int32) then
 if (g.1 (20 + 15 * 0) 2) = 0 then
 some (0 : Int32)
 else
 some (1 : Int32)
 else if x0 = (7 : Int32) then
 bnd (m_X4_gaps g 0) fun (r156 : Int32) =>
 some r156
 else if x0 = (8 : Int32) then
 bnd (m_X4_freeKeys g 0) fun (r167 : Int32) =>
 some r167
 else if x0 = (9 : Int32) then
 some (g.1 (20 + 15 * 0) 3)
 else if x0 = (10 : Int32) then
 some (g.1 (20 + 15 * 0) 4)
 else if x0 = (11 : Int32) then
 some (g.1 1 3)
 else if x0 = (12 : Int32) then
 some (g.1 3 0)
 else 
 some (-1002 : Int32)
def m_X6_sliceMayHold (g : MG) (x0 : Int32) (x1 : Int32) : Option (Int32 × MG) :=
  bnd (m_X4_lowAt g 0 x0) fun (r8 : Int32) =>
 bnd (m_X4_highAt g 0 x0) fun (r20 : Int32) =>
 if x1 = (1 : Int32) then
 bnd2 (m_X2_truth g r8 (r20 - (1 : Int32)) (0 : Int32) (0 : Int32)) fun (r65 : Int32) (g65 : MG) =>
 if r65 = 0 then
 some ((0 : Int32), g65)
 else
 some ((1 : Int32), g65)
 else if x1 = (2 : Int32) then
 bnd2 (m_X2_someKeyMayHold g r8 (r20 - (1 : Int32))) fun (r84 : Int32) (g84 : MG) =>
 if bz r84 = true then some (r84, g84) else none
 else 
 some ((1 : Int32), g)
def m_X6_someFreeKeyMayHold_L2 (k2 : (Int32 × MG) → Option (Int32 × MG))  (v1 : Int32) (g : MG) : Option (Int32 × MG) :=
  if (g.1 (22 + 15 * 0) 3) < v1 then
 some ((0 : Int32), g)
 else
 bnd (m_X4_gapLow g 0 v1) fun (r24 : Int32) =>
 bnd (m_X4_gapHigh g 0 v1) fun (r36 : Int32) =>
 if (r36 - (1 : Int32)) < r24 then
 k2 ((v1 + (1 : Int32)), g)
 else
 bnd2 (m_X2_someKeyMayHold g r24 (r36 - (1 : Int32))) fun (r53 : Int32) (g53 : MG) =>
 if r53 = 0 then
 k2 ((v1 + (1 : Int32)), g53)
 else
 some ((1 : Int32), g53)
def b_X6_someFreeKeyMayHold_L2  : ((Int32 × MG) → Option (Int32 × MG)) → (Int32 × MG) → Option (Int32 × MG) := fun k x => m_X6_someFreeKeyMayHold_L2 k  x.1 x.2
def m_X6_someFreeKeyMayHold (g : MG)  : Option (Int32 × MG) :=
  lpo (b_X6_someFreeKeyMayHold_L2) fuelN ((0 : Int32), g)
def m_X6_markLooked_L9 (k9 : (Int32 × MG) → Option MG) (x0 : Int32) (v2 : Int32) (g : MG) : Option MG :=
  if (g.1 (22 + 15 * 0) 3) ≤ v2 then
 if (g.1 (20 + 15 * 0) 2) = 0 then
 some g
 else
 if x0 = (2 : Int32) then
 bnd2 (m_X6_someFreeKeyMayHold g) fun (r73 : Int32) (g73 : MG) =>
 if r73 = 0 then
 some g73
 else
 bnd (m_X0_write g73 5 62 (60 : Int32) (1 : Int32)) fun (g86 : MG) =>
 some g86
 else
 bnd (m_X0_write g 5 62 (60 : Int32) (1 : Int32)) fun (g86 : MG) =>
 some g86
 else
 bnd2 (m_X6_sliceMayHold g v2 x0) fun (r26 : Int32) (g26 : MG) =>
 if r26 = 0 then
 k9 ((v2 + (1 : Int32)), g26)
 else
 bnd (m_X4_numberAt g26 0 v2) fun (r44 : Int32) =>
 bnd (m_X0_write g26 5 62 r44 (1 : Int32)) fun (g48 : MG) =>
 k9 ((v2 + (1 : Int32)), g48)
def b_X6_markLooked_L9 (x0 : Int32) : ((Int32 × MG) → Option MG) → (Int32 × MG) → Option MG := fun k x => m_X6_markLooked_L9 k x0 x.1 x.2
def m_X6_markLooked (g : MG) (x0 : Int32) : Option MG :=
  bnd (m_X0_clear g 5 62) fun (g4 : MG) =>
 lpo (b_X6_markLooked_L9 x0) fuelN ((0 : Int32), g4)
def m_X6_isLooked (g : MG) (x0 : Int32) : Option Int32 :=
  bnd (m_X3_placeOf g 0 x0) fun (r12 : Int32) =>
 bnd (m_X0_at g 5 62 r12) fun (r15 : Int32) =>
 if r15 = (1 : Int32) then
 some (1 : Int32)
 else
 some (0 : Int32)
def m_X6_rowPasses (g : MG) (x0 : Int32) : Option (Int32 × MG) :=
  bnd (m_X3_keyOf g 0 x0) fun (r8 : Int32) =>
 bnd (m_X3_valueOf g 0 x0) fun (r27 : Int32) =>
 bnd2 (m_X2_truth g r8 r8 (1 : Int32) r27) fun (r30 : Int32) (g30 : MG) =>
 if r30 = (2 : Int32) then
 some ((1 : Int32), g30)
 else
 some ((0 : Int32), g30)
def m_X6_isAnswer (g : MG) (x0 : Int32) : Option (Int32 × MG) :=
  bnd (m_X6_isLooked g x0) fun (r2 : Int32) =>
 if r2 = 0 then
 some ((0 : Int32), g)
 else
 bnd2 (m_X6_rowPasses g x0) fun (r10 : Int32) (g10 : MG) =>
 if r10 = 0 then
 some ((0 : Int32), g10)
 else
 some ((1 : Int32), g10)
def m_X6_answerAmount_L4 (k4 : (Int32 × Int32 × MG) → Option (Int32 × MG))  (v1 : Int32) (v2 : Int32) (g : MG) : Option (Int32 × MG) :=
  if (g.1 (21 + 15 * 0) 3) ≤ v2 then
 some (v1, g)
 else
 bnd2 (m_X6_isAnswer g v2) fun (r20 : Int32) (g20 : MG) =>
 if r20 = 0 then
 k4 (v1, (v2 + (1 : Int32)), g20)
 else
 k4 ((v1 + (1 : Int32)), (v2 + (1 : Int32)), g20)
def b_X6_answerAmount_L4  : ((Int32 × Int32 × MG) → Option (Int32 × MG)) → (Int32 × Int32 × MG) → Option (Int32 × MG) := fun k x => m_X6_answerAmount_L4 k  x.1 x.2.1 x.2.2
def m_X6_answerAmount (g : MG)  : Option (Int32 × MG) :=
  lpo (b_X6_answerAmount_L4) fuelN ((0 : Int32), (0 : Int32), g)
def m_X6_answerSum_L4 (k4 : (Int32 × Int32 × MG) → Option (Int32 × MG))  (v1 : Int32) (v2 : Int32) (g : MG) : Option (Int32 × MG) :=
  if (g.1 (21 + 15 * 0) 3) ≤ v2 then
 some (v1, g)
 else
 bnd2 (m_X6_isAnswer g v2) fun (r20 : Int32) (g20 : MG) =>
 if r20 = 0 then
 k4 (v1, (v2 + (1 : Int32)), g20)
 else
 bnd (m_X3_valueOf g20 0 v2) fun (r35 : Int32) =>
 k4 ((v1 + r35), (v2 + (1 : Int32)), g20)
def b_X6_answerSum_L4  : ((Int32 × Int32 × MG) → Option (Int32 × MG)) → (Int32 × Int32 × MG) → Option (Int32 × MG) := fun k x => m_X6_answerSum_L4 k  x.1 x.2.1 x.2.2
def m_X6_answerSum (g : MG)  : Option (Int32 × MG) :=
  lpo (b_X6_answerSum_L4) fuelN ((0 : Int32), (0 : Int32), g)
def m_X6_lookedPlaces_L4 (k4 : (Int32 × Int32) → Option Int32) (g : MG) (v1 : Int32) (v2 : Int32) : Option Int32 :=
  if (62 : Int32) ≤ v2 then
 some v1
 else
 bnd (m_X0_at g 5 62 v2) fun (r16 : Int32) =>
 k4 ((v1 + r16), (v2 + (1 : Int32)))
def b_X6_lookedPlaces_L4 (g : MG) : ((Int32 × Int32) → Option Int32) → (Int32 × Int32) → Option Int32 := fun k x => m_X6_lookedPlaces_L4 k g x.1 x.2
def m_X6_lookedPlaces (g : MG)  : Option Int32 :=
  lpo (b_X6_lookedPlaces_L4 g) fuelN ((0 : Int32), (0 : Int32))
def m_X6_lookedRows_L4 (k4 : (Int32 × Int32) → Option Int32) (g : MG) (v1 : Int32) (v2 : Int32) : Option Int32 :=
  if (g.1 (21 + 15 * 0) 3) ≤ v2 then
 some v1
 else
 bnd (m_X6_isLooked g v2) fun (r20 : Int32) =>
 if r20 = 0 then
 k4 (v1, (v2 + (1 : Int32)))
 else
 k4 ((v1 + (1 : Int32)), (v2 + (1 : Int32)))
def b_X6_lookedRows_L4 (g : MG) : ((Int32 × Int32) → Option Int32) → (Int32 × Int32) → Option Int32 := fun k x => m_X6_lookedRows_L4 k g x.1 x.2
def m_X6_lookedRows (g : MG)  : Option Int32 :=
  lpo (b_X6_lookedRows_L4 g) fuelN ((0 : Int32), (0 : Int32))
def m_X6_wholeAmount_L4 (k4 : (Int32 × Int32 × MG) → Option (Int32 × MG))  (v1 : Int32) (v2 : Int32) (g : MG) : Option (Int32 × MG) :=
  if (g.1 (21 + 15 * 0) 3) ≤ v2 then
 some (v1, g)
 else
 bnd (m_X3_isInTable g 0 v2) fun (r26 : Int32) =>
 if r26 = 0 then
 k4 (v1, (v2 + (1 : Int32)), g)
 else
 bnd2 (m_X6_rowPasses g v2) fun (r34 : Int32) (g34 : MG) =>
 if r34 = 0 then
 k4 (v1, (v2 + (1 : Int32)), g34)
 else
 k4 ((v1 + (1 : Int32)), (v2 + (1 : Int32)), g34)
def b_X6_wholeAmount_L4  : ((Int32 × Int32 × MG) → Option (Int32 × MG)) → (Int32 × Int32 × MG) → Option (Int32 × MG) := fun k x => m_X6_wholeAmount_L4 k  x.1 x.2.1 x.2.2
def m_X6_wholeAmount (g : MG)  : Option (Int32 × MG) :=
  lpo (b_X6_wholeAmount_L4) fuelN ((0 : Int32), (0 : Int32), g)
def m_X6_ask (g : MG) (x0 : Int32) : Option (Int32 × MG) :=
  bnd (m_X2_isFaulty g) fun (r4 : Int32) =>
 if r4 = 0 then
 bnd (m_X6_markLooked g (g.1 (20 + 15 * 0) 3)) fun (g22 : MG) =>
 if x0 = (0 : Int32) then
 bnd2 (m_X6_answerAmount g22) fun (r65 : Int32) (g65 : MG) =>
 some (r65, g65)
 else if x0 = (1 : Int32) then
 bnd2 (m_X6_answerSum g22) fun (r70 : Int32) (g70 : MG) =>
 some (r70, g70)
 else if x0 = (2 : Int32) then
 bnd (m_X6_lookedPlaces g22) fun (r75 : Int32) =>
 some (r75, g22)
 else if x0 = (3 : Int32) then
 bnd (m_X6_lookedRows g22) fun (r80 : Int32) =>
 some (r80, g22)
 else if x0 = (4 : Int32) then
 bnd2 (m_X6_wholeAmount g22) fun (r85 : Int32) (g85 : MG) =>
 some (r85, g85)
 else if x0 = (5 : Int32) then
 bnd2 (m_X6_wholeAmount g22) fun (r90 : Int32) (g90 : MG) =>
 bnd2 (m_X6_answerAmount g90) fun (r94 : Int32) (g94 : MG) =>
 some ((r90 - r94), g94)
 else 
 some ((-1002 : Int32), g22)
 else
 some ((-1001 : Int32), g)
def m_X6_answer_L37 (k37 : (Int32 × Int32 × MG) → Option (Int32 × MG)) (x0 : Int32) (v2 : Int32) (v3 : Int32) (g : MG) : Option (Int32 × MG) :=
  if (g.1 (21 + 15 * 0) 3) ≤ v3 then
 some ((-1005 : Int32), g)
 else
 bnd2 (m_X6_isAnswer g v3) fun (r53 : Int32) (g53 : MG) =>
 if r53 = 0 then
 k37 (v2, (v3 + (1 : Int32)), g53)
 else
 if v2 = x0 then
 some (v3, g53)
 else
 k37 ((v2 + (1 : Int32)), (v3 + (1 : Int32)), g53)
def b_X6_answer_L37 (x0 : Int32) : ((Int32 × Int32 × MG) → Option (Int32 × MG)) → (Int32 × Int32 × MG) → Option (Int32 × MG) := fun k x => m_X6_answer_L37 k x0 x.1 x.2.1 x.2.2
def m_X6_answer (g : MG) (x0 : Int32) : Option (Int32 × MG) :=
  bnd (m_X2_isFaulty g) fun (r4 : Int32) =>
 if r4 = 0 then
 if 0 ≤ x0 then
 bnd (m_X6_markLooked g (g.1 (20 + 15 * 0) 3)) fun (g30 : MG) =>
 lpo (b_X6_answer_L37 x0) fuelN ((0 : Int32), (0 : Int32), g30)
 else
 some ((-1002 : Int32), g)
 else
 some ((-1001 : Int32), g)
def m_X6_passes (g : MG) (x0 : Int32) : Option (Int32 × MG) :=
  bnd (m_X3_has g 0 x0) fun (r8 : Int32) =>
 if r8 = 0 then
 some ((-1001 : Int32), g)
 else
 bnd (m_X2_isFaulty g) fun (r18 : Int32) =>
 if r18 = 0 then
 bnd2 (m_X6_rowPasses g x0) fun (r30 : Int32) (g30 : MG) =>
 if r30 = 0 then
 some ((0 : Int32), g30)
 else
 some ((1 : Int32), g30)
 else
 some ((-1001 : Int32), g)
def m_X6_unfit (g : MG) (x0 : Int32) : Option Int32 :=
  bnd (m_X4_positionOf g 0 x0) fun (r8 : Int32) =>
 if r8 = (-1005 : Int32) then
 some (-1001 : Int32)
 else
 bnd (m_X4_lowAt g 0 r8) fun (r35 : Int32) =>
 bnd (m_X4_highAt g 0 r8) fun (r46 : Int32) =>
 bnd (m_X5_unfitRows g 0 r35 r46) fun (r49 : Int32) =>
 some r49
def m_X6_unevenness (g : MG) (x0 : Int32) (x1 : Int32) (x2 : Int32) : Option Int32 :=
  bnd (m_X3_amountWithKeys g 0 x0 (0 : Int32) x1) fun (r10 : Int32) =>
 some (if 0 ≤ (x2 - ((2 : Int32) * r10)) then (x2 - ((2 : Int32) * r10)) else 0 - (x2 - ((2 : Int32) * r10)))
def m_X6_bestSplit_L92 (k92 : (Int32 × Int32 × Int32) → Option Int32) (g : MG) (x0 : Int32) (c3 : Int32) (c4 : Int32) (c5 : Int32) (v6 : Int32) (v7 : Int32) (v8 : Int32) : Option Int32 :=
  if (g.1 (21 + 15 * 0) 3) ≤ v8 then
 some v6
 else
 bnd (m_X3_keyOf g 0 v8) fun (r116 : Int32) =>
 bnd (m_X3_placeOf g 0 v8) fun (r132 : Int32) =>
 if r132 = x0 then
 if (r116 + (1 : Int32)) ≤ c3 then
 k92 (v6, v7, (v8 + (1 : Int32)))
 else
 if c4 ≤ (r116 + (1 : Int32)) then
 k92 (v6, v7, (v8 + (1 : Int32)))
 else
 bnd (m_X6_unevenness g x0 (r116 + (1 : Int32)) c5) fun (r158 : Int32) =>
 if r158 < v7 then
 k92 ((r116 + (1 : Int32)), r158, (v8 + (1 : Int32)))
 else
 if r158 = v7 then
 if v6 ≤ (r116 + (1 : Int32)) then
 k92 (v6, v7, (v8 + (1 : Int32)))
 else
 k92 ((r116 + (1 : Int32)), r158, (v8 + (1 : Int32)))
 else
 k92 (v6, v7, (v8 + (1 : Int32)))
 else
 k92 (v6, v7, (v8 + (1 : Int32)))
def b_X6_bestSplit_L92 (g : MG) (x0 : Int32) (c3 : Int32) (c4 : Int32) (c5 : Int32) : ((Int32 × Int32 × Int32) → Option Int32) → (Int32 × Int32 × Int32) → Option Int32 := fun k x => m_X6_bestSplit_L92 k g x0 c3 c4 c5 x.1 x.2.1 x.2.2
def m_X6_bestSplit (g : MG) (x0 : Int32) : Option Int32 :=
  bnd (m_X4_positionOf g 0 x0) fun (r8 : Int32) =>
 if r8 = (-1005 : Int32) then
 some (-1001 : Int32)
 else
 bnd (m_X4_lowAt g 0 r8) fun (r31 : Int32) =>
 bnd (m_X4_highAt g 0 r8) fun (r43 : Int32) =>
 if (2 : Int32) ≤ (r43 - r31) then
 bnd (m_X3_amountAt g 0 x0) fun (r68 : Int32) =>
 bnd (m_X6_unevenness g x0 (r31 + (1 : Int32)) r68) fun (r84 : Int32) =>
 lpo (b_X6_bestSplit_L92 g x0 r31 r43 r68) fuelN ((r31 + (1 : Int32)), r84, (0 : Int32))
 else
 some (-1005 : Int32)
def m_X6_heaviest_L8 (k8 : (Int32 × Int32 × Int32) → Option Int32) (g : MG) (v1 : Int32) (v2 : Int32) (v3 : Int32) : Option Int32 :=
  if (g.1 (22 + 15 * 0) 3) ≤ v3 then
 some v1
 else
 bnd (m_X4_numberAt g 0 v3) fun (r30 : Int32) =>
 bnd (m_X3_amountAt g 0 r30) fun (r44 : Int32) =>
 if v2 < r44 then
 k8 (r30, r44, (v3 + (1 : Int32)))
 else
 if r44 = v2 then
 if v1 ≤ r30 then
 k8 (v1, v2, (v3 + (1 : Int32)))
 else
 k8 (r30, r44, (v3 + (1 : Int32)))
 else
 k8 (v1, v2, (v3 + (1 : Int32)))
def b_X6_heaviest_L8 (g : MG) : ((Int32 × Int32 × Int32) → Option Int32) → (Int32 × Int32 × Int32) → Option Int32 := fun k x => m_X6_heaviest_L8 k g x.1 x.2.1 x.2.2
def m_X6_heaviest (g : MG)  : Option Int32 :=
  lpo (b_X6_heaviest_L8 g) fuelN ((-1005 : Int32), (-1 : Int32), (0 : Int32))
