/-! what is used of doubles -/
theorem sp_all_lt {r : Int32 × Int32 × Int32} {z : UInt64} (h : spk r) (hd : DR r.1 r.2.1 r.2.2 z) : ¬ Op.cmpValue (FP.dcmp z FP.dconst0) .g < 0 := sorry
theorem sp_all_gt {r : Int32 × Int32 × Int32} {z : UInt64} (h : spk r) (hd : DR r.1 r.2.1 r.2.2 z) : ¬ 0 < Op.cmpValue (FP.dcmp z FP.dconst1) .l := sorry
theorem sp_all_eq {r : Int32 × Int32 × Int32} {z : UInt64} (h : spz r) (hd : DR r.1 r.2.1 r.2.2 z) : Op.cmpValue (FP.dcmp z FP.dconst0) .l = 0 := sorry
