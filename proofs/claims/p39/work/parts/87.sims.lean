/-! all methods answer alike from related memories; the first memories are related -/
theorem h_kept {QP : QT} {g h : MG} (hR : Rel QP g h) : g.1 1 3 = h.1 0 15 := by
  obtain ⟨k, -, a1, a2, -⟩ := hR.2.1
  rw [a1, a2]
theorem h_len {g h : MG} (hR : Rel QPx g h) : g.1 3 0 = h.1 0 16 := by
  obtain ⟨n, -, e1, e2, -⟩ := hR.2.2
  rw [e1, e2]
theorem rel_0 : Rel QPx g_c0 g_m0 := by
  refine ⟨⟨0, 0, 0, fun _ => 0, ⟨⟨rfl, by omega, rfl, by omega⟩, ⟨Or.inr rfl, ⟨by decide, by decide⟩, Or.inl rfl⟩, fun i hi => absurd hi (Nat.not_lt_zero i), fun q hq => absurd hq (Nat.not_lt_zero q), fun q r hq => absurd hq (Nat.not_lt_zero q), by decide⟩, ⟨by omega, fun j hj => absurd hj (Nat.not_lt_zero j), fun q hq => absurd hq (Nat.not_lt_zero q), fun i j _ hj => absurd hj (Nat.not_lt_zero j)⟩, ⟨rfl, rfl, rfl, rfl, rfl, rfl⟩, fun i hi => absurd hi (Nat.not_lt_zero i), fun j hj => absurd hj (Nat.not_lt_zero j)⟩, ⟨0, by omega, rfl, rfl, fun j hj => ⟨Nat.succ_pos j, hj⟩, fun i j _ _ e => Nat.succ.inj e, fun j hj => absurd hj (Nat.not_lt_zero j), Or.inl ⟨rfl, rfl⟩⟩, 0, by omega, rfl, rfl, Nat.le_refl _, rfl, rfl, rfl, rfl, fun hx => ?_, fun hx => ?_, rfl, trivial⟩
  · exact absurd hx (show ¬ ((0 : Int32) = 2 ∨ (0 : Int32) = 3 ∨ (0 : Int32) = 4) by decide)
  · exact absurd hx (show ¬ (0 : Int32) = 4 by decide)
