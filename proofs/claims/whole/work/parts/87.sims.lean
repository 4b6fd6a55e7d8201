/-! all methods answer alike from related memories; the first memories are related -/
theorem h_kept {QP : QT} {g h : MG} (hR : Rel QP g h) : g.1 1 3 = h.1 0 15 := by
  obtain ⟨k, -, a1, a2, -⟩ := hR.2.1
  rw [a1, a2]
theorem h_len {g h : MG} (hR : Rel QPx g h) : g.1 3 0 = h.1 0 16 := by
  obtain ⟨n, -, e1, e2, -⟩ := hR.2.2
  rw [e1, e2]
theorem sims_x : Sims (Rel QPx) := by
  refine ⟨fun g h x y hR => s_put hR x y, fun g h x y hR => s_stage hR x y, fun g h x hR => s_take hR x, fun g h x y hR => s_rekey hR x y, fun g h x y hR => s_addSlice hR x y, fun g h x hR => s_dropSlice hR x, fun g h x hR => s_detach hR x, fun g h x y hR => s_attach hR x y, fun g h x y _ hR => s_swap hR x y, fun g h x y hR => s_split hR x y, fun g h x y hR => s_merge hR x y, fun g h x hx hR => s_useDefault hR x hx, fun g h hR => s_mend hR, fun g h x y hR => s_set hR x y, fun g h x _ hR => s_type hR x, fun g h hR => s_clearText hR, fun g h hR => s_fault hR, fun g h hR => s_undo hR, fun g h hR => s_keep hR, fun g h hR => s_restore hR, ?_, ?_, ?_, ?_, ?_, ?_, ?_, ?_, fun g h x hR => s_ask hR x, fun g h x hR => s_answer hR x, fun g h x y hR => s_looksInto hR x y, fun g h x hR => s_passes hR x, fun g h hR => s_spared hR, ?_, ?_, ?_⟩
  · intro g h x y hR
    obtain ⟨n, c, m, u, hT⟩ := hR.1
    exact p_row hT x y
  · intro g h x y hR
    obtain ⟨n, c, m, u, hT⟩ := hR.1
    exact p_slice hT x y
  · intro g h x hR
    obtain ⟨n, c, m, u, hT⟩ := hR.1
    exact p_ordered hT x
  · intro g h x y hR
    obtain ⟨n, c, m, u, hT⟩ := hR.1
    exact p_lies hT x y
  · intro g h x hR
    obtain ⟨n, c, m, u, hT⟩ := hR.1
    exact p_belongs hT x
  · intro g h x y hR
    obtain ⟨n, c, m, u, hT⟩ := hR.1
    exact p_gap hT x y
  · intro g h x hR
    obtain ⟨n, c, m, u, hT⟩ := hR.1
    exact p_stray hT x
  · intro g h x hR
    obtain ⟨n, c, m, u, hT⟩ := hR.1
    exact p_count hT (h_kept hR) (h_len hR) x
  · intro g h x hR
    obtain ⟨n, c, m, u, hT⟩ := hR.1
    exact p_unfit hT x
  · intro g h x hR
    obtain ⟨n, c, m, u, hT⟩ := hR.1
    exact p_bestSplit hT x
  · intro g h hR
    obtain ⟨n, c, m, u, hT⟩ := hR.1
    exact p_heaviest hT
theorem rel_0 : Rel QPx g_c0 g_m0 := by
  refine ⟨⟨0, 0, 0, fun _ => 0, ⟨⟨rfl, by omega, rfl, by omega⟩, ⟨Or.inr rfl, ⟨by decide, by decide⟩, Or.inl rfl⟩, fun i hi => absurd hi (Nat.not_lt_zero i), fun q hq => absurd hq (Nat.not_lt_zero q), fun q r hq => absurd hq (Nat.not_lt_zero q), by decide⟩, ⟨by omega, fun j hj => absurd hj (Nat.not_lt_zero j), fun q hq => absurd hq (Nat.not_lt_zero q), fun i j _ hj => absurd hj (Nat.not_lt_zero j)⟩, ⟨rfl, rfl, rfl, rfl, rfl, rfl⟩, fun i hi => absurd hi (Nat.not_lt_zero i), fun j hj => absurd hj (Nat.not_lt_zero j)⟩, ⟨0, by omega, rfl, rfl, fun j hj => ⟨Nat.succ_pos j, hj⟩, fun i j _ _ e => Nat.succ.inj e, fun j hj => absurd hj (Nat.not_lt_zero j), Or.inl ⟨rfl, rfl⟩⟩, 0, by omega, rfl, rfl, Nat.le_refl _, rfl, rfl, rfl, rfl, fun hx => ?_, fun hx => ?_, rfl, trivial⟩
  · exact absurd hx (show ¬ ((0 : Int32) = 2 ∨ (0 : Int32) = 3 ∨ (0 : Int32) = 4) by decide)
  · exact absurd hx (show ¬ (0 : Int32) = 4 by decide)
