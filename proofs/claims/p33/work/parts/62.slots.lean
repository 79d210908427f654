theorem q_slotNo {v : Int32} (h : v < 0 ∨ nI 2 ≤ v) : kX9_isSlot v = some 0 := by
  unfold kX9_isSlot kX9_isSlot_J1
  by_cases q : v < 0
  · rw [if_pos q]
  · rw [if_neg q, if_pos (show (2 : Int32) ≤ v from h.resolve_left q)]
theorem q_slot {k : Nat} (h : k < 2) : kX9_isSlot (nI k) = some 1 := by
  unfold kX9_isSlot
  rw [if_neg (nI_pos (by omega)), if_neg (by rw [fa_lit 2]; exact nI_ge (by omega) (by omega))]
