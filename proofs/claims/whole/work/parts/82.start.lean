/-! ===== the law's start: nothing said yet ===== -/
theorem SR0 : SR 0 0 0 1 zf zf zf 0 zf 0 (upd zf (1 : Int32).toNatClampNeg 1) zf zf zf := by
  refine ⟨(0, 1, fun _ => 0), 0, 0, fun _ => (0, 1, fun _ => 0), ⟨Nat.zero_le _, (show 1 ≤ 4 by omega), fun _ _ => rfl, fun e he => absurd he (Nat.not_lt_zero _), fun e he => absurd he (Nat.not_lt_zero _)⟩, rfl, rfl, ⟨fun e _ => rfl, fun e => Nat.zero_le _, fun e _ => rfl⟩, ⟨?_, ?_, fun e he => ?_⟩, Or.inl rfl, rfl, rfl, rfl, ⟨by omega, by omega, fun j hj => absurd hj (Nat.not_lt_zero _)⟩, fun k hk => Or.inl ⟨rfl, rfl⟩⟩
  · rw [cl1, pk_un (by omega)]; rfl
  · rw [cl1, Nat.zero_add, pk_us]; rfl
  · rw [cl1, pk_un (by omega)]; rfl
theorem TR0 : TR 0 zf 0 zf := ⟨0, ⟨by omega, fun j hj => rfl⟩, rfl, rfl⟩
