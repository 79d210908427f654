/-! exponents -/
theorem exP (v : Int32) : (v < -60 ∨ 60 < v) ∨ ∃ j : Nat, j < 121 ∧ v = nI j - 60 := by
  by_cases a : v < -60
  · exact Or.inl (Or.inl a)
  by_cases b : 60 < v
  · exact Or.inl (Or.inr b)
  right
  have a60 : (-60 : Int32).toInt = -60 := by decide
  have b60 : (60 : Int32).toInt = 60 := by decide
  rw [fa_lt, a60] at a
  rw [fa_lt, b60] at b
  refine ⟨(v.toInt + 60).toNat, by omega, ?_⟩
  have e : (nI (v.toInt + 60).toNat).toInt = v.toInt + 60 := by rw [nI_toInt (by omega)]; omega
  rw [fa_eq, fb_subI (by rw [e, b60]; omega) (by rw [e, b60]; omega), e, b60]; omega
theorem exIn : ∀ j, j < 121 → ¬ (nI j - 60 < (-60 : Int32)) ∧ ¬ ((60 : Int32) < nI j - 60) ∧ (nI j - 60 + 60 : Int32) = nI j ∧ (60 + (nI j - 60) : Int32) = nI j := by decide +kernel
theorem q_exOut {v : Int32} (h : v < -60 ∨ 60 < v) : kX9_isExponent v = some 0 := by
  unfold kX9_isExponent kX9_isExponent_J1
  by_cases a : v < -60
  · rw [if_pos a]
  · rw [if_neg a, if_pos (h.resolve_left a)]
theorem q_exIn {j : Nat} (h : j < 121) : kX9_isExponent (nI j - 60) = some 1 := by
  unfold kX9_isExponent
  rw [if_neg (exIn j h).1, if_neg (exIn j h).2.1]
/-! what the bracket tells -/
theorem SR.prep {ss np dc dr : Int32} {da cells filled : Nat → Int32} {pr : Int32} {coef : Nat → Int32} {saved : Int32} {now hist kept isk : Nat → Int32} (h : SR ss np dc dr da cells filled pr coef saved now hist kept isk) (oe T prod : Nat → Int32) : ∃ pr' oe' T' coef' prod' d, kX0_prepare pr oe T coef prod dc dr da = some (pr', oe', T', coef', prod') ∧ SR ss np dc dr da cells filled pr' coef' saved now hist kept isk ∧ VS d ∧ dc = nI d.1 ∧ dr = nI d.2.1 ∧ Rp da d.2.2 ∧ BlR now 0 d ∧ ∀ i, i < 121 → coef' i = brD d i := by
  obtain ⟨d, s, n, H, hV, rfl, rfl, hA, hM, a6, rfl, rfl, rfl, a10, a11⟩ := h
  by_cases q : pr = 0
  · subst q
    obtain ⟨oe', T', cf', pr', g1, g2⟩ := q_prepareNew (oe := oe) (T := T) (cf := coef) (pr := prod) hA hV
    exact ⟨1, oe', T', cf', pr', d, g1, ⟨d, s, n, H, hV, rfl, rfl, hA, hM, Or.inr g2, rfl, rfl, rfl, a10, a11⟩, hV, rfl, rfl, hA, hM, g2⟩
  · have g2 := a6.resolve_left q
    refine ⟨pr, oe, T, coef, prod, d, ?_, ⟨d, s, n, H, hV, rfl, rfl, hA, hM, a6, rfl, rfl, rfl, a10, a11⟩, hV, rfl, rfl, hA, hM, g2⟩
    unfold kX0_prepare
    rw [if_neg q]
theorem nI60 : ∀ j, j < 121 → ∀ k, k < 121 → (nI j - 60 : Int32) = nI k - 60 → j = k := fun j hj k hk h => by
  have e1 := (exIn j hj).2.2.1
  have e2 := (exIn k hk).2.2.1
  rw [h, e2] at e1
  exact ((nI_eq (by omega) (by omega)).mp e1).symm
/-! the normalized bracket -/
theorem sgsStep : ∀ c, c < 8 → ∀ k, k < 17 → (nI k - nI c + 1 : Int32) = nI (k + 2) - nI (c + 1) ∧ (nI k - nI c + -1 : Int32) = nI k - nI (c + 1) := by decide +kernel
theorem sgsEnd : ∀ c, c < 9 → ∀ k, k < 17 → (nI k - nI c : Int32) = nI (k + 8 - c) - 8 := by decide +kernel
theorem sgs_rng (m : Int32) : ∀ c, c ≤ 8 → ∃ k, k ≤ 2 * c ∧ sgs m c = nI k - nI c
  | 0, _ => ⟨0, by omega, show (0 : Int32) = nI 0 - nI 0 by decide⟩
  | c + 1, h => by
    obtain ⟨k, k1, k2⟩ := sgs_rng m c (by omega)
    obtain ⟨s1, s2⟩ := sgsStep c (by omega) k (by omega)
    unfold sgs
    rw [k2]
    unfold sgn
    by_cases q : bt m (4 * c) = bt m (4 * c + 3)
    · rw [if_pos q, s1]; exact ⟨k + 2, by omega, rfl⟩
    · rw [if_neg q, s2]; exact ⟨k, by omega, rfl⟩
theorem sgs_8 (m : Int32) {c : Nat} (h : c ≤ 8) : ∃ k, k < 17 ∧ sgs m c = nI k - 8 := by
  obtain ⟨k, k1, k2⟩ := sgs_rng m c h
  exact ⟨k + 8 - c, by omega, k2.trans (sgsEnd c (by omega) k (by omega))⟩
theorem nrmX : ∀ k, k < 17 → ∀ j, j < 121 → (nI j - 60 + 3 * (nI k - 8) : Int32) = nI (j + 3 * k) - 84 := by decide +kernel
theorem nrmLo : ∀ n, n < 24 → (nI n - 84 + 60 : Int32) < 0 ∧ (nI n - 84 : Int32) < -60 := by decide +kernel
theorem nrmHi : ∀ n, n < 24 → (121 : Int32) ≤ (nI (n + 145) - 84 + 60) ∧ (60 : Int32) < nI (n + 145) - 84 := by decide +kernel
theorem nrmIn : ∀ n, n < 121 → (nI (n + 24) - 84 : Int32) = nI n - 60 := by decide +kernel
theorem nrmPar : ∀ k, k < 17 → (((nI k - 8) &&& 1 : Int32) = 0 ↔ irem (nI k - 8) 2 = 0) := by decide +kernel
