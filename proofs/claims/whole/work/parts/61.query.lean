/-! ===== queries ===== -/
theorem t_crossingCount {d : St} {now : Nat → Int32} (hM : BlR now 0 d) : kX10_crossingCount now = some (nI d.1) := by
  unfold kX10_crossingCount
  rw [m_crossings (BlR.mr.mp hM), bnd1_e]
theorem t_circleCount {d : St} {now : Nat → Int32} (hM : BlR now 0 d) : kX10_circleCount now = some (nI d.2.1) := by
  have d1 : now (1 : Int32).toNatClampNeg = nI d.2.1 := by rw [cl1]; exact hM.2.1
  have c1 : ∀ (α : Type) (k : Option α), ck 1 34 k = k := fun α k => by rw [fa_lit 1]; exact ck_nI (by omega) (by omega)
  unfold kX10_circleCount
  rw [c1, d1]
theorem t_componentCount {d : St} {da now : Nat → Int32} (hV : VS d) (hA : Rp da d.2.2) (hM : BlR now 0 d) (lab : Nat → Int32) : ∃ r lab', kX9_componentCount (nI d.1) (nI d.2.1) da = some r ∧ kX10_componentCount now lab = some (r, lab') := by
  obtain ⟨lab', e⟩ := m_componentCount (lab := lab) (BlR.mr.mp hM) hV
  unfold kX9_componentCount
  rw [q_count hA hV, bnd1_e, nI_add]
  exact ⟨_, _, rfl, e⟩
theorem t_partCount {d : St} {da now : Nat → Int32} (hV : VS d) (hA : Rp da d.2.2) (hM : BlR now 0 d) (lab : Nat → Int32) : ∃ r lab', kX9_partCount (nI d.1) (nI d.2.1) da = some r ∧ kX10_partCount now lab = some (r, lab') := by
  obtain ⟨lab', e⟩ := m_partCount (lab := lab) (BlR.mr.mp hM) hV
  unfold kX9_partCount
  rw [q_parts hA hV, bnd1_e, nI_add]
  exact ⟨_, _, rfl, e⟩
theorem t_faceCount {d : St} {da now : Nat → Int32} (hV : VS d) (hA : Rp da d.2.2) (hM : BlR now 0 d) (met : Nat → Int32) : ∃ r met', kX9_faceCount (nI d.1) (nI d.2.1) da = some r ∧ kX10_faceCount now met = some (r, met') := by
  obtain ⟨met', e⟩ := m_faceCount (met := met) (BlR.mr.mp hM) hV
  unfold kX9_faceCount
  rw [q_faces hA hV, bnd1_e, fa_lit 2, pk_mul, nI_add, Nat.add_comm]
  exact ⟨_, _, rfl, e⟩
theorem t_genus {d : St} {da now : Nat → Int32} (hV : VS d) (hA : Rp da d.2.2) (hM : BlR now 0 d) (lab met : Nat → Int32) : ∃ r lab' met', kX9_genus (nI d.1) (nI d.2.1) da = some r ∧ kX10_genus now lab met = some (r, lab', met') := by
  obtain ⟨p, lab', e1, e2⟩ := t_partCount hV hA hM lab
  obtain ⟨q, met', e3, e4⟩ := t_faceCount hV hA hM met
  unfold kX9_genus kX10_genus
  rw [e1, bnd1_e, e3, bnd1_e, m_crossings (BlR.mr.mp hM), bnd1_e, e2, bnd2_e, e4, bnd2_e]
  exact ⟨_, _, _, rfl, rfl⟩
theorem t_isAlternating {d : St} {da now : Nat → Int32} (hV : VS d) (hA : Rp da d.2.2) (hM : BlR now 0 d) : ∃ r, kX9_isAlternating (nI d.1) da = some r ∧ kX10_isAlternating now = some r := by
  obtain ⟨g1, g2⟩ := m_alt (BlR.mr.mp hM) hV
  unfold kX9_isAlternating
  rcases q_alt hA hV with ⟨h, e⟩ | ⟨h, e⟩
  · rw [e, bnd1_e, if_neg (by decide)]
    exact ⟨_, rfl, g1 h⟩
  · rw [e, bnd1_e, if_pos rfl]
    exact ⟨_, rfl, g2 h⟩
theorem t_stateLoops {d : St} {da now : Nat → Int32} (hV : VS d) (hA : Rp da d.2.2) (hM : BlR now 0 d) (v : Int32) (oe lab : Nat → Int32) : ∃ r oe' lab', kX9_stateLoops v (nI d.1) (nI d.2.1) da oe = some (r, oe') ∧ kX10_stateLoops v now lab = some (r, lab') := by
  have hc := hV.1
  have M := BlR.mr.mp hM
  have n1 : ¬ ((1 : Int32) = 0) := by decide
  have p8 : 2 ^ d.1 ≤ 2 ^ 8 := Nat.pow_le_pow_right (by omega) hc
  have p1 : 1 ≤ 2 ^ d.1 := Nat.one_le_two_pow
  obtain ⟨N, hN⟩ : ∃ N, N = 2 ^ d.1 := ⟨_, rfl⟩
  rw [← hN] at p8 p1
  have p9 : N ≤ 256 := by simpa using p8
  unfold kX9_stateLoops kX10_stateLoops
  rw [m_crossings M, bnd1_e, shlOne d.1 hc, ← hN]
  rcases ix v (n := N) (by omega) with hv | hv | ⟨j, hj, rfl⟩
  · rw [if_pos hv, m_inLo hv, bnd1_e, if_pos rfl]
    exact ⟨_, _, _, rfl, rfl⟩
  · have g1 : nI N - 1 < v := by
      have e : (nI N - 1 : Int32) = nI (N - 1) := by rw [show N = N - 1 + 1 by omega, nI_pred, Nat.add_sub_cancel]
      rw [e]
      exact Int32.lt_of_lt_of_le (nI_lt (by omega) (by omega)) hv
    have g2 : ¬ v < nI N := Int32.not_lt.mpr hv
    rw [m_inHi g1, bnd1_e, if_pos rfl, if_neg g2]
    by_cases z : v < 0
    · rw [if_pos z]
      exact ⟨_, _, _, rfl, rfl⟩
    · rw [if_neg z]
      exact ⟨_, _, _, rfl, rfl⟩
  · have e : (nI N - 1 : Int32) = nI (N - 1) := by rw [show N = N - 1 + 1 by omega, nI_pred, Nat.add_sub_cancel]
    have k0 : (0 : Int32) ≤ nI j := by rw [fa_lit 0]; exact nI_le (Nat.zero_le _) (by omega)
    obtain ⟨oe', g1, g2⟩ := q_note hA hV oe
    obtain ⟨lab', g3⟩ := m_loops (lab := lab) M hV (st := j) (by omega)
    unfold kX0_loops
    rw [if_neg (nI_pos (by omega)), if_pos (nI_lt hj (by omega)), e, m_in k0 (nI_le (by omega) (by omega)), bnd1_e, if_neg n1, g1, bnd1_e, q_countLoops g2 hV (by omega), bnd1_e, bnd2_e, g3, bnd2_e, Nat.add_comm]
    exact ⟨_, _, _, rfl, rfl⟩
/-! exponents -/
theorem exP (v : Int32) : (v < -60 ∨ 60 < v) ∨ ∃ j : Nat, j < 121 ∧ v = nI j - 60 := by
  by_cases a : v < -60
  · exact Or.inl (Or.inl a)
  by_cases b : 60 < v
  · exact Or.inl (Or.inr b)
  right
  have a60 : (-60 : Int32).toInt = -60 := by decide
  have b60 : (60 : Int32).toInt = 60 := by decide
  rw [fa_lt, a60] at a
  rw [fa_lt, b60] at b
  refine ⟨(v.toInt + 60).toNat, by omega, ?_⟩
  have e : (nI (v.toInt + 60).toNat).toInt = v.toInt + 60 := by rw [nI_toInt (by omega)]; omega
  rw [fa_eq, fb_subI (by rw [e, b60]; omega) (by rw [e, b60]; omega), e, b60]; omega
theorem exIn : ∀ j, j < 121 → ¬ (nI j - 60 < (-60 : Int32)) ∧ ¬ ((60 : Int32) < nI j - 60) ∧ (nI j - 60 + 60 : Int32) = nI j ∧ (60 + (nI j - 60) : Int32) = nI j := by decide +kernel
theorem q_exOut {v : Int32} (h : v < -60 ∨ 60 < v) : kX9_isExponent v = some 0 := by
  unfold kX9_isExponent kX9_isExponent_J1
  by_cases a : v < -60
  · rw [if_pos a]
  · rw [if_neg a, if_pos (h.resolve_left a)]
theorem q_exIn {j : Nat} (h : j < 121) : kX9_isExponent (nI j - 60) = some 1 := by
  unfold kX9_isExponent
  rw [if_neg (exIn j h).1, if_neg (exIn j h).2.1]
theorem m_exOut {v : Int32} (h : v < -60 ∨ 60 < v) : kX10_isExponent v = some 0 := by
  unfold kX10_isExponent
  rcases h with h | h
  · rw [m_inLo h, bnd1_e, zr_0]
  · rw [m_inHi h, bnd1_e, zr_0]
theorem m_exIn {j : Nat} (h : j < 121) : kX10_isExponent (nI j - 60) = some 1 := by
  unfold kX10_isExponent
  rw [m_in (Int32.not_lt.mp (exIn j h).1) (Int32.not_lt.mp (exIn j h).2.1), bnd1_e, zr_1]
/-! what the bracket tells -/
theorem SR.prep {ss np dc dr : Int32} {da cells filled : Nat → Int32} {pr : Int32} {coef : Nat → Int32} {saved : Int32} {now hist kept isk : Nat → Int32} (h : SR ss np dc dr da cells filled pr coef saved now hist kept isk) (oe T prod : Nat → Int32) : ∃ pr' oe' T' coef' prod' d, kX0_prepare pr oe T coef prod dc dr da = some (pr', oe', T', coef', prod') ∧ SR ss np dc dr da cells filled pr' coef' saved now hist kept isk ∧ VS d ∧ dc = nI d.1 ∧ dr = nI d.2.1 ∧ Rp da d.2.2 ∧ BlR now 0 d ∧ ∀ i, i < 121 → coef' i = brD d i := by
  obtain ⟨d, s, n, H, hV, rfl, rfl, hA, hM, a6, rfl, rfl, rfl, a10, a11⟩ := h
  by_cases q : pr = 0
  · subst q
    obtain ⟨oe', T', cf', pr', g1, g2⟩ := q_prepareNew (oe := oe) (T := T) (cf := coef) (pr := prod) hA hV
    exact ⟨1, oe', T', cf', pr', d, g1, ⟨d, s, n, H, hV, rfl, rfl, hA, hM, Or.inr g2, rfl, rfl, rfl, a10, a11⟩, hV, rfl, rfl, hA, hM, g2⟩
  · have g2 := a6.resolve_left q
    refine ⟨pr, oe, T, coef, prod, d, ?_, ⟨d, s, n, H, hV, rfl, rfl, hA, hM, a6, rfl, rfl, rfl, a10, a11⟩, hV, rfl, rfl, hA, hM, g2⟩
    unfold kX0_prepare
    rw [if_neg q]
theorem SR.coefficient {ss np dc dr : Int32} {da cells filled : Nat → Int32} {pr : Int32} {coef : Nat → Int32} {saved : Int32} {now hist kept isk : Nat → Int32} (h : SR ss np dc dr da cells filled pr coef saved now hist kept isk) (v : Int32) (oe T prod lab br : Nat → Int32) : ∃ r pr' oe' T' coef' prod' lab' br', kX9_coefficient v dc dr da pr oe T coef prod = some (r, pr', oe', T', coef', prod') ∧ kX10_coefficient v now lab br = some (r, lab', br') ∧ SR ss np dc dr da cells filled pr' coef' saved now hist kept isk := by
  have n1 : ¬ ((1 : Int32) = 0) := by decide
  unfold kX9_coefficient kX10_coefficient
  rcases exP v with hv | ⟨j, hj, rfl⟩
  · rw [q_exOut hv, bnd1_e, if_pos rfl, m_exOut hv, bnd1_e, if_pos rfl]
    exact ⟨_, _, _, _, _, _, _, _, rfl, rfl, h⟩
  · obtain ⟨pr', oe', T', coef', prod', d, e1, e2, hV, rfl, rfl, hA, hM, e3⟩ := h.prep oe T prod
    obtain ⟨lab', br', e4, e5⟩ := m_findBracket (lab := lab) (br := br) (BlR.mr.mp hM) hV
    obtain ⟨_, _, x1, x2⟩ := exIn j hj
    rw [q_exIn hj, bnd1_e, if_neg n1, m_exIn hj, bnd1_e, if_neg n1, e1, bnd5_e, q_at x1 hj, bnd1_e, e4, bnd2_e, x2, ck_nI (by omega) (by omega), nI_clamp (by omega), e5 j hj, e3 j hj]
    exact ⟨_, _, _, _, _, _, _, _, rfl, rfl, e2⟩
theorem SR.lowest {ss np dc dr : Int32} {da cells filled : Nat → Int32} {pr : Int32} {coef : Nat → Int32} {saved : Int32} {now hist kept isk : Nat → Int32} (h : SR ss np dc dr da cells filled pr coef saved now hist kept isk) (oe T prod lab br : Nat → Int32) : ∃ r pr' oe' T' coef' prod' lab' br', kX9_lowestExponent dc dr da pr oe T coef prod = some (r, pr', oe', T', coef', prod') ∧ kX10_lowestExponent now lab br = some (r, lab', br') ∧ SR ss np dc dr da cells filled pr' coef' saved now hist kept isk := by
  unfold kX9_lowestExponent kX10_lowestExponent
  obtain ⟨pr', oe', T', coef', prod', d, e1, e2, hV, rfl, rfl, hA, hM, e3⟩ := h.prep oe T prod
  obtain ⟨lab', br', e4, e5⟩ := m_findBracket (lab := lab) (br := br) (BlR.mr.mp hM) hV
  obtain ⟨v, e6, e7⟩ := q_lowest coef'
  obtain ⟨w, e8, e9⟩ := m_lowest br'
  have e10 : v = w := (e7.cong (fun i hi => (e3 i hi).trans (e5 i hi).symm)).only e9
  subst e10
  rw [e1, bnd5_e, e6, bnd1_e, e4, bnd2_e, e8, bnd1_e]
  exact ⟨_, _, _, _, _, _, _, _, rfl, rfl, e2⟩
theorem SR.highest {ss np dc dr : Int32} {da cells filled : Nat → Int32} {pr : Int32} {coef : Nat → Int32} {saved : Int32} {now hist kept isk : Nat → Int32} (h : SR ss np dc dr da cells filled pr coef saved now hist kept isk) (oe T prod lab br : Nat → Int32) : ∃ r pr' oe' T' coef' prod' lab' br', kX9_highestExponent dc dr da pr oe T coef prod = some (r, pr', oe', T', coef', prod') ∧ kX10_highestExponent now lab br = some (r, lab', br') ∧ SR ss np dc dr da cells filled pr' coef' saved now hist kept isk := by
  unfold kX9_highestExponent kX10_highestExponent
  obtain ⟨pr', oe', T', coef', prod', d, e1, e2, hV, rfl, rfl, hA, hM, e3⟩ := h.prep oe T prod
  obtain ⟨lab', br', e4, e5⟩ := m_findBracket (lab := lab) (br := br) (BlR.mr.mp hM) hV
  obtain ⟨v, e6, e7⟩ := q_highest coef'
  obtain ⟨w, e8, e9⟩ := m_highest lab' br'
  have e10 : v = w := (e7.cong (fun i hi => (e3 i hi).trans (e5 i hi).symm)).only e9
  subst e10
  rw [e1, bnd5_e, e6, bnd1_e, e4, bnd2_e, e8]
  exact ⟨_, _, _, _, _, _, _, _, rfl, rfl, e2⟩
theorem nI60 : ∀ j, j < 121 → ∀ k, k < 121 → (nI j - 60 : Int32) = nI k - 60 → j = k := fun j hj k hk h => by
  have e1 := (exIn j hj).2.2.1
  have e2 := (exIn k hk).2.2.1
  rw [h, e2] at e1
  exact ((nI_eq (by omega) (by omega)).mp e1).symm
theorem SR.determinant {ss np dc dr : Int32} {da cells filled : Nat → Int32} {pr : Int32} {coef : Nat → Int32} {saved : Int32} {now hist kept isk : Nat → Int32} (h : SR ss np dc dr da cells filled pr coef saved now hist kept isk) (oe T prod lab br : Nat → Int32) : ∃ r pr' oe' T' coef' prod' lab' br', kX9_determinant dc dr da pr oe T coef prod = some (r, pr', oe', T', coef', prod') ∧ kX10_determinant now lab br = some (r, lab', br') ∧ SR ss np dc dr da cells filled pr' coef' saved now hist kept isk := by
  unfold kX9_determinant
  obtain ⟨pr', oe', T', coef', prod', d, e1, e2, hV, rfl, rfl, hA, hM, e3⟩ := h.prep oe T prod
  obtain ⟨lab', br', v, w, e4, e5, e6⟩ := m_determinant (lab := lab) (br := br) (BlR.mr.mp hM) hV
  obtain ⟨v', e7, e8⟩ := q_lowest coef'
  obtain ⟨w', e9, e10⟩ := q_alternating e7 e8
  have e11 : v' = v := (e8.cong (h := brk d.1 d.2.1 d.2.2) e3).only e5
  subst e11
  have e12 : w' = w := by
    rcases e6 with ⟨g1, g2⟩ | ⟨j, g1, g2, g3, g4⟩ <;> rcases e10 with ⟨k1, k2⟩ | ⟨k, k1, k2, k3, k4⟩
    · rw [g2, k2]
    · exact absurd g1 k2
    · exact absurd k1 g2
    · have : j = k := nI60 j g1 k k1 (g3.symm.trans k3)
      subst this
      rw [g4, k4, aS_cong (h := brk d.1 d.2.1 d.2.2) e3 _ (by omega)]
  subst e12
  rw [e1, bnd5_e, e9, bnd1_e, e4]
  exact ⟨_, _, _, _, _, _, _, _, rfl, rfl, e2⟩
/-! the normalized bracket -/
theorem sgsStep : ∀ c, c < 8 → ∀ k, k < 17 → (nI k - nI c + 1 : Int32) = nI (k + 2) - nI (c + 1) ∧ (nI k - nI c + -1 : Int32) = nI k - nI (c + 1) := by decide +kernel
theorem sgsEnd : ∀ c, c < 9 → ∀ k, k < 17 → (nI k - nI c : Int32) = nI (k + 8 - c) - 8 := by decide +kernel
theorem sgs_rng (m : Int32) : ∀ c, c ≤ 8 → ∃ k, k ≤ 2 * c ∧ sgs m c = nI k - nI c
  | 0, _ => ⟨0, by omega, show (0 : Int32) = nI 0 - nI 0 by decide⟩
  | c + 1, h => by
    obtain ⟨k, k1, k2⟩ := sgs_rng m c (by omega)
    obtain ⟨s1, s2⟩ := sgsStep c (by omega) k (by omega)
    unfold sgs
    rw [k2]
    unfold sgn
    by_cases q : bt m (4 * c) = bt m (4 * c + 3)
    · rw [if_pos q, s1]; exact ⟨k + 2, by omega, rfl⟩
    · rw [if_neg q, s2]; exact ⟨k, by omega, rfl⟩
theorem sgs_8 (m : Int32) {c : Nat} (h : c ≤ 8) : ∃ k, k < 17 ∧ sgs m c = nI k - 8 := by
  obtain ⟨k, k1, k2⟩ := sgs_rng m c h
  exact ⟨k + 8 - c, by omega, k2.trans (sgsEnd c (by omega) k (by omega))⟩
theorem nrmX : ∀ k, k < 17 → ∀ j, j < 121 → (nI j - 60 + 3 * (nI k - 8) : Int32) = nI (j + 3 * k) - 84 := by decide +kernel
theorem nrmLo : ∀ n, n < 24 → (nI n - 84 + 60 : Int32) < 0 ∧ (nI n - 84 : Int32) < -60 := by decide +kernel
theorem nrmHi : ∀ n, n < 24 → (121 : Int32) ≤ (nI (n + 145) - 84 + 60) ∧ (60 : Int32) < nI (n + 145) - 84 := by decide +kernel
theorem nrmIn : ∀ n, n < 121 → (nI (n + 24) - 84 : Int32) = nI n - 60 := by decide +kernel
theorem nrmPar : ∀ k, k < 17 → (((nI k - 8) &&& 1 : Int32) = 0 ↔ irem (nI k - 8) 2 = 0) := by decide +kernel
theorem SR.normalized {ss np dc dr : Int32} {da cells filled : Nat → Int32} {pr : Int32} {coef : Nat → Int32} {saved : Int32} {now hist kept isk : Nat → Int32} (h : SR ss np dc dr da cells filled pr coef saved now hist kept isk) (v : Int32) (oe T prod entry passed lab br : Nat → Int32) : ∃ r pr' oe' T' coef' prod' entry' passed' lab' br', kX9_normalizedCoefficient v dc dr da pr oe T coef prod = some (r, pr', oe', T', coef', prod') ∧ kX10_normalizedCoefficient v now entry passed lab br = some (r, entry', passed', lab', br') ∧ SR ss np dc dr da cells filled pr' coef' saved now hist kept isk := by
  have n1 : ¬ ((1 : Int32) = 0) := by decide
  unfold kX9_normalizedCoefficient kX10_normalizedCoefficient
  rcases exP v with hv | ⟨j, hj, rfl⟩
  · rw [q_exOut hv, bnd1_e, if_pos rfl, m_exOut hv, bnd1_e, if_pos rfl]
    exact ⟨_, _, _, _, _, _, _, _, _, _, rfl, rfl, h⟩
  · obtain ⟨pr', oe', T', coef', prod', d, e1, e2, hV, rfl, rfl, hA, hM, e3⟩ := h.prep oe T prod
    obtain ⟨lab', br', e4, e5⟩ := m_findBracket (lab := lab) (br := br) (BlR.mr.mp hM) hV
    obtain ⟨m, g5, g6⟩ := q_entered hA hV
    obtain ⟨entry', passed', g8⟩ := m_writheNow (entry := entry) (passed := passed) hA (BlR.mr.mp hM) hV g6
    obtain ⟨k, k1, k2⟩ := sgs_8 m hV.1
    rw [q_exIn hj, bnd1_e, if_neg n1, m_exIn hj, bnd1_e, if_neg n1, e1, bnd5_e, q_signSum hV g5, bnd1_e, e4, bnd2_e, g8, bnd3_e, k2, nrmX k k1 j hj]
    have fin : ∀ t : Int32, ∃ r, (if ((nI k - 8 : Int32) &&& 1) = 0 then some (t, pr', oe', T', coef', prod') else some (-t, pr', oe', T', coef', prod')) = some (r, pr', oe', T', coef', prod') ∧ kX10_normalizedCoefficient_J1 (nI k - 8) entry' passed' lab' br' t = some (r, entry', passed', lab', br') := fun t => by
      unfold kX10_normalizedCoefficient_J1
      by_cases q : ((nI k - 8 : Int32) &&& 1) = 0
      · rw [if_pos q, if_pos ((nrmPar k k1).mp q)]
        exact ⟨_, rfl, rfl⟩
      · rw [if_neg q, if_neg (fun z => q ((nrmPar k k1).mpr z))]
        exact ⟨_, rfl, rfl⟩
    rcases (show j + 3 * k < 24 ∨ (∃ n, n < 121 ∧ j + 3 * k = n + 24) ∨ ∃ n, n < 24 ∧ j + 3 * k = n + 145 by
      by_cases a : j + 3 * k < 24
      · exact Or.inl a
      · by_cases b : j + 3 * k < 145
        · exact Or.inr (Or.inl ⟨j + 3 * k - 24, by omega, by omega⟩)
        · exact Or.inr (Or.inr ⟨j + 3 * k - 145, by omega, by omega⟩)) with a | ⟨n, a, b⟩ | ⟨n, a, b⟩
    · obtain ⟨l1, l2⟩ := nrmLo _ a
      obtain ⟨r, r1, r2⟩ := fin 0
      rw [q_atLo l1, bnd1_e, m_exOut (Or.inl l2), bnd1_e, if_pos rfl, r1, r2]
      exact ⟨_, _, _, _, _, _, _, _, _, _, rfl, rfl, e2⟩
    · rw [b, nrmIn n a]
      obtain ⟨_, _, x1, x2⟩ := exIn n a
      obtain ⟨r, r1, r2⟩ := fin (brD d n)
      rw [q_at x1 a, bnd1_e, m_exIn a, bnd1_e, if_neg n1, x2, ck_nI (by omega) (by omega), nI_clamp (by omega), e5 n a, e3 n a, r1]
      refine ⟨_, _, _, _, _, _, _, _, _, _, rfl, r2, e2⟩
    · rw [b]
      obtain ⟨l1, l2⟩ := nrmHi n a
      obtain ⟨r, r1, r2⟩ := fin 0
      rw [q_atHi l1, bnd1_e, m_exOut (Or.inr l2), bnd1_e, if_pos rfl, r1, r2]
      exact ⟨_, _, _, _, _, _, _, _, _, _, rfl, rfl, e2⟩
theorem t_colouring {d : St} {da now : Nat → Int32} (hV : VS d) (hA : Rp da d.2.2) (hM : BlR now 0 d) (v : Int32) (cl cells lab mat : Nat → Int32) : ∃ r cl' cells' lab' mat', kX9_colouringDimension v (nI d.1) (nI d.2.1) da cl cells = some (r, cl', cells') ∧ kX10_colouringDimension v now lab mat = some (r, lab', mat') := by
  have M := BlR.mr.mp hM
  have go : ∀ p, isP p → ∃ r cl' cells' lab' mat', kX9_colouringDimension_J1 (nI p) cl cells (nI d.1) (nI d.2.1) da = some (r, cl', cells') ∧ kX10_colouringDimension_J1 lab now (nI p) mat = some (r, lab', mat') := fun p hp => by
    obtain ⟨lab', mat', g1⟩ := m_colour hp (lab := lab) (mat := mat) M hV
    obtain ⟨cl', c', g2⟩ := q_dimension hp (cl := cl) (cells := cells) hA hV
    unfold kX9_colouringDimension_J1
    rw [g2, bnd3_e, g1]
    exact ⟨_, _, _, _, _, rfl, rfl⟩
  unfold kX9_colouringDimension kX10_colouringDimension
  by_cases a : v = 3
  · rw [if_pos a, if_pos a, a]; exact go 3 (Or.inl rfl)
  rw [if_neg a, if_neg a]
  by_cases b : v = 5
  · rw [if_pos b, if_pos b, b]; exact go 5 (Or.inr (Or.inl rfl))
  rw [if_neg b, if_neg b]
  by_cases c : v = 7
  · rw [if_pos c, if_pos c, c]; exact go 7 (Or.inr (Or.inr (Or.inl rfl)))
  rw [if_neg c, if_neg c]
  by_cases e : v = 11
  · rw [if_pos e, if_pos e, e]; exact go 11 (Or.inr (Or.inr (Or.inr rfl)))
  rw [if_neg e, if_neg e]
  exact ⟨_, _, _, _, _, rfl, rfl⟩
