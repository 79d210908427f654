/-! ===== kinks and bigons: found ===== -/
theorem and3 : ∀ k, k < 20 → (nI k &&& 3 : Int32) = nI (k % 4) := by decide +kernel
theorem and1 : ∀ k, k < 40 → (nI k &&& 1 : Int32) = nI (k % 2) := by decide +kernel
def en (v k : Nat) : Nat := 4 * v + k % 4
theorem q_endOf {v k : Nat} (hk : k < 20) : kX3_endOf (nI v) (nI k) = some (nI (en v k)) := by
  unfold kX3_endOf
  rw [and3 k hk, fa_lit 4, pk_mul, nI_add]
  rfl
theorem m_turnEn {v k j : Nat} (hv : v < 8) (hk : k < 4) (hj : j < 4) : kX10_turn (nI (4 * v + k)) (nI j) = some (nI (en v (k + j))) := by
  rw [m_turn (by omega) (by omega)]
  unfold en
  rw [show (4 * v + k) / 4 * 4 + (4 * v + k + j) % 4 = 4 * v + (k + j) % 4 by omega]
/-- the least below n with P, told as g of it; d where there is none -/
def fndF (P : Nat → Prop) (m n : Nat) (g : Nat → Int32) (d x : Int32) : Prop := (∃ k, m ≤ k ∧ k < n ∧ P k ∧ (∀ j, m ≤ j → j < k → ¬ P j) ∧ x = g k) ∨ ((∀ k, m ≤ k → k < n → ¬ P k) ∧ x = d)
theorem fndF.no {P : Nat → Prop} {m n : Nat} {g : Nat → Int32} {d x : Int32} (h : fndF P (m + 1) n g d x) (hP : ¬ P m) : fndF P m n g d x := by
  rcases h with ⟨k, h1, h2, h3, h4, h5⟩ | ⟨h1, h2⟩
  · refine Or.inl ⟨k, by omega, h2, h3, fun j j1 j2 => ?_, h5⟩
    by_cases w : j = m
    · rw [w]; exact hP
    · exact h4 j (by omega) j2
  · refine Or.inr ⟨fun k k1 k2 => ?_, h2⟩
    by_cases w : k = m
    · rw [w]; exact hP
    · exact h1 k (by omega) k2
theorem fndF.yes {P : Nat → Prop} {m n : Nat} {g : Nat → Int32} {d : Int32} (hm : m < n) (hP : P m) : fndF P m n g d (g m) :=
  Or.inl ⟨m, Nat.le_refl _, hm, hP, fun j j1 j2 => absurd j1 (by omega), rfl⟩
theorem fndF.asc {P : Nat → Prop} {n i : Nat} {g : Nat → Int32} {d : Int32} (hi : i < n) (hP : P i) (h : ∀ k, k < i → ¬ P k) : fndF P 0 n g d (g i) :=
  Or.inl ⟨i, Nat.zero_le _, hi, hP, fun j _ j2 => h j j2, rfl⟩
theorem fndF.uniq {P : Nat → Prop} {n : Nat} {g g' : Nat → Int32} {d d' x y : Int32} (h : fndF P 0 n g d x) (h' : fndF P 0 n g' d' y) : (∃ k, k < n ∧ P k ∧ x = g k ∧ y = g' k) ∨ ((∀ k, k < n → ¬ P k) ∧ x = d ∧ y = d') := by
  rcases h with ⟨k, h1, h2, h3, h4, h5⟩ | ⟨h1, h2⟩
  · rcases h' with ⟨k', g1, g2, g3, g4, g5⟩ | ⟨g1, g2⟩
    · left
      have : k = k' := by
        rcases Nat.lt_trichotomy k k' with w | w | w
        · exact absurd h3 (g4 k (Nat.zero_le _) w)
        · exact w
        · exact absurd g3 (h4 k' (Nat.zero_le _) w)
      subst this
      exact ⟨k, h2, h3, h5, g5⟩
    · exact absurd h3 (g1 k (Nat.zero_le _) h2)
  · rcases h' with ⟨k', g1, g2, g3, g4, g5⟩ | ⟨g1, g2⟩
    · exact absurd g3 (h1 k' (Nat.zero_le _) g2)
    · exact Or.inr ⟨fun k hk => h1 k (Nat.zero_le _) hk, h2, g2⟩
def kE (f : Nat → Nat) (v k : Nat) : Prop := f (en v k) = f (en v (k + 1))
theorem en_lt {v k : Nat} (hv : v < 8) : en v k < 32 := by unfold en; omega
theorem q_kinkEnd {a : Nat → Int32} {f : Nat → Nat} (h : Rp a f) {v : Nat} (hv : v < 8) : ∃ x, kX3_kinkEnd (nI v) a = some x ∧ fndF (kE f v) 0 4 nI (-1) x := by
  unfold kX3_kinkEnd
  refine it1_way (F := kX3_kinkEnd_L1 (nI v) a) (x1 := 0) (n := 400) (fun i x => x = nI i ∧ ∀ k, k < i → ¬ kE f v k) (fun r => ∃ x, r = some x ∧ fndF (kE f v) 0 4 nI (-1) x) 4 (fun K i x hi hI => ?_) ⟨rfl, fun k hk => absurd hk (Nat.not_lt_zero _)⟩ (by omega)
  obtain ⟨rfl, hx⟩ := hI
  unfold kX3_kinkEnd_L1
  by_cases q : i = 4
  · left
    subst q
    exact ⟨-1, if_pos (by decide), Or.inr ⟨fun k _ hk => hx k hk, rfl⟩⟩
  · have b := h.2.1
    have b0 := b (en v i)
    have b1 := b (en v (i + 1))
    have l0 := en_lt (k := i) hv
    have l1 := en_lt (k := i + 1) hv
    rw [if_neg (by rw [fa_lit 4]; exact nI_ge (by omega) (by omega)), nI_1, q_endOf (by omega), bnd1_e, q_arcR h (by omega), bnd1_e, q_endOf (by omega), bnd1_e, q_arcR h (by omega), bnd1_e]
    by_cases z : f (en v i) = f (en v (i + 1))
    · left
      exact ⟨_, if_pos (by rw [z]), fndF.asc (by omega) z hx⟩
    · right
      refine ⟨by omega, _, if_neg (fun w => z ((nI_eq (by omega) (by omega)).mp w)), rfl, fun k hk => ?_⟩
      by_cases w : k = i
      · rw [w]; exact z
      · exact hx k (by omega)
theorem m_kinkEnd {now : Nat → Int32} {c o : Nat} {f : Nat → Nat} (h : Mr now c o f) (b : ∀ e, f e ≤ 16) {v : Nat} (hv : v < 8) : ∃ x, kX10_kinkEnd (nI v) now = some x ∧ fndF (kE f v) 0 4 (fun k => nI (4 * v + k)) (-1) x := by
  unfold kX10_kinkEnd
  refine it2_inv (F := kX10_kinkEnd_L1 (nI v) now) (x1 := -1) (x2 := 3) (n := 400) (fun i x y => y = nI (4 - i) - 1 ∧ fndF (kE f v) (4 - i) 4 (fun k => nI (4 * v + k)) (-1) x) (fun r => ∃ x, r = some x ∧ fndF (kE f v) 0 4 (fun k => nI (4 * v + k)) (-1) x) 4 (fun K i x y hi hI => ?_) (fun K x y hI => ?_) ⟨by decide, Or.inr ⟨fun k k1 k2 => absurd k1 (by omega), rfl⟩⟩ (by omega)
  · obtain ⟨rfl, hx⟩ := hI
    have e1 : (nI (4 - i) - 1 : Int32) = nI (3 - i) := by rw [show 4 - i = 3 - i + 1 by omega, nI_pred]
    have e2 : (nI (3 - i) + (-1) : Int32) = nI (4 - (i + 1)) - 1 := by rw [show 4 - (i + 1) = 3 - i by omega, Int32.sub_eq_add_neg]
    have b0 := b (4 * v + (3 - i))
    have b1 := b (en v (3 - i + 1))
    have l1 := en_lt (k := 3 - i + 1) hv
    have e3 : (4 * nI v + nI (3 - i) : Int32) = nI (4 * v + (3 - i)) := by rw [fa_lit 4, pk_mul, nI_add]
    have e4 : kX10_turn (nI (4 * v + (3 - i))) 1 = some (nI (en v (3 - i + 1))) := m_turnEn (k := 3 - i) (j := 1) hv (by omega) (by omega)
    have e5 : en v (3 - i) = 4 * v + (3 - i) := by unfold en; omega
    unfold kX10_kinkEnd_L1
    rw [e1, if_neg (nI_pos (by omega)), e3, m_arc h (by omega), bnd1_e, e4, bnd1_e, m_arc h l1, bnd1_e, e2]
    rw [show 4 - i = 3 - i + 1 by omega] at hx
    by_cases z : f (4 * v + (3 - i)) = f (en v (3 - i + 1))
    · refine ⟨_, _, if_pos (by rw [z]), rfl, ?_⟩
      rw [show 4 - (i + 1) = 3 - i by omega]
      exact fndF.yes (g := fun k => nI (4 * v + k)) (by omega) (by unfold kE; rw [e5]; exact z)
    · refine ⟨_, _, if_neg (fun w => z ((nI_eq (by omega) (by omega)).mp w)), rfl, ?_⟩
      rw [show 4 - (i + 1) = 3 - i by omega]
      exact hx.no (by unfold kE; rw [e5]; exact z)
  · obtain ⟨rfl, hx⟩ := hI
    refine ⟨x, ?_, hx⟩
    unfold kX10_kinkEnd_L1
    rw [if_pos (by decide)]
def bE (f : Nat → Nat) (v w c : Nat) : Prop := (c / 4 + c % 4) % 2 = 1 ∧ f (en v (c / 4)) = f (en w (c % 4 + 1)) ∧ f (en v (c / 4 + 1)) = f (en w (c % 4))
theorem q_isBigon {a : Nat → Int32} {f : Nat → Nat} (h : Rp a f) {v w c : Nat} (hv : v < 8) (hw : w < 8) (hc : c < 16) : (bE f v w c ∧ kX3_isBigon (nI v) (ishr (nI c) 2) (nI w) (nI c &&& 3) a = some 1) ∨ (¬ bE f v w c ∧ kX3_isBigon (nI v) (ishr (nI c) 2) (nI w) (nI c &&& 3) a = some 0) := by
  have b := h.2.1
  have b0 := b (en v (c / 4))
  have b1 := b (en w (c % 4 + 1))
  have b2 := b (en v (c / 4 + 1))
  have b3 := b (en w (c % 4))
  have l0 := en_lt (k := c / 4) hv
  have l1 := en_lt (k := c % 4 + 1) hw
  have l2 := en_lt (k := c / 4 + 1) hv
  have l3 := en_lt (k := c % 4) hw
  unfold kX3_isBigon kX3_isBigon_J1 bE
  rw [shr2 (by omega), and3 c (by omega), nI_add, and1 _ (by omega), nI_1, nI_1]
  simp only [q_endOf (show c / 4 < 20 by omega), q_endOf (show c % 4 < 20 by omega), q_endOf (show c / 4 + 1 < 20 by omega), q_endOf (show c % 4 + 1 < 20 by omega), bnd1_e, q_arcR h (show en v (c / 4) < 2 ^ 31 by omega), q_arcR h (show en w (c % 4 + 1) < 2 ^ 31 by omega), q_arcR h (show en v (c / 4 + 1) < 2 ^ 31 by omega), q_arcR h (show en w (c % 4) < 2 ^ 31 by omega)]
  by_cases z1 : (c / 4 + c % 4) % 2 = 1
  · rw [if_pos (by rw [z1]; rfl)]
    by_cases z2 : f (en v (c / 4)) = f (en w (c % 4 + 1))
    · rw [if_pos (by rw [z2])]
      by_cases z3 : f (en v (c / 4 + 1)) = f (en w (c % 4))
      · rw [if_pos (by rw [z3])]
        exact Or.inl ⟨⟨z1, z2, z3⟩, rfl⟩
      · rw [if_neg (fun w => z3 ((nI_eq (by omega) (by omega)).mp w))]
        exact Or.inr ⟨fun w => z3 w.2.2, rfl⟩
    · rw [if_neg (fun w => z2 ((nI_eq (by omega) (by omega)).mp w))]
      exact Or.inr ⟨fun w => z2 w.2.1, rfl⟩
  · have n1 : ¬ (nI ((c / 4 + c % 4) % 2) = (1 : Int32)) := fun w => z1 ((nI_eq (b := 1) (by omega) (by omega)).mp w)
    rw [if_neg n1]
    exact Or.inr ⟨fun w => z1 w.1, rfl⟩
theorem q_bigon {a : Nat → Int32} {f : Nat → Nat} (h : Rp a f) {v w : Nat} (hv : v < 8) (hw : w < 8) : ∃ x, kX3_bigonCorner (nI v) (nI w) a = some x ∧ fndF (bE f v w) 0 16 nI (-1) x := by
  unfold kX3_bigonCorner
  refine it1_way (F := kX3_bigonCorner_L1 (nI v) (nI w) a) (x1 := 0) (n := 400) (fun i x => x = nI i ∧ ∀ k, k < i → ¬ bE f v w k) (fun r => ∃ x, r = some x ∧ fndF (bE f v w) 0 16 nI (-1) x) 16 (fun K i x hi hI => ?_) ⟨rfl, fun k hk => absurd hk (Nat.not_lt_zero _)⟩ (by omega)
  obtain ⟨rfl, hx⟩ := hI
  unfold kX3_bigonCorner_L1
  by_cases q : i = 16
  · left
    subst q
    exact ⟨-1, if_pos (by decide), Or.inr ⟨fun k _ hk => hx k hk, rfl⟩⟩
  · rw [if_neg (by rw [fa_lit 16]; exact nI_ge (by omega) (by omega))]
    rcases q_isBigon h hv hw (show i < 16 by omega) with ⟨z, e⟩ | ⟨z, e⟩
    · left
      rw [e, bnd1_e]
      exact ⟨_, if_neg (by decide), fndF.asc (by omega) z hx⟩
    · right
      rw [e, bnd1_e]
      refine ⟨by omega, _, if_pos rfl, nI_1 _, fun k hk => ?_⟩
      by_cases w : k = i
      · rw [w]; exact z
      · exact hx k (by omega)
theorem m_bigon {now : Nat → Int32} {c o : Nat} {f : Nat → Nat} (h : Mr now c o f) (b : ∀ e, f e ≤ 16) {v w : Nat} (hv : v < 8) (hw : w < 8) : ∃ x, kX10_bigon (nI v) (nI w) now = some x ∧ fndF (bE f v w) 0 16 nI (-1) x := by
  unfold kX10_bigon
  refine it2_inv (F := kX10_bigon_L1 (nI v) (nI w) now) (x1 := -1) (x2 := 15) (n := 400) (fun i x y => y = nI (16 - i) - 1 ∧ fndF (bE f v w) (16 - i) 16 nI (-1) x) (fun r => ∃ x, r = some x ∧ fndF (bE f v w) 0 16 nI (-1) x) 16 (fun K i x y hi hI => ?_) (fun K x y hI => ?_) ⟨by decide, Or.inr ⟨fun k k1 k2 => absurd k1 (by omega), rfl⟩⟩ (by omega)
  · obtain ⟨rfl, hx⟩ := hI
    obtain ⟨j, hj⟩ : ∃ j, j = 15 - i := ⟨_, rfl⟩
    have e1 : (nI (16 - i) - 1 : Int32) = nI j := by rw [show 16 - i = j + 1 by omega, nI_pred]
    have e2 : (nI j + (-1) : Int32) = nI (16 - (i + 1)) - 1 := by rw [show 16 - (i + 1) = j by omega, Int32.sub_eq_add_neg]
    rw [show 16 - i = j + 1 by omega] at hx
    have b0 := b (en v (j / 4))
    have b1 := b (en w (j % 4 + 1))
    have b2 := b (en v (j / 4 + 1))
    have b3 := b (en w (j % 4))
    have l0 := en_lt (k := j / 4) hv
    have l1 := en_lt (k := j % 4 + 1) hw
    have l2 := en_lt (k := j / 4 + 1) hv
    have l3 := en_lt (k := j % 4) hw
    have f0 : en v (j / 4) = 4 * v + j / 4 := by unfold en; omega
    have f3 : en w (j % 4) = 4 * w + j % 4 := by unfold en; omega
    have d1 : (nI j / 4 : Int32) = nI (j / 4) := by rw [fa_lit 4, pk_div (by omega) (by omega) (by omega)]
    have d2 : (irem (nI j) 4 : Int32) = nI (j % 4) := by rw [fa_lit 4, irem_nI (by omega) (by omega) (by omega)]
    have d3 : (4 * nI v + nI (j / 4) : Int32) = nI (en v (j / 4)) := by rw [f0, fa_lit 4, pk_mul, nI_add]
    have d4 : (4 * nI w + nI (j % 4) : Int32) = nI (en w (j % 4)) := by rw [f3, fa_lit 4, pk_mul, nI_add]
    have d5 : (irem (nI (en v (j / 4)) + nI (en w (j % 4))) 2 : Int32) = nI ((j / 4 + j % 4) % 2) := by rw [nI_add, fa_lit 2, irem_nI (by omega) (by omega) (by omega), show (en v (j / 4) + en w (j % 4)) % 2 = (j / 4 + j % 4) % 2 by omega]
    have t1 : kX10_turn (nI (en v (j / 4))) 1 = some (nI (en v (j / 4 + 1))) := by rw [f0]; exact m_turnEn (k := j / 4) (j := 1) hv (by omega) (by omega)
    have t2 : kX10_turn (nI (en w (j % 4))) 1 = some (nI (en w (j % 4 + 1))) := by rw [f3]; exact m_turnEn (k := j % 4) (j := 1) hw (by omega) (by omega)
    unfold kX10_bigon_L1 kX10_bigon_J3 kX10_bigon_J2
    simp only [e1, d1, d2, d3, d4, d5, t1, t2, bnd1_e, m_arc h l0, m_arc h l1, m_arc h l2, m_arc h l3, e2]
    rw [if_neg (nI_pos (by omega)), show 16 - (i + 1) = j by omega]
    have no : ¬ bE f v w j → fndF (bE f v w) j 16 nI (-1) x := fun z => hx.no z
    by_cases z1 : (j / 4 + j % 4) % 2 = 1
    · rw [if_pos (by rw [z1]; rfl)]
      by_cases z2 : f (en v (j / 4)) = f (en w (j % 4 + 1))
      · rw [if_pos (by rw [z2])]
        by_cases z3 : f (en v (j / 4 + 1)) = f (en w (j % 4))
        · rw [if_pos (by rw [z3])]
          exact ⟨_, _, if_neg (by decide), rfl, fndF.yes (g := nI) (by omega) ⟨z1, z2, z3⟩⟩
        · rw [if_neg (fun w => z3 ((nI_eq (by omega) (by omega)).mp w))]
          exact ⟨_, _, if_pos trivial, rfl, no (fun w => z3 w.2.2)⟩
      · rw [if_neg (fun w => z2 ((nI_eq (by omega) (by omega)).mp w))]
        exact ⟨_, _, if_pos trivial, rfl, no (fun w => z2 w.2.1)⟩
    · have n1 : ¬ (nI ((j / 4 + j % 4) % 2) = (1 : Int32)) := fun w => z1 ((nI_eq (b := 1) (by omega) (by omega)).mp w)
      rw [if_neg n1]
      exact ⟨_, _, if_pos trivial, rfl, no (fun w => z1 w.1)⟩
  · obtain ⟨rfl, hx⟩ := hI
    refine ⟨x, ?_, hx⟩
    unfold kX10_bigon_L1
    rw [if_pos (by decide)]
theorem least_or (P : Nat → Prop) : ∀ n, (∃ k, k < n ∧ P k ∧ ∀ j, j < k → ¬ P j) ∨ ∀ k, k < n → ¬ P k
  | 0 => Or.inr fun k h => absurd h (Nat.not_lt_zero _)
  | n + 1 => by
    rcases least_or P n with ⟨k, h1, h2, h3⟩ | h
    · exact Or.inl ⟨k, by omega, h2, h3⟩
    · rcases Classical.em (P n) with g | g
      · exact Or.inl ⟨n, by omega, g, h⟩
      · refine Or.inr fun k hk => ?_
        by_cases w : k = n
        · rw [w]; exact g
        · exact h k (by omega)
