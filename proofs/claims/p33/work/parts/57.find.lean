/-! ===== kinks and bigons: found ===== -/
theorem and3 : ∀ k, k < 20 → (nI k &&& 3 : Int32) = nI (k % 4) := by decide +kernel
theorem and1 : ∀ k, k < 40 → (nI k &&& 1 : Int32) = nI (k % 2) := by decide +kernel
def en (v k : Nat) : Nat := 4 * v + k % 4
theorem q_endOf {v k : Nat} (hk : k < 20) : kX3_endOf (nI v) (nI k) = some (nI (en v k)) := by
  unfold kX3_endOf
  rw [and3 k hk, fa_lit 4, pk_mul, nI_add]
  rfl
/-- the least below n with P, told as g of it; d where there is none -/
def fndF (P : Nat → Prop) (m n : Nat) (g : Nat → Int32) (d x : Int32) : Prop := (∃ k, m ≤ k ∧ k < n ∧ P k ∧ (∀ j, m ≤ j → j < k → ¬ P j) ∧ x = g k) ∨ ((∀ k, m ≤ k → k < n → ¬ P k) ∧ x = d)
theorem fndF.no {P : Nat → Prop} {m n : Nat} {g : Nat → Int32} {d x : Int32} (h : fndF P (m + 1) n g d x) (hP : ¬ P m) : fndF P m n g d x := by
  rcases h with ⟨k, h1, h2, h3, h4, h5⟩ | ⟨h1, h2⟩
  · refine Or.inl ⟨k, by omega, h2, h3, fun j j1 j2 => ?_, h5⟩
    by_cases w : j = m
    · rw [w]; exact hP
    · exact h4 j (by omega) j2
  · refine Or.inr ⟨fun k k1 k2 => ?_, h2⟩
    by_cases w : k = m
    · rw [w]; exact hP
    · exact h1 k (by omega) k2
theorem fndF.yes {P : Nat → Prop} {m n : Nat} {g : Nat → Int32} {d : Int32} (hm : m < n) (hP : P m) : fndF P m n g d (g m) :=
  Or.inl ⟨m, Nat.le_refl _, hm, hP, fun j j1 j2 => absurd j1 (by omega), rfl⟩
theorem fndF.asc {P : Nat → Prop} {n i : Nat} {g : Nat → Int32} {d : Int32} (hi : i < n) (hP : P i) (h : ∀ k, k < i → ¬ P k) : fndF P 0 n g d (g i) :=
  Or.inl ⟨i, Nat.zero_le _, hi, hP, fun j _ j2 => h j j2, rfl⟩
theorem fndF.uniq {P : Nat → Prop} {n : Nat} {g g' : Nat → Int32} {d d' x y : Int32} (h : fndF P 0 n g d x) (h' : fndF P 0 n g' d' y) : (∃ k, k < n ∧ P k ∧ x = g k ∧ y = g' k) ∨ ((∀ k, k < n → ¬ P k) ∧ x = d ∧ y = d') := by
  rcases h with ⟨k, h1, h2, h3, h4, h5⟩ | ⟨h1, h2⟩
  · rcases h' with ⟨k', g1, g2, g3, g4, g5⟩ | ⟨g1, g2⟩
    · left
      have : k = k' := by
        rcases Nat.lt_trichotomy k k' with w | w | w
        · exact absurd h3 (g4 k (Nat.zero_le _) w)
        · exact w
        · exact absurd g3 (h4 k' (Nat.zero_le _) w)
      subst this
      exact ⟨k, h2, h3, h5, g5⟩
    · exact absurd h3 (g1 k (Nat.zero_le _) h2)
  · rcases h' with ⟨k', g1, g2, g3, g4, g5⟩ | ⟨g1, g2⟩
    · exact absurd g3 (h1 k' (Nat.zero_le _) g2)
    · exact Or.inr ⟨fun k hk => h1 k (Nat.zero_le _) hk, h2, g2⟩
def kE (f : Nat → Nat) (v k : Nat) : Prop := f (en v k) = f (en v (k + 1))
theorem en_lt {v k : Nat} (hv : v < 8) : en v k < 32 := by unfold en; omega
theorem q_kinkEnd {a : Nat → Int32} {f : Nat → Nat} (h : Rp a f) {v : Nat} (hv : v < 8) : ∃ x, kX3_kinkEnd (nI v) a = some x ∧ fndF (kE f v) 0 4 nI (-1) x := by
  unfold kX3_kinkEnd
  refine it1_way (F := kX3_kinkEnd_L1 (nI v) a) (x1 := 0) (n := 400) (fun i x => x = nI i ∧ ∀ k, k < i → ¬ kE f v k) (fun r => ∃ x, r = some x ∧ fndF (kE f v) 0 4 nI (-1) x) 4 (fun K i x hi hI => ?_) ⟨rfl, fun k hk => absurd hk (Nat.not_lt_zero _)⟩ (by omega)
  obtain ⟨rfl, hx⟩ := hI
  unfold kX3_kinkEnd_L1
  by_cases q : i = 4
  · left
    subst q
    exact ⟨-1, if_pos (by decide), Or.inr ⟨fun k _ hk => hx k hk, rfl⟩⟩
  · have b := h.2.1
    have b0 := b (en v i)
    have b1 := b (en v (i + 1))
    have l0 := en_lt (k := i) hv
    have l1 := en_lt (k := i + 1) hv
    rw [if_neg (by rw [fa_lit 4]; exact nI_ge (by omega) (by omega)), nI_1, q_endOf (by omega), bnd1_e, q_arcR h (by omega), bnd1_e, q_endOf (by omega), bnd1_e, q_arcR h (by omega), bnd1_e]
    by_cases z : f (en v i) = f (en v (i + 1))
    · left
      exact ⟨_, if_pos (by rw [z]), fndF.asc (by omega) z hx⟩
    · right
      refine ⟨by omega, _, if_neg (fun w => z ((nI_eq (by omega) (by omega)).mp w)), rfl, fun k hk => ?_⟩
      by_cases w : k = i
      · rw [w]; exact z
      · exact hx k (by omega)
def bE (f : Nat → Nat) (v w c : Nat) : Prop := (c / 4 + c % 4) % 2 = 1 ∧ f (en v (c / 4)) = f (en w (c % 4 + 1)) ∧ f (en v (c / 4 + 1)) = f (en w (c % 4))
theorem q_isBigon {a : Nat → Int32} {f : Nat → Nat} (h : Rp a f) {v w c : Nat} (hv : v < 8) (hw : w < 8) (hc : c < 16) : (bE f v w c ∧ kX3_isBigon (nI v) (ishr (nI c) 2) (nI w) (nI c &&& 3) a = some 1) ∨ (¬ bE f v w c ∧ kX3_isBigon (nI v) (ishr (nI c) 2) (nI w) (nI c &&& 3) a = some 0) := by
  have b := h.2.1
  have b0 := b (en v (c / 4))
  have b1 := b (en w (c % 4 + 1))
  have b2 := b (en v (c / 4 + 1))
  have b3 := b (en w (c % 4))
  have l0 := en_lt (k := c / 4) hv
  have l1 := en_lt (k := c % 4 + 1) hw
  have l2 := en_lt (k := c / 4 + 1) hv
  have l3 := en_lt (k := c % 4) hw
  unfold kX3_isBigon kX3_isBigon_J1 bE
  rw [shr2 (by omega), and3 c (by omega), nI_add, and1 _ (by omega), nI_1, nI_1]
  simp only [q_endOf (show c / 4 < 20 by omega), q_endOf (show c % 4 < 20 by omega), q_endOf (show c / 4 + 1 < 20 by omega), q_endOf (show c % 4 + 1 < 20 by omega), bnd1_e, q_arcR h (show en v (c / 4) < 2 ^ 31 by omega), q_arcR h (show en w (c % 4 + 1) < 2 ^ 31 by omega), q_arcR h (show en v (c / 4 + 1) < 2 ^ 31 by omega), q_arcR h (show en w (c % 4) < 2 ^ 31 by omega)]
  by_cases z1 : (c / 4 + c % 4) % 2 = 1
  · rw [if_pos (by rw [z1]; rfl)]
    by_cases z2 : f (en v (c / 4)) = f (en w (c % 4 + 1))
    · rw [if_pos (by rw [z2])]
      by_cases z3 : f (en v (c / 4 + 1)) = f (en w (c % 4))
      · rw [if_pos (by rw [z3])]
        exact Or.inl ⟨⟨z1, z2, z3⟩, rfl⟩
      · rw [if_neg (fun w => z3 ((nI_eq (by omega) (by omega)).mp w))]
        exact Or.inr ⟨fun w => z3 w.2.2, rfl⟩
    · rw [if_neg (fun w => z2 ((nI_eq (by omega) (by omega)).mp w))]
      exact Or.inr ⟨fun w => z2 w.2.1, rfl⟩
  · have n1 : ¬ (nI ((c / 4 + c % 4) % 2) = (1 : Int32)) := fun w => z1 ((nI_eq (b := 1) (by omega) (by omega)).mp w)
    rw [if_neg n1]
    exact Or.inr ⟨fun w => z1 w.1, rfl⟩
theorem q_bigon {a : Nat → Int32} {f : Nat → Nat} (h : Rp a f) {v w : Nat} (hv : v < 8) (hw : w < 8) : ∃ x, kX3_bigonCorner (nI v) (nI w) a = some x ∧ fndF (bE f v w) 0 16 nI (-1) x := by
  unfold kX3_bigonCorner
  refine it1_way (F := kX3_bigonCorner_L1 (nI v) (nI w) a) (x1 := 0) (n := 400) (fun i x => x = nI i ∧ ∀ k, k < i → ¬ bE f v w k) (fun r => ∃ x, r = some x ∧ fndF (bE f v w) 0 16 nI (-1) x) 16 (fun K i x hi hI => ?_) ⟨rfl, fun k hk => absurd hk (Nat.not_lt_zero _)⟩ (by omega)
  obtain ⟨rfl, hx⟩ := hI
  unfold kX3_bigonCorner_L1
  by_cases q : i = 16
  · left
    subst q
    exact ⟨-1, if_pos (by decide), Or.inr ⟨fun k _ hk => hx k hk, rfl⟩⟩
  · rw [if_neg (by rw [fa_lit 16]; exact nI_ge (by omega) (by omega))]
    rcases q_isBigon h hv hw (show i < 16 by omega) with ⟨z, e⟩ | ⟨z, e⟩
    · left
      rw [e, bnd1_e]
      exact ⟨_, if_neg (by decide), fndF.asc (by omega) z hx⟩
    · right
      rw [e, bnd1_e]
      refine ⟨by omega, _, if_pos rfl, nI_1 _, fun k hk => ?_⟩
      by_cases w : k = i
      · rw [w]; exact z
      · exact hx k (by omega)
theorem least_or (P : Nat → Prop) : ∀ n, (∃ k, k < n ∧ P k ∧ ∀ j, j < k → ¬ P j) ∨ ∀ k, k < n → ¬ P k
  | 0 => Or.inr fun k h => absurd h (Nat.not_lt_zero _)
  | n + 1 => by
    rcases least_or P n with ⟨k, h1, h2, h3⟩ | h
    · exact Or.inl ⟨k, by omega, h2, h3⟩
    · rcases Classical.em (P n) with g | g
      · exact Or.inl ⟨n, by omega, g, h⟩
      · refine Or.inr fun k hk => ?_
        by_cases w : k = n
        · rw [w]; exact g
        · exact h k (by omega)
