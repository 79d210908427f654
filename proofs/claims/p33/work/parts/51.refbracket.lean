/-! ===== the reference's bracket ===== -/
/-- D^n's part up to the k-th summand -/
def gP (n s k i : Nat) : Int32 := if i ≤ s + 2 * n ∧ (s + 2 * n - i) % 4 = 0 ∧ (s + 2 * n - i) / 4 < k then bI n ((s + 2 * n - i) / 4) else 0
theorem gP_full {n s i : Nat} (hn : n < 20) (hs : s ≤ 68) : gP n s (n + 1) i = gD n s i := by
  unfold gP gD
  by_cases h : i ≤ s + 2 * n ∧ (s + 2 * n - i) % 4 = 0
  · by_cases q : (s + 2 * n - i) / 4 < n + 1
    · rw [if_pos ⟨h.1, h.2, q⟩, if_pos h]
    · rw [if_neg (fun z => q z.2.2), if_pos h, bI_out (by omega) (by omega) (by omega)]
  · rw [if_neg (fun z => h ⟨z.1, z.2.1⟩), if_neg h]
theorem idxB : ∀ n, n < 20 → ∀ k, k < n + 1 → ∀ s, s < 69 → 52 ≤ s → ((nI s + 2 * (nI (n + 1) - 1)) - 4 * nI k : Int32) = nI (s + 2 * n - 4 * k) := by
  intro n hn k hk s hs hs2
  have e1 : (nI (n + 1) - 1 : Int32) = nI n := nI_pred n
  rw [e1, fa_lit 2, pk_mul, nI_add, fa_lit 4, pk_mul, pk_sub (by omega)]
theorem sixty (s : Nat) : (60 + (nI s - 60) : Int32) = nI s := by
  rw [Int32.add_comm, Int32.sub_add_cancel]
/-! ===== the lowest and the highest place, the alternating sum ===== -/
theorem at60 : ∀ i, i < 121 → ((nI i - 60) + 60 : Int32) = nI i := by decide +kernel
theorem gt60 : ∀ i, i < 400 → ((60 : Int32) < nI i - 60 ↔ 120 < i) := by decide +kernel
theorem lt60 : ∀ i, i < 122 → ((nI i - 1 - 60 : Int32) < -60 ↔ i = 0) := by decide +kernel
/-- the place v of the first coefficient other than 0, or none -/
def LoP (g : Nat → Int32) (v : Int32) : Prop := (∃ j, j < 121 ∧ g j ≠ 0 ∧ (∀ k, k < j → g k = 0) ∧ v = nI j - 60) ∨ ((∀ k, k < 121 → g k = 0) ∧ v = -1000009)
def HiP (g : Nat → Int32) (v : Int32) : Prop := (∃ j, j < 121 ∧ g j ≠ 0 ∧ (∀ k, j < k → k < 121 → g k = 0) ∧ v = nI j - 60) ∨ ((∀ k, k < 121 → g k = 0) ∧ v = -1000009)
theorem LoP.only {g : Nat → Int32} {v w : Int32} (h1 : LoP g v) (h2 : LoP g w) : v = w := by
  rcases h1 with ⟨j, a1, a2, a3, rfl⟩ | ⟨a1, rfl⟩ <;> rcases h2 with ⟨k, b1, b2, b3, rfl⟩ | ⟨b1, rfl⟩
  · rcases Nat.lt_trichotomy j k with q | q | q
    · exact absurd (b3 j q) a2
    · rw [q]
    · exact absurd (a3 k q) b2
  · exact absurd (b1 j a1) a2
  · exact absurd (a1 k b1) b2
  · rfl
theorem HiP.only {g : Nat → Int32} {v w : Int32} (h1 : HiP g v) (h2 : HiP g w) : v = w := by
  rcases h1 with ⟨j, a1, a2, a3, rfl⟩ | ⟨a1, rfl⟩ <;> rcases h2 with ⟨k, b1, b2, b3, rfl⟩ | ⟨b1, rfl⟩
  · rcases Nat.lt_trichotomy j k with q | q | q
    · exact absurd (a3 k q b1) b2
    · rw [q]
    · exact absurd (b3 j q a1) a2
  · exact absurd (b1 j a1) a2
  · exact absurd (a1 k b1) b2
  · rfl
theorem LoP.cong {g h : Nat → Int32} {v : Int32} (e : ∀ i, i < 121 → g i = h i) (hv : LoP g v) : LoP h v := by
  rcases hv with ⟨j, a1, a2, a3, rfl⟩ | ⟨a1, rfl⟩
  · exact Or.inl ⟨j, a1, by rw [← e j a1]; exact a2, fun k hk => by rw [← e k (by omega)]; exact a3 k hk, rfl⟩
  · exact Or.inr ⟨fun k hk => by rw [← e k hk]; exact a1 k hk, rfl⟩
theorem HiP.cong {g h : Nat → Int32} {v : Int32} (e : ∀ i, i < 121 → g i = h i) (hv : HiP g v) : HiP h v := by
  rcases hv with ⟨j, a1, a2, a3, rfl⟩ | ⟨a1, rfl⟩
  · exact Or.inl ⟨j, a1, by rw [← e j a1]; exact a2, fun k h1 hk => by rw [← e k hk]; exact a3 k h1 hk, rfl⟩
  · exact Or.inr ⟨fun k hk => by rw [← e k hk]; exact a1 k hk, rfl⟩
theorem q_lowest (cf : Nat → Int32) : ∃ v, kX0_lowest cf = some v ∧ LoP cf v := by
  unfold kX0_lowest
  refine it1_way (F := kX0_lowest_L1 cf) (x1 := -60) (n := 400) (fun i x => x = nI i - 60 ∧ ∀ k, k < i → cf k = 0) (fun r => ∃ v, r = some v ∧ LoP cf v) 121 (fun K i x hi hI => ?_) ⟨by decide, fun k h => absurd h (Nat.not_lt_zero _)⟩ (by omega)
  obtain ⟨rfl, hx⟩ := hI
  unfold kX0_lowest_L1
  by_cases q : i = 121
  · left
    subst q
    exact ⟨-1000009, if_pos (by decide), Or.inr ⟨hx, rfl⟩⟩
  · rw [if_neg (fun z => by have := (gt60 i (by omega)).mp z; omega), q_at (at60 i (by omega)) (by omega), bnd1_e]
    by_cases z : cf i = 0
    · right
      refine ⟨by omega, nI (i + 1) - 60, ?_, rfl, fun k hk => ?_⟩
      · rw [if_pos z, ← nI_1, Int32.sub_eq_add_neg, Int32.sub_eq_add_neg, Int32.add_assoc, Int32.add_assoc, Int32.add_comm (-60) 1]
      · by_cases w : k = i
        · rw [w]; exact z
        · exact hx k (by omega)
    · left
      exact ⟨nI i - 60, if_neg z, Or.inl ⟨i, by omega, z, hx, rfl⟩⟩
theorem q_highest (cf : Nat → Int32) : ∃ v, kX0_highest cf = some v ∧ HiP cf v := by
  unfold kX0_highest
  refine it1_way (F := kX0_highest_L1 cf) (x1 := 60) (n := 400) (fun i x => x = nI (121 - i) - 1 - 60 ∧ ∀ k, 121 - i ≤ k → k < 121 → cf k = 0) (fun r => ∃ v, r = some v ∧ HiP cf v) 121 (fun K i x hi hI => ?_) ⟨by decide, fun k h1 h2 => by omega⟩ (by omega)
  obtain ⟨rfl, hx⟩ := hI
  unfold kX0_highest_L1
  by_cases q : i = 121
  · left
    subst q
    exact ⟨-1000009, if_pos (by decide), Or.inr ⟨fun k hk => hx k (by omega) hk, rfl⟩⟩
  · have e1 : (nI (121 - i) - 1 : Int32) = nI (120 - i) := by rw [show 121 - i = 120 - i + 1 by omega, nI_pred]
    rw [if_neg (fun z => by have := (lt60 (121 - i) (by omega)).mp z; omega), e1, q_at (at60 (120 - i) (by omega)) (by omega), bnd1_e]
    by_cases z : cf (120 - i) = 0
    · right
      refine ⟨by omega, nI (121 - (i + 1)) - 1 - 60, ?_, rfl, fun k h1 h2 => ?_⟩
      · rw [if_pos z, show 121 - (i + 1) = 120 - i by omega, Int32.sub_eq_add_neg, Int32.sub_eq_add_neg (nI (120 - i)) 1, Int32.sub_eq_add_neg, Int32.add_assoc, Int32.add_assoc, Int32.add_comm (-60) (-1)]
      · by_cases w : k = 120 - i
        · rw [w]; exact z
        · exact hx k (by omega) h2
    · left
      exact ⟨nI (120 - i) - 60, if_neg z, Or.inl ⟨120 - i, by omega, z, fun k h1 h2 => hx k (by omega) h2, rfl⟩⟩
/-- the sum, its sign: i summands from place j on -/
def aS (g : Nat → Int32) (j : Nat) : Nat → Int32 × Int32
  | 0 => (0, 1)
  | i + 1 => ((aS g j i).1 + (aS g j i).2 * g (j + 4 * i), -(aS g j i).2)
theorem aS_cong {g h : Nat → Int32} {j : Nat} (e : ∀ i, i < 121 → g i = h i) : ∀ i, (i = 0 ∨ j + 4 * (i - 1) < 121) → aS g j i = aS h j i
  | 0, _ => rfl
  | i + 1, hi => by
    have ih := aS_cong (j := j) e i (by omega)
    show ((aS g j i).1 + (aS g j i).2 * g (j + 4 * i), -(aS g j i).2) = ((aS h j i).1 + (aS h j i).2 * h (j + 4 * i), -(aS h j i).2)
    rw [ih, e _ (by omega)]
theorem step4 : ∀ n, n < 121 → (nI n - 60 + 4 : Int32) = nI (n + 4) - 60 := by decide +kernel
theorem idx60 : ∀ n, n < 121 → (60 + (nI n - 60) : Int32) = nI n := by decide +kernel
theorem abs_eq (x : Int32) : iabs x = if 0 ≤ x then x else -x := by
  unfold iabs
  rw [Int32.zero_sub]
theorem q_alternating {cf : Nat → Int32} {v : Int32} (hv : kX0_lowest cf = some v) (hl : LoP cf v) : ∃ w, kX0_alternatingSum cf = some w ∧ ((v = -1000009 ∧ w = 0) ∨ ∃ j, j < 121 ∧ v ≠ -1000009 ∧ v = nI j - 60 ∧ w = iabs (aS cf j ((124 - j) / 4)).1) := by
  unfold kX0_alternatingSum
  rw [hv, bnd1_e]
  by_cases q : v = -1000009
  · exact ⟨0, if_pos q, Or.inl ⟨q, rfl⟩⟩
  · rw [if_neg q]
    rcases hl with ⟨j, h1, h2, h3, rfl⟩ | ⟨_, h⟩
    · refine ⟨_, ?_, Or.inr ⟨j, h1, q, rfl, rfl⟩⟩
      refine it3_run (fun i => (aS cf j i).1) (fun i => (aS cf j i).2) (fun i => nI (j + 4 * i) - 60) ((124 - j) / 4) (fun K i hi => ?_) (fun K => ?_) rfl rfl rfl (by omega)
      · unfold kX0_alternatingSum_L1
        rw [if_neg (fun z => by have := (gt60 (j + 4 * i) (by omega)).mp z; omega), q_at (at60 (j + 4 * i) (by omega)) (by omega), bnd1_e, step4 _ (by omega)]
        rfl
      · unfold kX0_alternatingSum_L1
        rw [if_pos ((gt60 _ (by omega)).mpr (by omega))]
    · exact absurd h q
