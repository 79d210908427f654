/-! ===== the powers of D ===== -/
def bnx (l : List Nat) : List Nat := List.zipWith (fun a b => a + b) (0 :: l) (l ++ [0])
def brow : Nat → List Nat
  | 0 => [1]
  | n + 1 => bnx (brow n)
def bin (n k : Nat) : Nat := (brow n).getD k 0
theorem bin_next : ∀ n, n < 20 → ∀ k, k < 22 → bin (n + 1) (k + 1) = bin n k + bin n (k + 1) := by decide +kernel
theorem bin_zero : ∀ n, n < 21 → bin n 0 = 1 := by decide +kernel
theorem bin_out : ∀ n, n < 21 → ∀ k, k < 60 → n < k → bin n k = 0 := by decide +kernel
def bI (n k : Nat) : Int32 := if n % 2 = 0 then nI (bin n k) else -nI (bin n k)
theorem bI_step : ∀ n, n < 20 → ∀ k, k < n + 1 → bI n k * (nI n - nI k) / nI (k + 1) = bI n (k + 1) := by decide +kernel
theorem bI_out {n k : Nat} (hn : n < 21) (hk : k < 60) (h : n < k) : bI n k = 0 := by
  unfold bI
  rw [bin_out n hn k hk h]
  by_cases q : n % 2 = 0
  · rw [if_pos q]; rfl
  · rw [if_neg q]; rfl
theorem bI_next {n k : Nat} (hn : n < 20) (hk : k < 22) : bI (n + 1) (k + 1) = -bI n (k + 1) - bI n k := by
  unfold bI
  rw [bin_next n hn k hk, ← nI_add]
  by_cases q : n % 2 = 0
  · rw [if_neg (by omega), if_pos q, if_pos q, Int32.neg_add, Int32.sub_eq_add_neg, Int32.sub_eq_add_neg, Int32.add_comm]
  · rw [if_pos (by omega), if_neg q, if_neg q, Int32.neg_neg, Int32.sub_eq_add_neg, Int32.neg_neg, Int32.add_comm]
theorem bI_next0 {n : Nat} (hn : n < 20) : bI (n + 1) 0 = -bI n 0 - 0 := by
  unfold bI
  rw [bin_zero (n + 1) (by omega), bin_zero n (by omega)]
  by_cases q : n % 2 = 0
  · rw [if_neg (by omega), if_pos q]; decide
  · rw [if_pos (by omega), if_neg q]; decide
/-- the coefficient at place i of D^n times the power of A at place s -/
def gD (n s i : Nat) : Int32 := if i ≤ s + 2 * n ∧ (s + 2 * n - i) % 4 = 0 then bI n ((s + 2 * n - i) / 4) else 0
theorem gD_step {n s i : Nat} (hn : n < 20) (hs1 : 52 ≤ s) (hs2 : s ≤ 68) (hi : i < 121) : gD (n + 1) s i = -(if 2 ≤ i then gD n s (i - 2) else 0) - (if i + 2 < 121 then gD n s (i + 2) else 0) := by
  have zz : (-(0 : Int32)) - 0 = 0 := by decide
  by_cases h : i ≤ s + 2 * (n + 1) ∧ (s + 2 * (n + 1) - i) % 4 = 0
  · obtain ⟨h1, h2⟩ := h
    have e0 : gD (n + 1) s i = bI (n + 1) ((s + 2 * (n + 1) - i) / 4) := if_pos ⟨h1, h2⟩
    have e1 : (if 2 ≤ i then gD n s (i - 2) else 0) = bI n ((s + 2 * (n + 1) - i) / 4) := by
      by_cases q : 2 ≤ i
      · rw [if_pos q]
        unfold gD
        rw [if_pos (by omega), show s + 2 * n - (i - 2) = s + 2 * (n + 1) - i by omega]
      · rw [if_neg q, bI_out (by omega) (by omega) (by omega)]
    by_cases q0 : s + 2 * (n + 1) - i = 0
    · have e2 : (if i + 2 < 121 then gD n s (i + 2) else 0) = 0 := by
        by_cases q : i + 2 < 121
        · rw [if_pos q]
          unfold gD
          rw [if_neg (by omega)]
        · rw [if_neg q]
      rw [e0, e1, e2, q0]
      exact bI_next0 hn
    · have e2 : (if i + 2 < 121 then gD n s (i + 2) else 0) = bI n ((s + 2 * (n + 1) - i) / 4 - 1) := by
        by_cases q : i + 2 < 121
        · rw [if_pos q]
          unfold gD
          rw [if_pos (by omega), show (s + 2 * n - (i + 2)) / 4 = (s + 2 * (n + 1) - i) / 4 - 1 by omega]
        · omega
      rw [e0, e1, e2]
      obtain ⟨k, hk⟩ : ∃ k, (s + 2 * (n + 1) - i) / 4 = k + 1 := ⟨(s + 2 * (n + 1) - i) / 4 - 1, by omega⟩
      rw [hk, show k + 1 - 1 = k by omega]
      by_cases hb : k < 22
      · exact bI_next hn hb
      · rw [bI_out (by omega) (by omega) (by omega), bI_out (by omega) (by omega) (by omega), bI_out (by omega) (by omega) (by omega), zz]
  · have e0 : gD (n + 1) s i = 0 := if_neg h
    have e1 : (if 2 ≤ i then gD n s (i - 2) else 0) = 0 := by
      by_cases q : 2 ≤ i
      · rw [if_pos q]
        unfold gD
        rw [if_neg (by omega)]
      · rw [if_neg q]
    have e2 : (if i + 2 < 121 then gD n s (i + 2) else 0) = 0 := by
      by_cases q : i + 2 < 121
      · rw [if_pos q]
        unfold gD
        rw [if_neg (by omega)]
      · rw [if_neg q]
    rw [e0, e1, e2, zz]
theorem gD_zero {s i : Nat} (hs1 : 52 ≤ s) (hs2 : s ≤ 68) (hi : i < 121) : gD 0 s i = if i = s then 1 else 0 := by
  unfold gD
  by_cases q : i = s
  · rw [if_pos (by omega), if_pos q, q, show (s + 2 * 0 - s) / 4 = 0 by omega]; decide
  · rw [if_neg q]
    by_cases h : i ≤ s + 2 * 0 ∧ (s + 2 * 0 - i) % 4 = 0
    · rw [if_pos h]; exact bI_out (by omega) (by omega) (by omega)
    · rw [if_neg h]
/-! sums of int32s -/
def sI (g : Nat → Int32) : Nat → Int32
  | 0 => 0
  | n + 1 => sI g n + g n
theorem sI_cong {g h : Nat → Int32} : ∀ {n : Nat}, (∀ k, k < n → g k = h k) → sI g n = sI h n
  | 0, _ => rfl
  | n + 1, e => by
    show sI g n + g n = sI h n + h n
    rw [sI_cong (fun k hk => e k (by omega)), e n (by omega)]
/-! Horner's rule over a tally T of 21 rows of 9 -/
def mD (p : Nat → Int32) (i : Nat) : Int32 := -(if 2 ≤ i then p (i - 2) else 0) - (if i + 2 < 121 then p (i + 2) else 0)
def adT (T : Nat → Int32) (c l i : Nat) : Int32 := if i ≤ 60 + c ∧ 60 ≤ i + c ∧ (60 + c - i) % 2 = 0 then T (l * 9 + (60 + c - i) / 2) else 0
def hr (T : Nat → Int32) (c : Nat) : Nat → Nat → Int32
  | 0, _ => 0
  | k + 1, i => mD (hr T c k) i + adT T c (20 - k) i
theorem hr_zero (c : Nat) : ∀ k i, hr (fun _ => 0) c k i = 0
  | 0, _ => rfl
  | k + 1, i => by
    show mD (hr (fun _ => 0) c k) i + adT (fun _ => 0) c (20 - k) i = 0
    unfold mD adT
    rw [hr_zero c k, hr_zero c k]
    simp
theorem hr_cong {T U : Nat → Int32} {c : Nat} (hc : c ≤ 8) (h : ∀ j, j < 189 → T j = U j) : ∀ k i, hr T c k i = hr U c k i
  | 0, _ => rfl
  | k + 1, i => by
    show mD (hr T c k) i + adT T c (20 - k) i = mD (hr U c k) i + adT U c (20 - k) i
    have e1 : mD (hr T c k) i = mD (hr U c k) i := by unfold mD; rw [hr_cong hc h k, hr_cong hc h k]
    have e2 : adT T c (20 - k) i = adT U c (20 - k) i := by
      unfold adT
      by_cases q : i ≤ 60 + c ∧ 60 ≤ i + c ∧ (60 + c - i) % 2 = 0
      · rw [if_pos q, if_pos q, h _ (by omega)]
      · rw [if_neg q, if_neg q]
    rw [e1, e2]
theorem add4 (a b c d : Int32) : (a + b) + (c + d) = (a + c) + (b + d) := by
  rw [Int32.add_assoc, Int32.add_assoc, ← Int32.add_assoc b, ← Int32.add_assoc c, Int32.add_comm b c]
theorem hr_add (T U : Nat → Int32) (c : Nat) : ∀ k i, hr (fun j => T j + U j) c k i = hr T c k i + hr U c k i
  | 0, _ => rfl
  | k + 1, i => by
    show mD (hr (fun j => T j + U j) c k) i + adT (fun j => T j + U j) c (20 - k) i = (mD (hr T c k) i + adT T c (20 - k) i) + (mD (hr U c k) i + adT U c (20 - k) i)
    have e1 : mD (hr (fun j => T j + U j) c k) i = mD (hr T c k) i + mD (hr U c k) i := by
      unfold mD
      rw [hr_add T U c k, hr_add T U c k]
      by_cases q : 2 ≤ i <;> by_cases r : i + 2 < 121 <;> simp only [q, r, if_true, if_false, Int32.sub_eq_add_neg, Int32.neg_add, Int32.neg_zero, Int32.add_zero, Int32.zero_add]
      exact add4 _ _ _ _
    have e2 : adT (fun j => T j + U j) c (20 - k) i = adT T c (20 - k) i + adT U c (20 - k) i := by
      unfold adT
      by_cases q : i ≤ 60 + c ∧ 60 ≤ i + c ∧ (60 + c - i) % 2 = 0
      · rw [if_pos q, if_pos q, if_pos q]
      · rw [if_neg q, if_neg q, if_neg q]; rfl
    rw [e1, e2]
    exact add4 _ _ _ _
/-- a state's part of the bracket: L loops, its power of A at place s -/
def gI (L s i : Nat) : Int32 := if L = 0 then 0 else gD (L - 1) s i
def unitT (l b : Nat) : Nat → Int32 := fun j => if j = l * 9 + b then 1 else 0
theorem hr_unit {c l b : Nat} (hc : c ≤ 8) (hl : l ≤ 20) (hb : b ≤ c) : ∀ k, k ≤ 20 → ∀ i, i < 121 → hr (unitT l b) c k i = if 20 < k + l then (if l = 0 then 0 else gD (k + l - 21) (60 + c - 2 * b) i) else 0
  | 0, _, i, _ => by rw [if_neg (by omega)]; rfl
  | k + 1, hk, i, hi => by
    have ih := hr_unit (c := c) (l := l) (b := b) hc hl hb k (by omega)
    show mD (hr (unitT l b) c k) i + adT (unitT l b) c (20 - k) i = _
    have ead : adT (unitT l b) c (20 - k) i = if 20 - k = l ∧ i = 60 + c - 2 * b then 1 else 0 := by
      unfold adT unitT
      by_cases q : i ≤ 60 + c ∧ 60 ≤ i + c ∧ (60 + c - i) % 2 = 0
      · rw [if_pos q]
        by_cases r : 20 - k = l ∧ i = 60 + c - 2 * b
        · rw [if_pos r, if_pos (by obtain ⟨r1, r2⟩ := r; rw [r1]; omega)]
        · rw [if_neg r, if_neg (fun z => r (by omega))]
      · rw [if_neg q, if_neg (by omega)]
    have emd : ∀ (p q : Nat → Int32), (∀ j, j < 121 → p j = q j) → mD p i = mD q i := fun p q h => by
      unfold mD
      by_cases r : i + 2 < 121
      · rw [if_pos r, if_pos r, h _ r, h (i - 2) (by omega)]
      · rw [if_neg r, if_neg r, h (i - 2) (by omega)]
    by_cases h1 : 20 < k + l
    · have e1 : mD (hr (unitT l b) c k) i = mD (gD (k + l - 21) (60 + c - 2 * b)) i := emd _ _ (fun j hj => by rw [ih j hj, if_pos h1, if_neg (by omega)])
      rw [e1, ead, if_neg (by omega), if_pos (by omega), if_neg (by omega), Int32.add_zero, show k + 1 + l - 21 = k + l - 21 + 1 by omega, gD_step (by omega) (by omega) (by omega) hi]
      rfl
    · have e1 : mD (hr (unitT l b) c k) i = mD (fun _ => 0) i := emd _ _ (fun j hj => by rw [ih j hj, if_neg h1])
      have e2 : mD (fun _ => 0) i = 0 := by unfold mD; simp
      rw [e1, e2, Int32.zero_add, ead]
      by_cases h2 : 20 < k + 1 + l
      · by_cases h3 : l = 0
        · rw [if_pos h2, if_pos h3, if_neg (by omega)]
        · rw [if_pos h2, if_neg h3, show k + 1 + l - 21 = 0 by omega, gD_zero (by omega) (by omega) hi]
          by_cases q : i = 60 + c - 2 * b
          · rw [if_pos ⟨by omega, q⟩, if_pos q]
          · rw [if_neg (fun z => q z.2), if_neg q]
      · rw [if_neg h2, if_neg (by omega)]
/-- after n states -/
theorem hr_states {c : Nat} (hc : c ≤ 8) (L B : Nat → Nat) (hL : ∀ st, L st ≤ 20) (hB : ∀ st, B st ≤ c) : ∀ n i, i < 121 → hr (fun j => nI (fb_ct (fun st => L st * 9 + B st == j) n)) c 20 i = sI (fun st => gI (L st) (60 + c - 2 * B st) i) n
  | 0, i, _ => hr_zero c 20 i
  | n + 1, i, hi => by
    have e : (fun j => nI (fb_ct (fun st => L st * 9 + B st == j) (n + 1))) = fun j => nI (fb_ct (fun st => L st * 9 + B st == j) n) + unitT (L n) (B n) j := by
      funext j
      rw [fb_ct_succ, ← nI_add]
      unfold unitT
      by_cases q : j = L n * 9 + B n
      · rw [if_pos q, if_pos (by rw [q]; simp)]; rfl
      · rw [if_neg q, if_neg (fun z => q (beq_iff_eq.mp z).symm)]; rfl
    rw [e, hr_add, hr_states hc L B hL hB n i hi, hr_unit hc (hL n) (hB n) 20 (Nat.le_refl _) i hi]
    show _ = sI _ n + gI (L n) (60 + c - 2 * B n) i
    congr 1
    unfold gI
    by_cases q : L n = 0
    · rw [if_neg (by omega), if_pos q]
    · rw [if_pos (by omega), if_neg q, if_neg q, show 20 + L n - 21 = L n - 1 by omega]
