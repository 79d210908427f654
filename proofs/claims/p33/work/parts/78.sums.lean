/-! ===== the bracket over the integers ===== -/
/-- the coefficient of D^n * A^s at the exponent e -/
def gZ : Nat → Int → Int → Int
  | 0, s, e => if e = s then 1 else 0
  | n + 1, s, e => -gZ n s (e - 2) - gZ n s (e + 2)
theorem gZ_succ (n : Nat) (s e : Int) : gZ (n + 1) s e = -gZ n s (e - 2) - gZ n s (e + 2) := rfl
theorem gZ_shift (d : Int) : ∀ (n : Nat) (s e : Int), gZ n (s + d) (e + d) = gZ n s e
  | 0, s, e => by
    show (if e + d = s + d then (1 : Int) else 0) = if e = s then 1 else 0
    by_cases h : e = s
    · rw [if_pos h, if_pos (by omega)]
    · rw [if_neg h, if_neg (by omega)]
  | n + 1, s, e => by
    rw [gZ_succ, gZ_succ, show e + d - 2 = e - 2 + d by omega, show e + d + 2 = e + 2 + d by omega, gZ_shift d n, gZ_shift d n]
theorem gZ_neg : ∀ (n : Nat) (s e : Int), gZ n (-s) (-e) = gZ n s e
  | 0, s, e => by
    show (if -e = -s then (1 : Int) else 0) = if e = s then 1 else 0
    by_cases h : e = s
    · rw [if_pos h, if_pos (by omega)]
    · rw [if_neg h, if_neg (by omega)]
  | n + 1, s, e => by
    rw [gZ_succ, gZ_succ, show -e - 2 = -(e + 2) by omega, show -e + 2 = -(e - 2) by omega, gZ_neg n, gZ_neg n]
    omega
theorem gZ_far : ∀ (n : Nat) (s e : Int), (e < s - 2 * n ∨ s + 2 * n < e) → gZ n s e = 0
  | 0, s, e, h => if_neg (by omega)
  | n + 1, s, e, h => by
    rw [gZ_succ, gZ_far n s (e - 2) (by omega), gZ_far n s (e + 2) (by omega)]
    rfl
theorem gZ_mod : ∀ (n : Nat) (s e : Int), gZ n s e ≠ 0 → (e - s - 2 * n) % 4 = 0
  | 0, s, e, h => by
    by_cases q : e = s
    · omega
    · exact absurd (if_neg q) h
  | n + 1, s, e, h => by
    by_cases q : gZ n s (e - 2) = 0
    · by_cases r : gZ n s (e + 2) = 0
      · rw [gZ_succ, q, r] at h; exact absurd rfl h
      · have := gZ_mod n s _ r; omega
    · have := gZ_mod n s _ q; omega
/-- the range of a coefficient -/
theorem gZ_abs : ∀ (n : Nat) (s e : Int), -(2 ^ n : Nat) ≤ gZ n s e ∧ gZ n s e ≤ (2 ^ n : Nat)
  | 0, s, e => by
    show -(2 ^ 0 : Nat) ≤ (if e = s then (1 : Int) else 0) ∧ (if e = s then (1 : Int) else 0) ≤ (2 ^ 0 : Nat)
    by_cases h : e = s
    · rw [if_pos h]; decide
    · rw [if_neg h]; decide
  | n + 1, s, e => by
    have a := gZ_abs n s (e - 2)
    have b := gZ_abs n s (e + 2)
    rw [gZ_succ, Nat.pow_succ]
    omega
theorem gD_gZ : ∀ (n : Nat), n < 20 → ∀ s i : Nat, 52 ≤ s → s ≤ 68 → i < 121 → gD n s i = Int32.ofInt (gZ n ((s : Int) - 60) ((i : Int) - 60))
  | 0, _, s, i, h1, h2, hi => by
    rw [gD_zero h1 h2 hi]
    show _ = Int32.ofInt (if (i : Int) - 60 = (s : Int) - 60 then 1 else 0)
    by_cases q : i = s
    · rw [if_pos q, if_pos (by omega)]; rfl
    · rw [if_neg q, if_neg (by omega)]; rfl
  | n + 1, hn, s, i, h1, h2, hi => by
    rw [gD_step (by omega) h1 h2 hi, gZ_succ, Int32.ofInt_sub, Int32.ofInt_neg]
    have e1 : (if 2 ≤ i then gD n s (i - 2) else 0) = Int32.ofInt (gZ n ((s : Int) - 60) ((i : Int) - 60 - 2)) := by
      by_cases q : 2 ≤ i
      · rw [if_pos q, gD_gZ n (by omega) s (i - 2) h1 h2 (by omega), show ((i - 2 : Nat) : Int) - 60 = (i : Int) - 60 - 2 by omega]
      · rw [if_neg q, gZ_far n _ _ (by omega)]; rfl
    have e2 : (if i + 2 < 121 then gD n s (i + 2) else 0) = Int32.ofInt (gZ n ((s : Int) - 60) ((i : Int) - 60 + 2)) := by
      by_cases q : i + 2 < 121
      · rw [if_pos q, gD_gZ n (by omega) s (i + 2) h1 h2 q, show ((i + 2 : Nat) : Int) - 60 = (i : Int) - 60 + 2 by omega]
      · rw [if_neg q, gZ_far n _ _ (by omega)]; rfl
    rw [e1, e2]
/-- a state's part: L loops -/
def gL (L : Nat) (s e : Int) : Int := if L = 0 then 0 else gZ (L - 1) s e
theorem gL_succ (n : Nat) (s e : Int) : gL (n + 1) s e = gZ n s e := by
  unfold gL
  rw [if_neg (by omega), Nat.add_sub_cancel]
/-- the bracket's coefficient at the exponent e -/
def BZ (c o : Nat) (f : Nat → Nat) (e : Int) : Int := fb_si (fun st => gL (Lo c o f st) ((c : Int) - 2 * (pc st : Int)) e) (2 ^ c)
theorem sI_ofInt (g : Nat → Int) : ∀ n, sI (fun k => Int32.ofInt (g k)) n = Int32.ofInt (fb_si g n)
  | 0 => rfl
  | n + 1 => by
    rw [fb_si_succ, Int32.ofInt_add, ← sI_ofInt g n]
    rfl
theorem Lo_le {c o : Nat} {f : Nat → Nat} (hV : Vd c o f) (st : Nat) : Lo c o f st ≤ 20 := by
  have := nLo_le c hV st
  have := hV.2.1
  unfold Lo
  omega
theorem brk_BZ {c o : Nat} {f : Nat → Nat} (hV : Vd c o f) {i : Nat} (hi : i < 121) : brk c o f i = Int32.ofInt (BZ c o f ((i : Int) - 60)) := by
  have hc := hV.1
  unfold brk BZ
  rw [← sI_ofInt]
  refine sI_cong (fun st hst => ?_)
  have hp := pc_le hc hst
  have hl := Lo_le hV st
  unfold gI gL
  by_cases q : Lo c o f st = 0
  · rw [if_pos q, if_pos q]; rfl
  · rw [if_neg q, if_neg q, gD_gZ _ (by omega) _ _ (by omega) (by omega) hi, show ((60 + c - 2 * pc st : Nat) : Int) - 60 = (c : Int) - 2 * (pc st : Int) by omega]
theorem BZ_far {c o : Nat} {f : Nat → Nat} (hV : Vd c o f) {e : Int} (h : e < -46 ∨ 46 < e) : BZ c o f e = 0 := by
  have hc := hV.1
  unfold BZ
  have : ∀ n, n ≤ 2 ^ c → fb_si (fun st => gL (Lo c o f st) ((c : Int) - 2 * (pc st : Int)) e) n = 0 := by
    intro n
    induction n with
    | zero => intro _; rfl
    | succ n ih =>
      intro hn
      rw [fb_si_succ, ih (by omega)]
      have hp := pc_le hc (show n < 2 ^ c by omega)
      have hl := Lo_le hV n
      unfold gL
      by_cases q : Lo c o f n = 0
      · rw [if_pos q]; rfl
      · rw [if_neg q, gZ_far _ _ _ (by omega)]; rfl
  exact this _ (Nat.le_refl _)
/-! sums over states, a crossing's bit apart -/
theorem si_blocks (F : Nat → Int) (n : Nat) : ∀ m, fb_si F (m * n) = fb_si (fun q => fb_si (fun r => F (q * n + r)) n) m
  | 0 => by rw [Nat.zero_mul]; rfl
  | m + 1 => by rw [Nat.succ_mul, fb_si_split, si_blocks F n m, fb_si_succ]
/-- the bit b put in at the place v -/
def ins (v b x : Nat) : Nat := x / 2 ^ v * 2 ^ (v + 1) + b * 2 ^ v + x % 2 ^ v
theorem ins_block {v b q r : Nat} (hr : r < 2 ^ v) : ins v b (q * 2 ^ v + r) = q * 2 ^ (v + 1) + (b * 2 ^ v + r) := by
  unfold ins
  have h1 : (q * 2 ^ v + r) / 2 ^ v = q := by
    rw [Nat.add_comm, Nat.add_mul_div_right _ _ (Nat.two_pow_pos v), Nat.div_eq_of_lt hr, Nat.zero_add]
  have h2 : (q * 2 ^ v + r) % 2 ^ v = r := by
    rw [Nat.add_comm, Nat.add_mul_mod_self_right, Nat.mod_eq_of_lt hr]
  rw [h1, h2]
  omega
theorem si_ins (F : Nat → Int) {c v : Nat} (hv : v < c) : fb_si F (2 ^ c) = fb_si (fun x => F (ins v 0 x) + F (ins v 1 x)) (2 ^ (c - 1)) := by
  have e1 : 2 ^ c = 2 ^ (c - 1 - v) * 2 ^ (v + 1) := by rw [← Nat.pow_add]; congr 1; omega
  have e2 : 2 ^ (c - 1) = 2 ^ (c - 1 - v) * 2 ^ v := by rw [← Nat.pow_add]; congr 1; omega
  rw [e1, e2, si_blocks, si_blocks]
  refine fb_si_cong (fun q _ => ?_)
  have e3 : 2 ^ (v + 1) = 2 ^ v + 2 ^ v := by rw [Nat.pow_succ]; omega
  rw [fb_si_add]
  rw [show fb_si (fun r => F (q * 2 ^ (v + 1) + r)) (2 ^ (v + 1)) = fb_si (fun r => F (q * 2 ^ (v + 1) + r)) (2 ^ v + 2 ^ v) by rw [← e3], fb_si_split]
  congr 1
  · refine fb_si_cong (fun r hr => ?_)
    rw [ins_block hr]
    congr 1
    omega
  · refine fb_si_cong (fun r hr => ?_)
    show F (q * 2 ^ (v + 1) + (2 ^ v + r)) = F (ins v 1 (q * 2 ^ v + r))
    rw [ins_block hr]
    congr 1
    omega
theorem ins_bit : ∀ v, v < 8 → ∀ x, x < 128 → ∀ j, j < 8 → ((ins v 0 x).testBit j = if j < v then x.testBit j else if j = v then false else x.testBit (j - 1)) ∧ ((ins v 1 x).testBit j = if j < v then x.testBit j else if j = v then true else x.testBit (j - 1)) := by decide +kernel
theorem ins_pc : ∀ v, v < 8 → ∀ x, x < 128 → pc (ins v 0 x) = pc x ∧ pc (ins v 1 x) = pc x + 1 := by decide +kernel
theorem si_rev (F : Nat → Int) : ∀ n, fb_si (fun k => F (n - 1 - k)) n = fb_si F n
  | 0 => rfl
  | n + 1 => by
    have h := fb_si_split (fun k => F (n + 1 - 1 - k)) 1 n
    rw [Nat.add_comm 1 n] at h
    rw [h]
    have e1 : fb_si (fun k => F (n + 1 - 1 - k)) 1 = F n := by
      rw [fb_si_succ]
      show 0 + F (n + 1 - 1 - 0) = F n
      rw [Int.zero_add]; rfl
    have e2 : fb_si (fun k => (fun k => F (n + 1 - 1 - k)) (1 + k)) n = fb_si F n := by
      rw [← si_rev F n]
      refine fb_si_cong (fun k hk => ?_)
      show F (n + 1 - 1 - (1 + k)) = F (n - 1 - k)
      congr 1
      omega
    rw [e1, e2, fb_si_succ]
    omega
theorem si_neg (F : Nat → Int) : ∀ n, fb_si (fun k => -F k) n = -fb_si F n
  | 0 => rfl
  | n + 1 => by rw [fb_si_succ, fb_si_succ, si_neg F n]; omega
/-- the complement's bits -/
theorem not_bit : ∀ c, c ≤ 8 → ∀ st, st < 2 ^ c → (∀ j, j < c → (2 ^ c - 1 - st).testBit j = !st.testBit j) ∧ pc (2 ^ c - 1 - st) + pc st = c := by decide +kernel
theorem flip_pc0 : ∀ st, st < 256 → ∀ v, v < 8 → pc st + (if st.testBit v = true then 0 else 1) = pc (st ^^^ 2 ^ v) + (if st.testBit v = true then 1 else 0) := by decide +kernel
theorem flip_lt {c st v : Nat} (h : st < 2 ^ c) (hv : v < c) : (st ^^^ 2 ^ v) < 2 ^ c := Nat.xor_lt_two_pow h (Nat.pow_lt_pow_right (by omega) hv)
theorem flip_pc {c st v : Nat} (hc : c ≤ 8) (h : st < 2 ^ c) (hv : v < c) : (st.testBit v = true ∧ pc st = pc (st ^^^ 2 ^ v) + 1) ∨ (st.testBit v = false ∧ pc (st ^^^ 2 ^ v) = pc st + 1) := by
  have := flip_pc0 st (Nat.lt_of_lt_of_le h (two_c hc)) v (by omega)
  cases q : st.testBit v with
  | true => rw [q] at this; exact Or.inl ⟨rfl, this⟩
  | false => rw [q] at this; exact Or.inr ⟨rfl, this.symm⟩
